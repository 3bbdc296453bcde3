/-! THE CLAIM OUT OF ONE WALK OF THE LAW'S BODY. Your part is whole_start (and what it stands on); all else here is the same for every law, but numbers. -/
def R_law : String := "YoungBuyersLaw"
def lw_P (b : Addr) (xs : List Int32) (args : Array Value) (s : State) : Prop := args = #[.ref b] ∧ s.IntsAt b xs ∧ xs.length ≤ 3584 ∧ (Jvm.Cond.and given_1 narrow_1).before args s = true
def lw_Q (_ : Array Value) (s : State) (o : Outcome) (t : State) : Prop := o = .returned (some (.int 1)) ∧ Framed s o t [] 601024 7293034
def lw_Z (below : List Frame) (a : Array Value) (s : State) : State → Prop := fun t => ∃ o, t.status = .running ∧ Ended t below o ∧ lw_Q a s o t
/-- the law's own end, with 1 on the stack, nothing written that was there before, its room as the claim has it -/
theorem lw_ret {p : Program} {l : Launch} {e : Env} {s : State} {m : MethodId} {below : List Frame} {meth : Method} {c : Code} {b : Nat} (hx : p.tables.exec = Jvm.exec) (hb : c.code = code) (hr : meth.sig.returnType = ret) (hlocks : meth.locks = false) {pc : Nat} {H : Heap} {ls : Array Slot} (hdg : decode code pc = .ok (.ireturn, 1)) : W p l e room_1 s m #[Value.ref b] below meth c H [] 601024 7293034 (lw_Z below #[Value.ref b] s) (F0 m pc ls [.int 1]) := by
  intro T hT X
  obtain ⟨fs, hret, hrun, hended, hW, hframe⟩ := X.leave (v := some (.int 1)) (hlocks := hlocks) (fun h => by rw [hr] at h; cases h)
  have hmeth' : T.vm.method? m = some meth := X.method'
  refine ⟨T.setFrames fs, ?_, .returned (some (.int 1)), hrun, hended, rfl, ⟨_, rfl⟩, hW, hframe⟩
  jvm_step X.here [X.here.top, hx, hb, hdg, hmeth', hr, ret, narrow_b1]
  (try refine ⟨rfl, ?_⟩); (try refine ⟨rfl, ?_⟩)
  first | (intro acts; rw [hret _ acts rfl rfl rfl]) | rw [hret _ _ rfl rfl rfl]
  exact Steps.refl _
/-- what holds at the law's entry: the machine, the code, the tables' words (any of lw_tbl by 'hts w (by decide +kernel)'), the script of L ints xs at the cell b, what the Statement gives of the start (any of its parts by flat_of_before) -/
def lw_At (p : Program) (s : State) (m : MethodId) (meth : Method) (c : Code) (b L : Nat) (xs : Nat → Int32) : Prop :=
  p.tables.exec = Jvm.exec ∧ c.code = code ∧ meth.sig.returnType = ret ∧ c.maxLocals = 8 ∧ s.vm.findClass R_law = some m.cls ∧ (∀ w ∈ lw_tbl, w.before #[Value.ref b] s = true) ∧ va_X b L xs s s.heap ∧ b < s.heap.size ∧ meth.locks = false ∧ (Jvm.Cond.and given_1 narrow_1).before #[Value.ref b] s = true

theorem lg_cmp_self (r : Int64) : lg_cmp r r = 0 := by
  unfold lg_cmp
  rw [if_neg (by show ¬ r < r; rw [Int64.lt_iff_toInt_lt]; omega), if_pos rfl]
theorem wk_keepo {cA : Nat → ClassId} {qo : Nat} {fo : Nat → Int64} {D : va_G} {H H1 : Heap} (hP : va_P D mm_cl (lb_c cA qo fo) H) (h : qo < H.size → H1[qo]? = H[qo]?) : va_P D mm_cl (lb_c cA qo fo) H1 :=
  hP.kept (fun k q hk => by
    have hlt := (hP k q hk).lt
    have h1 := (List.getElem?_eq_some_iff.mp hk).1
    simp [lb_c] at h1
    subst h1
    cases hk
    exact h hlt)
def op_i (Rel : mm_M → mm_M → Prop) (F G : mm_M → Option (Int32 × mm_M)) : Prop := ∀ MC MR, Rel MC MR → ∃ r MC1 MR1, F MC = some (r, MC1) ∧ G MR = some (r, MR1) ∧ Rel MC1 MR1
def op_l (Rel : mm_M → mm_M → Prop) (F G : mm_M → Option (Int64 × mm_M)) : Prop := ∀ MC MR, Rel MC MR → ∃ r MC1 MR1, F MC = some (r, MC1) ∧ G MR = some (r, MR1) ∧ Rel MC1 MR1
def op_b (Rel : mm_M → mm_M → Prop) (a : Int32) : Prop := ∀ MC MR, Rel MC MR → ∃ (q : Int32 × Int64 × mm_M) (r : Int64) (MR1 MR2 : mm_M), b_back a MC = some q ∧ f_X12_back a MR = some (r, MR1) ∧ f_X12_thrown MR1 = some (q.1, MR2) ∧ (q.1 = 0 → q.2.1 = r) ∧ Rel q.2.2 MR2
/-- all that the law's walk knows from its start on -/
def LwC (p : Program) (l : Launch) (s : State) (m : MethodId) (meth : Method) (c : Code) (b L : Nat) (xs : Nat → Int32) (D : va_G) (cA : Nat → ClassId) (adC adR : Nat → Nat) (qo sa1 sa2 : Nat) : Prop :=
  p.tables.exec = Jvm.exec ∧ c.code = cL_law ∧ c.maxLocals = 8 ∧ meth.sig.returnType = ret ∧ meth.locks = false ∧ s.vm.findClass RL = some m.cls ∧ (∀ w ∈ mm_T, w.before #[Value.ref b] s = true) ∧ va_K D mm_cl (mm_tys cA) s ∧ mm_nw s ∧ va_X b L xs s s.heap ∧ b < s.heap.size ∧
  mm_inj sysC adC ∧ mm_inj sysR adR ∧ (∀ q, mm_A sysR adR q → ¬ mm_A sysC adC q) ∧ ¬ mm_A sysC adC qo ∧ ¬ mm_A sysR adR qo ∧ (∀ q, mm_A sysC adC q → s.heap.size ≤ q) ∧ (∀ q, mm_A sysR adR q → s.heap.size ≤ q) ∧ s.heap.size ≤ qo ∧
  xK sa1 sa2 s ∧ va_Nc xE2 xE1 s ∧ xZ (fun q => s.heap.size ≤ q) s s.heap ∧ l.stackTraces = false
def LwI (Rel : mm_M → mm_M → Prop) (s : State) (b : Nat) (D : va_G) (cA : Nat → ClassId) (adC adR : Nat → Nat) (qo i : Nat) (MC MR : mm_M) (fo : Nat → Int64) (H : Heap) (locs : List Loc) (ls : Array Slot) : Prop :=
  Rel MC MR ∧ va_P D mm_cl (mm_W sysC cA adC MC) H ∧ va_P D mm_cl (mm_W sysR cA adR MR) H ∧ va_P D mm_cl (lb_c cA qo fo) H ∧ va_S (fun q => s.heap.size ≤ q) s.heap H locs ∧ lv_has ls 8 [(0, .ref b), (1, .ref (adC 0)), (2, .ref (adR 0)), (3, .ref qo), (4, .int (nI i))]
def LwA (Rel : mm_M → mm_M → Prop) (p : Program) (l : Launch) (e : Env) (s : State) (m : MethodId) (below : List Frame) (meth : Method) (c : Code) (b : Nat) (D : va_G) (cA : Nat → ClassId) (adC adR : Nat → Nat) (qo i k n pc : Nat) : Prop :=
  ∀ (MC MR : mm_M) (fo : Nat → Int64) (H : Heap) (locs : List Loc) (ls : Array Slot), LwI Rel s b D cA adC adR qo i MC MR fo H locs ls → W p l e room_1 s m #[Value.ref b] below meth c H locs k n (lw_Z below #[Value.ref b] s) (F0 m pc ls [])
theorem lw_h {i k L : Nat} {x : Int32} (hx : x = nI k) (hk : k ≤ 6) (hi : i + 6 < L) (hL : L ≤ 3584) : vp_in (nI i + x) L := by
  rw [hx, nI_add]
  exact vp_in_nI (by omega) (by omega)
set_option maxRecDepth 20000 in
theorem lk_L_21 : Cond.methodLink RL 21 yX11_days ∈ mm_T := mm_tbk mm_t2 218 rfl rfl
set_option maxRecDepth 20000 in
theorem lk_L_25 : Cond.methodLink RL 25 yX12_days ∈ mm_T := mm_tbk mm_t6 152 rfl rfl
set_option maxRecDepth 20000 in
theorem lk_L_26 : Cond.methodLink RL 26 yX11_shop ∈ mm_T := mm_tbk mm_t2 226 rfl rfl
set_option maxRecDepth 20000 in
theorem lk_L_30 : Cond.methodLink RL 30 yX12_shop ∈ mm_T := mm_tbk mm_t6 160 rfl rfl
set_option maxRecDepth 20000 in
theorem lk_L_31 : Cond.methodLink RL 31 yX11_weight ∈ mm_T := mm_tbk mm_t3 8 rfl rfl
set_option maxRecDepth 20000 in
theorem lk_L_35 : Cond.methodLink RL 35 yX12_weight ∈ mm_T := mm_tbk mm_t6 167 rfl rfl
set_option maxRecDepth 20000 in
theorem lk_L_36 : Cond.methodLink RL 36 yX11_open ∈ mm_T := mm_tbk mm_t3 16 rfl rfl
set_option maxRecDepth 20000 in
theorem lk_L_40 : Cond.methodLink RL 40 yX12_open ∈ mm_T := mm_tbk mm_t6 175 rfl rfl
set_option maxRecDepth 20000 in
theorem lk_L_41 : Cond.methodLink RL 41 yX11_sell ∈ mm_T := mm_tbk mm_t3 20 rfl rfl
set_option maxRecDepth 20000 in
theorem lk_L_44 : Cond.methodLink RL 44 yX12_sell ∈ mm_T := mm_tbk mm_t6 179 rfl rfl
set_option maxRecDepth 20000 in
theorem lk_L_45 : Cond.methodLink RL 45 yX11_child ∈ mm_T := mm_tbk mm_t3 29 rfl rfl
set_option maxRecDepth 20000 in
theorem lk_L_48 : Cond.methodLink RL 48 yX12_child ∈ mm_T := mm_tbk mm_t6 183 rfl rfl
set_option maxRecDepth 20000 in
theorem lk_L_49 : Cond.methodLink RL 49 yX11_guess ∈ mm_T := mm_tbk mm_t3 42 rfl rfl
set_option maxRecDepth 20000 in
theorem lk_L_52 : Cond.methodLink RL 52 yX12_guess ∈ mm_T := mm_tbk mm_t6 187 rfl rfl
set_option maxRecDepth 20000 in
theorem lk_L_53 : Cond.methodLink RL 53 yX11_childOf ∈ mm_T := mm_tbk mm_t3 50 rfl rfl
set_option maxRecDepth 20000 in
theorem lk_L_56 : Cond.methodLink RL 56 yX12_childOf ∈ mm_T := mm_tbk mm_t6 195 rfl rfl
set_option maxRecDepth 20000 in
theorem lk_L_57 : Cond.methodLink RL 57 yX11_known ∈ mm_T := mm_tbk mm_t3 63 rfl rfl
set_option maxRecDepth 20000 in
theorem lk_L_61 : Cond.methodLink RL 61 yX12_known ∈ mm_T := mm_tbk mm_t6 207 rfl rfl
set_option maxRecDepth 20000 in
theorem lk_L_62 : Cond.methodLink RL 62 yX11_draw ∈ mm_T := mm_tbk mm_t3 71 rfl rfl
set_option maxRecDepth 20000 in
theorem lk_L_65 : Cond.methodLink RL 65 yX12_draw ∈ mm_T := mm_tbk mm_t6 211 rfl rfl
set_option maxRecDepth 20000 in
theorem lk_L_66 : Cond.methodLink RL 66 yX11_drawn ∈ mm_T := mm_tbk mm_t3 100 rfl rfl
set_option maxRecDepth 20000 in
theorem lk_L_69 : Cond.methodLink RL 69 yX12_drawn ∈ mm_T := mm_tbk mm_t6 234 rfl rfl
set_option maxRecDepth 20000 in
theorem lk_L_82 : Cond.methodLink RL 82 yX11_feed ∈ mm_T := mm_tbk mm_t3 119 rfl rfl
set_option maxRecDepth 20000 in
theorem lk_L_86 : Cond.methodLink RL 86 yX12_feed ∈ mm_T := mm_tbk mm_t7 79 rfl rfl
set_option maxRecDepth 20000 in
theorem lk_L_87 : Cond.methodLink RL 87 yX11_rule ∈ mm_T := mm_tbk mm_t3 128 rfl rfl
set_option maxRecDepth 20000 in
theorem lk_L_90 : Cond.methodLink RL 90 yX12_rule ∈ mm_T := mm_tbk mm_t7 84 rfl rfl
set_option maxRecDepth 20000 in
theorem lk_L_91 : Cond.methodLink RL 91 yX11_force ∈ mm_T := mm_tbk mm_t3 185 rfl rfl
set_option maxRecDepth 20000 in
theorem lk_L_94 : Cond.methodLink RL 94 yX12_force ∈ mm_T := mm_tbk mm_t7 88 rfl rfl
set_option maxRecDepth 20000 in
theorem lk_L_95 : Cond.methodLink RL 95 yX11_test ∈ mm_T := mm_tbk mm_t3 193 rfl rfl
set_option maxRecDepth 20000 in
theorem lk_L_99 : Cond.methodLink RL 99 yX12_test ∈ mm_T := mm_tbk mm_t7 92 rfl rfl
set_option maxRecDepth 20000 in
theorem lk_L_100 : Cond.methodLink RL 100 yX11_appeal ∈ mm_T := mm_tbk mm_t3 213 rfl rfl
set_option maxRecDepth 20000 in
theorem lk_L_103 : Cond.methodLink RL 103 yX12_appeal ∈ mm_T := mm_tbk mm_t7 96 rfl rfl
set_option maxRecDepth 20000 in
theorem lk_L_104 : Cond.methodLink RL 104 yX11_testOf ∈ mm_T := mm_tbk mm_t3 226 rfl rfl
set_option maxRecDepth 20000 in
theorem lk_L_108 : Cond.methodLink RL 108 yX12_testOf ∈ mm_T := mm_tbk mm_t7 104 rfl rfl
set_option maxRecDepth 20000 in
theorem lk_L_109 : Cond.methodLink RL 109 yX11_fact ∈ mm_T := mm_tbk mm_t4 49 rfl rfl
set_option maxRecDepth 20000 in
theorem lk_L_112 : Cond.methodLink RL 112 yX12_fact ∈ mm_T := mm_tbk mm_t7 111 rfl rfl
set_option maxRecDepth 20000 in
theorem lk_L_113 : Cond.methodLink RL 113 yX11_step ∈ mm_T := mm_tbk mm_t4 55 rfl rfl
set_option maxRecDepth 20000 in
theorem lk_L_116 : Cond.methodLink RL 116 yX12_step ∈ mm_T := mm_tbk mm_t7 115 rfl rfl
set_option maxRecDepth 20000 in
theorem lk_L_117 : Cond.methodLink RL 117 yX11_lost ∈ mm_T := mm_tbk mm_t4 67 rfl rfl
set_option maxRecDepth 20000 in
theorem lk_L_120 : Cond.methodLink RL 120 yX12_lost ∈ mm_T := mm_tbk mm_t7 123 rfl rfl
set_option maxRecDepth 20000 in
theorem lk_L_121 : Cond.methodLink RL 121 yX11_leave ∈ mm_T := mm_tbk mm_t4 71 rfl rfl
set_option maxRecDepth 20000 in
theorem lk_L_124 : Cond.methodLink RL 124 yX12_leave ∈ mm_T := mm_tbk mm_t7 127 rfl rfl
set_option maxRecDepth 20000 in
theorem lk_L_125 : Cond.methodLink RL 125 yX11_work ∈ mm_T := mm_tbk mm_t4 75 rfl rfl
set_option maxRecDepth 20000 in
theorem lk_L_128 : Cond.methodLink RL 128 yX12_work ∈ mm_T := mm_tbk mm_t7 131 rfl rfl
set_option maxRecDepth 20000 in
theorem lk_L_129 : Cond.methodLink RL 129 yX11_workAt ∈ mm_T := mm_tbk mm_t4 153 rfl rfl
set_option maxRecDepth 20000 in
theorem lk_L_133 : Cond.methodLink RL 133 yX12_workAt ∈ mm_T := mm_tbk mm_t7 162 rfl rfl
set_option maxRecDepth 20000 in
theorem lk_L_134 : Cond.methodLink RL 134 yX11_letters ∈ mm_T := mm_tbk mm_t4 165 rfl rfl
set_option maxRecDepth 20000 in
theorem lk_L_137 : Cond.methodLink RL 137 yX12_letters ∈ mm_T := mm_tbk mm_t7 166 rfl rfl
set_option maxRecDepth 20000 in
theorem lk_L_138 : Cond.methodLink RL 138 yX11_letter ∈ mm_T := mm_tbk mm_t4 175 rfl rfl
set_option maxRecDepth 20000 in
theorem lk_L_141 : Cond.methodLink RL 141 yX12_letter ∈ mm_T := mm_tbk mm_t7 172 rfl rfl
set_option maxRecDepth 20000 in
theorem lk_L_142 : Cond.methodLink RL 142 yX11_helped ∈ mm_T := mm_tbk mm_t4 179 rfl rfl
set_option maxRecDepth 20000 in
theorem lk_L_146 : Cond.methodLink RL 146 yX12_helped ∈ mm_T := mm_tbk mm_t7 176 rfl rfl
set_option maxRecDepth 20000 in
theorem lk_L_147 : Cond.methodLink RL 147 yX11_wards ∈ mm_T := mm_tbk mm_t4 216 rfl rfl
set_option maxRecDepth 20000 in
theorem lk_L_151 : Cond.methodLink RL 151 yX12_wards ∈ mm_T := mm_tbk mm_t7 196 rfl rfl
set_option maxRecDepth 20000 in
theorem lk_L_152 : Cond.methodLink RL 152 yX11_clerk ∈ mm_T := mm_tbk mm_t4 220 rfl rfl
set_option maxRecDepth 20000 in
theorem lk_L_156 : Cond.methodLink RL 156 yX12_clerk ∈ mm_T := mm_tbk mm_t7 200 rfl rfl
set_option maxRecDepth 20000 in
theorem lk_L_157 : Cond.methodLink RL 157 yX11_tally ∈ mm_T := mm_tbk mm_t4 228 rfl rfl
set_option maxRecDepth 20000 in
theorem lk_L_160 : Cond.methodLink RL 160 yX12_tally ∈ mm_T := mm_tbk mm_t7 204 rfl rfl
set_option maxRecDepth 20000 in
theorem lk_L_161 : Cond.methodLink RL 161 yX11_worst ∈ mm_T := mm_tbk mm_t5 9 rfl rfl
set_option maxRecDepth 20000 in
theorem lk_L_164 : Cond.methodLink RL 164 yX12_worst ∈ mm_T := mm_tbk mm_t7 216 rfl rfl
set_option maxRecDepth 20000 in
theorem lk_L_165 : Cond.methodLink RL 165 yX11_cost ∈ mm_T := mm_tbk mm_t5 17 rfl rfl
set_option maxRecDepth 20000 in
theorem lk_L_168 : Cond.methodLink RL 168 yX12_cost ∈ mm_T := mm_tbk mm_t7 220 rfl rfl
set_option maxRecDepth 20000 in
theorem lk_L_169 : Cond.methodLink RL 169 yX11_most ∈ mm_T := mm_tbk mm_t5 21 rfl rfl
set_option maxRecDepth 20000 in
theorem lk_L_172 : Cond.methodLink RL 172 yX12_most ∈ mm_T := mm_tbk mm_t7 224 rfl rfl
set_option maxRecDepth 20000 in
theorem lk_L_173 : Cond.methodLink RL 173 yX11_count ∈ mm_T := mm_tbk mm_t5 29 rfl rfl
set_option maxRecDepth 20000 in
theorem lk_L_176 : Cond.methodLink RL 176 yX12_count ∈ mm_T := mm_tbk mm_t7 232 rfl rfl
set_option maxRecDepth 20000 in
theorem kn_L_80 : Cond.constantLong RL 80 (4294967295) ∈ mm_T := mm_tbk mm_t7 236 rfl rfl
set_option maxRecDepth 20000 in
theorem lk_L_75 : Cond.methodLink RL 75 yX12_back ∈ mm_T := mm_tbk mm_t6 238 rfl rfl
set_option maxRecDepth 20000 in
theorem lk_L_76 : Cond.methodLink RL 76 yX12_thrown ∈ mm_T := mm_tbk mm_t6 148 rfl rfl
set_option maxRecDepth 20000 in
theorem lk_L_70 : Cond.methodLink RL 70 yL_back ∈ mm_T := mm_tbk mm_t5 45 rfl rfl
set_option maxRecDepth 20000 in
theorem st_L_back : Cond.static yL_back ∈ mm_T := mm_tbk mm_t5 46 rfl rfl
set_option maxRecDepth 20000 in
theorem it_L : Cond.initialized RL ∈ mm_T := mm_tbk mm_t1 0 rfl rfl
set_option maxRecDepth 20000 in
theorem cw_L_back : Cond.codeWith yL_back cL_back 4 (some .int) lb_hh ∈ mm_T := mm_tbk mm_t5 47 rfl rfl
theorem dL_0 : decode cL_law 0 = .ok (.new 8, 3) := by decide +kernel
theorem dL_3 : decode cL_law 3 = .ok (.dup, 1) := by decide +kernel
theorem dL_4 : decode cL_law 4 = .ok (.invokespecial 17, 3) := by decide +kernel
theorem dL_7 : decode cL_law 7 = .ok (.astore_n 1, 1) := by decide +kernel
theorem dL_8 : decode cL_law 8 = .ok (.new 18, 3) := by decide +kernel
theorem dL_11 : decode cL_law 11 = .ok (.dup, 1) := by decide +kernel
theorem dL_12 : decode cL_law 12 = .ok (.invokespecial 20, 3) := by decide +kernel
theorem dL_15 : decode cL_law 15 = .ok (.astore_n 2, 1) := by decide +kernel
theorem dL_16 : decode cL_law 16 = .ok (.iconst 1, 1) := by decide +kernel
theorem dL_17 : decode cL_law 17 = .ok (.newarray .long, 2) := by decide +kernel
theorem dL_19 : decode cL_law 19 = .ok (.astore_n 3, 1) := by decide +kernel
theorem dL_20 : decode cL_law 20 = .ok (.iconst 0, 1) := by decide +kernel
theorem dL_21 : decode cL_law 21 = .ok (.istore 4, 2) := by decide +kernel
theorem dL_23 : decode cL_law 23 = .ok (.iload 4, 2) := by decide +kernel
theorem dL_25 : decode cL_law 25 = .ok (.aload_n 0, 1) := by decide +kernel
theorem dL_26 : decode cL_law 26 = .ok (.arraylength, 1) := by decide +kernel
theorem dL_27 : decode cL_law 27 = .ok (.bipush 7, 2) := by decide +kernel
theorem dL_29 : decode cL_law 29 = .ok (.isub, 1) := by decide +kernel
theorem dL_30 : decode cL_law 30 = .ok (.if_icmp .gt 1600, 3) := by decide +kernel
theorem dL_33 : decode cL_law 33 = .ok (.aload_n 0, 1) := by decide +kernel
theorem dL_34 : decode cL_law 34 = .ok (.iload 4, 2) := by decide +kernel
theorem dL_36 : decode cL_law 36 = .ok (.iaload, 1) := by decide +kernel
theorem dL_37 : decode cL_law 37 = .ok (.bipush 63, 2) := by decide +kernel
theorem dL_39 : decode cL_law 39 = .ok (.iand, 1) := by decide +kernel
theorem dL_40 : decode cL_law 40 = .ok (.tableswitch 1584 0 33 #[152, 177, 238, 275, 328, 353, 390, 427, 464, 529, 566, 603, 658, 727, 764, 801, 888, 913, 962, 1011, 1060, 1073, 1098, 1147, 1224, 1249, 1274, 1312, 1374, 1447, 1484, 1497, 1534, 1559], 152) := by decide +kernel
theorem dL_192 : decode cL_law 192 = .ok (.aload_n 1, 1) := by decide +kernel
theorem dL_193 : decode cL_law 193 = .ok (.aload_n 0, 1) := by decide +kernel
theorem dL_194 : decode cL_law 194 = .ok (.iload 4, 2) := by decide +kernel
theorem dL_196 : decode cL_law 196 = .ok (.iconst 1, 1) := by decide +kernel
theorem dL_197 : decode cL_law 197 = .ok (.iadd, 1) := by decide +kernel
theorem dL_198 : decode cL_law 198 = .ok (.iaload, 1) := by decide +kernel
theorem dL_199 : decode cL_law 199 = .ok (.invokevirtual 21, 3) := by decide +kernel
theorem dL_202 : decode cL_law 202 = .ok (.aload_n 2, 1) := by decide +kernel
theorem dL_203 : decode cL_law 203 = .ok (.aload_n 0, 1) := by decide +kernel
theorem dL_204 : decode cL_law 204 = .ok (.iload 4, 2) := by decide +kernel
theorem dL_206 : decode cL_law 206 = .ok (.iconst 1, 1) := by decide +kernel
theorem dL_207 : decode cL_law 207 = .ok (.iadd, 1) := by decide +kernel
theorem dL_208 : decode cL_law 208 = .ok (.iaload, 1) := by decide +kernel
theorem dL_209 : decode cL_law 209 = .ok (.invokevirtual 25, 3) := by decide +kernel
theorem dL_212 : decode cL_law 212 = .ok (.if_icmp .eq 1412, 3) := by decide +kernel
theorem dL_215 : decode cL_law 215 = .ok (.iconst 0, 1) := by decide +kernel
theorem dL_216 : decode cL_law 216 = .ok (.ireturn, 1) := by decide +kernel
theorem dL_217 : decode cL_law 217 = .ok (.aload_n 1, 1) := by decide +kernel
theorem dL_218 : decode cL_law 218 = .ok (.aload_n 0, 1) := by decide +kernel
theorem dL_219 : decode cL_law 219 = .ok (.iload 4, 2) := by decide +kernel
theorem dL_221 : decode cL_law 221 = .ok (.iconst 1, 1) := by decide +kernel
theorem dL_222 : decode cL_law 222 = .ok (.iadd, 1) := by decide +kernel
theorem dL_223 : decode cL_law 223 = .ok (.iaload, 1) := by decide +kernel
theorem dL_224 : decode cL_law 224 = .ok (.aload_n 0, 1) := by decide +kernel
theorem dL_225 : decode cL_law 225 = .ok (.iload 4, 2) := by decide +kernel
theorem dL_227 : decode cL_law 227 = .ok (.iconst 2, 1) := by decide +kernel
theorem dL_228 : decode cL_law 228 = .ok (.iadd, 1) := by decide +kernel
theorem dL_229 : decode cL_law 229 = .ok (.iaload, 1) := by decide +kernel
theorem dL_230 : decode cL_law 230 = .ok (.aload_n 0, 1) := by decide +kernel
theorem dL_231 : decode cL_law 231 = .ok (.iload 4, 2) := by decide +kernel
theorem dL_233 : decode cL_law 233 = .ok (.iconst 3, 1) := by decide +kernel
theorem dL_234 : decode cL_law 234 = .ok (.iadd, 1) := by decide +kernel
theorem dL_235 : decode cL_law 235 = .ok (.iaload, 1) := by decide +kernel
theorem dL_236 : decode cL_law 236 = .ok (.aload_n 0, 1) := by decide +kernel
theorem dL_237 : decode cL_law 237 = .ok (.iload 4, 2) := by decide +kernel
theorem dL_239 : decode cL_law 239 = .ok (.iconst 4, 1) := by decide +kernel
theorem dL_240 : decode cL_law 240 = .ok (.iadd, 1) := by decide +kernel
theorem dL_241 : decode cL_law 241 = .ok (.iaload, 1) := by decide +kernel
theorem dL_242 : decode cL_law 242 = .ok (.invokevirtual 26, 3) := by decide +kernel
theorem dL_245 : decode cL_law 245 = .ok (.aload_n 2, 1) := by decide +kernel
theorem dL_246 : decode cL_law 246 = .ok (.aload_n 0, 1) := by decide +kernel
theorem dL_247 : decode cL_law 247 = .ok (.iload 4, 2) := by decide +kernel
theorem dL_249 : decode cL_law 249 = .ok (.iconst 1, 1) := by decide +kernel
theorem dL_250 : decode cL_law 250 = .ok (.iadd, 1) := by decide +kernel
theorem dL_251 : decode cL_law 251 = .ok (.iaload, 1) := by decide +kernel
theorem dL_252 : decode cL_law 252 = .ok (.aload_n 0, 1) := by decide +kernel
theorem dL_253 : decode cL_law 253 = .ok (.iload 4, 2) := by decide +kernel
theorem dL_255 : decode cL_law 255 = .ok (.iconst 2, 1) := by decide +kernel
theorem dL_256 : decode cL_law 256 = .ok (.iadd, 1) := by decide +kernel
theorem dL_257 : decode cL_law 257 = .ok (.iaload, 1) := by decide +kernel
theorem dL_258 : decode cL_law 258 = .ok (.aload_n 0, 1) := by decide +kernel
theorem dL_259 : decode cL_law 259 = .ok (.iload 4, 2) := by decide +kernel
theorem dL_261 : decode cL_law 261 = .ok (.iconst 3, 1) := by decide +kernel
theorem dL_262 : decode cL_law 262 = .ok (.iadd, 1) := by decide +kernel
theorem dL_263 : decode cL_law 263 = .ok (.iaload, 1) := by decide +kernel
theorem dL_264 : decode cL_law 264 = .ok (.aload_n 0, 1) := by decide +kernel
theorem dL_265 : decode cL_law 265 = .ok (.iload 4, 2) := by decide +kernel
theorem dL_267 : decode cL_law 267 = .ok (.iconst 4, 1) := by decide +kernel
theorem dL_268 : decode cL_law 268 = .ok (.iadd, 1) := by decide +kernel
theorem dL_269 : decode cL_law 269 = .ok (.iaload, 1) := by decide +kernel
theorem dL_270 : decode cL_law 270 = .ok (.invokevirtual 30, 3) := by decide +kernel
theorem dL_273 : decode cL_law 273 = .ok (.if_icmp .eq 1351, 3) := by decide +kernel
theorem dL_276 : decode cL_law 276 = .ok (.iconst 0, 1) := by decide +kernel
theorem dL_277 : decode cL_law 277 = .ok (.ireturn, 1) := by decide +kernel
theorem dL_278 : decode cL_law 278 = .ok (.aload_n 1, 1) := by decide +kernel
theorem dL_279 : decode cL_law 279 = .ok (.aload_n 0, 1) := by decide +kernel
theorem dL_280 : decode cL_law 280 = .ok (.iload 4, 2) := by decide +kernel
theorem dL_282 : decode cL_law 282 = .ok (.iconst 1, 1) := by decide +kernel
theorem dL_283 : decode cL_law 283 = .ok (.iadd, 1) := by decide +kernel
theorem dL_284 : decode cL_law 284 = .ok (.iaload, 1) := by decide +kernel
theorem dL_285 : decode cL_law 285 = .ok (.aload_n 0, 1) := by decide +kernel
theorem dL_286 : decode cL_law 286 = .ok (.iload 4, 2) := by decide +kernel
theorem dL_288 : decode cL_law 288 = .ok (.iconst 2, 1) := by decide +kernel
theorem dL_289 : decode cL_law 289 = .ok (.iadd, 1) := by decide +kernel
theorem dL_290 : decode cL_law 290 = .ok (.iaload, 1) := by decide +kernel
theorem dL_291 : decode cL_law 291 = .ok (.invokevirtual 31, 3) := by decide +kernel
theorem dL_294 : decode cL_law 294 = .ok (.aload_n 2, 1) := by decide +kernel
theorem dL_295 : decode cL_law 295 = .ok (.aload_n 0, 1) := by decide +kernel
theorem dL_296 : decode cL_law 296 = .ok (.iload 4, 2) := by decide +kernel
theorem dL_298 : decode cL_law 298 = .ok (.iconst 1, 1) := by decide +kernel
theorem dL_299 : decode cL_law 299 = .ok (.iadd, 1) := by decide +kernel
theorem dL_300 : decode cL_law 300 = .ok (.iaload, 1) := by decide +kernel
theorem dL_301 : decode cL_law 301 = .ok (.aload_n 0, 1) := by decide +kernel
theorem dL_302 : decode cL_law 302 = .ok (.iload 4, 2) := by decide +kernel
theorem dL_304 : decode cL_law 304 = .ok (.iconst 2, 1) := by decide +kernel
theorem dL_305 : decode cL_law 305 = .ok (.iadd, 1) := by decide +kernel
theorem dL_306 : decode cL_law 306 = .ok (.iaload, 1) := by decide +kernel
theorem dL_307 : decode cL_law 307 = .ok (.invokevirtual 35, 3) := by decide +kernel
theorem dL_310 : decode cL_law 310 = .ok (.if_icmp .eq 1314, 3) := by decide +kernel
theorem dL_313 : decode cL_law 313 = .ok (.iconst 0, 1) := by decide +kernel
theorem dL_314 : decode cL_law 314 = .ok (.ireturn, 1) := by decide +kernel
theorem dL_315 : decode cL_law 315 = .ok (.aload_n 1, 1) := by decide +kernel
theorem dL_316 : decode cL_law 316 = .ok (.aload_n 0, 1) := by decide +kernel
theorem dL_317 : decode cL_law 317 = .ok (.iload 4, 2) := by decide +kernel
theorem dL_319 : decode cL_law 319 = .ok (.iconst 1, 1) := by decide +kernel
theorem dL_320 : decode cL_law 320 = .ok (.iadd, 1) := by decide +kernel
theorem dL_321 : decode cL_law 321 = .ok (.iaload, 1) := by decide +kernel
theorem dL_322 : decode cL_law 322 = .ok (.aload_n 0, 1) := by decide +kernel
theorem dL_323 : decode cL_law 323 = .ok (.iload 4, 2) := by decide +kernel
theorem dL_325 : decode cL_law 325 = .ok (.iconst 2, 1) := by decide +kernel
theorem dL_326 : decode cL_law 326 = .ok (.iadd, 1) := by decide +kernel
theorem dL_327 : decode cL_law 327 = .ok (.iaload, 1) := by decide +kernel
theorem dL_328 : decode cL_law 328 = .ok (.ifCond .eq 7, 3) := by decide +kernel
theorem dL_331 : decode cL_law 331 = .ok (.iconst 1, 1) := by decide +kernel
theorem dL_332 : decode cL_law 332 = .ok (.goto 4, 3) := by decide +kernel
theorem dL_335 : decode cL_law 335 = .ok (.iconst 0, 1) := by decide +kernel
theorem dL_336 : decode cL_law 336 = .ok (.invokevirtual 36, 3) := by decide +kernel
theorem dL_339 : decode cL_law 339 = .ok (.aload_n 2, 1) := by decide +kernel
theorem dL_340 : decode cL_law 340 = .ok (.aload_n 0, 1) := by decide +kernel
theorem dL_341 : decode cL_law 341 = .ok (.iload 4, 2) := by decide +kernel
theorem dL_343 : decode cL_law 343 = .ok (.iconst 1, 1) := by decide +kernel
theorem dL_344 : decode cL_law 344 = .ok (.iadd, 1) := by decide +kernel
theorem dL_345 : decode cL_law 345 = .ok (.iaload, 1) := by decide +kernel
theorem dL_346 : decode cL_law 346 = .ok (.aload_n 0, 1) := by decide +kernel
theorem dL_347 : decode cL_law 347 = .ok (.iload 4, 2) := by decide +kernel
theorem dL_349 : decode cL_law 349 = .ok (.iconst 2, 1) := by decide +kernel
theorem dL_350 : decode cL_law 350 = .ok (.iadd, 1) := by decide +kernel
theorem dL_351 : decode cL_law 351 = .ok (.iaload, 1) := by decide +kernel
theorem dL_352 : decode cL_law 352 = .ok (.ifCond .eq 7, 3) := by decide +kernel
theorem dL_355 : decode cL_law 355 = .ok (.iconst 1, 1) := by decide +kernel
theorem dL_356 : decode cL_law 356 = .ok (.goto 4, 3) := by decide +kernel
theorem dL_359 : decode cL_law 359 = .ok (.iconst 0, 1) := by decide +kernel
theorem dL_360 : decode cL_law 360 = .ok (.invokevirtual 40, 3) := by decide +kernel
theorem dL_363 : decode cL_law 363 = .ok (.if_icmp .eq 1261, 3) := by decide +kernel
theorem dL_366 : decode cL_law 366 = .ok (.iconst 0, 1) := by decide +kernel
theorem dL_367 : decode cL_law 367 = .ok (.ireturn, 1) := by decide +kernel
theorem dL_368 : decode cL_law 368 = .ok (.aload_n 1, 1) := by decide +kernel
theorem dL_369 : decode cL_law 369 = .ok (.aload_n 0, 1) := by decide +kernel
theorem dL_370 : decode cL_law 370 = .ok (.iload 4, 2) := by decide +kernel
theorem dL_372 : decode cL_law 372 = .ok (.iconst 1, 1) := by decide +kernel
theorem dL_373 : decode cL_law 373 = .ok (.iadd, 1) := by decide +kernel
theorem dL_374 : decode cL_law 374 = .ok (.iaload, 1) := by decide +kernel
theorem dL_375 : decode cL_law 375 = .ok (.invokevirtual 41, 3) := by decide +kernel
theorem dL_378 : decode cL_law 378 = .ok (.aload_n 2, 1) := by decide +kernel
theorem dL_379 : decode cL_law 379 = .ok (.aload_n 0, 1) := by decide +kernel
theorem dL_380 : decode cL_law 380 = .ok (.iload 4, 2) := by decide +kernel
theorem dL_382 : decode cL_law 382 = .ok (.iconst 1, 1) := by decide +kernel
theorem dL_383 : decode cL_law 383 = .ok (.iadd, 1) := by decide +kernel
theorem dL_384 : decode cL_law 384 = .ok (.iaload, 1) := by decide +kernel
theorem dL_385 : decode cL_law 385 = .ok (.invokevirtual 44, 3) := by decide +kernel
theorem dL_388 : decode cL_law 388 = .ok (.if_icmp .eq 1236, 3) := by decide +kernel
theorem dL_391 : decode cL_law 391 = .ok (.iconst 0, 1) := by decide +kernel
theorem dL_392 : decode cL_law 392 = .ok (.ireturn, 1) := by decide +kernel
theorem dL_393 : decode cL_law 393 = .ok (.aload_n 1, 1) := by decide +kernel
theorem dL_394 : decode cL_law 394 = .ok (.aload_n 0, 1) := by decide +kernel
theorem dL_395 : decode cL_law 395 = .ok (.iload 4, 2) := by decide +kernel
theorem dL_397 : decode cL_law 397 = .ok (.iconst 1, 1) := by decide +kernel
theorem dL_398 : decode cL_law 398 = .ok (.iadd, 1) := by decide +kernel
theorem dL_399 : decode cL_law 399 = .ok (.iaload, 1) := by decide +kernel
theorem dL_400 : decode cL_law 400 = .ok (.aload_n 0, 1) := by decide +kernel
theorem dL_401 : decode cL_law 401 = .ok (.iload 4, 2) := by decide +kernel
theorem dL_403 : decode cL_law 403 = .ok (.iconst 2, 1) := by decide +kernel
theorem dL_404 : decode cL_law 404 = .ok (.iadd, 1) := by decide +kernel
theorem dL_405 : decode cL_law 405 = .ok (.iaload, 1) := by decide +kernel
theorem dL_406 : decode cL_law 406 = .ok (.invokevirtual 45, 3) := by decide +kernel
theorem dL_409 : decode cL_law 409 = .ok (.aload_n 2, 1) := by decide +kernel
theorem dL_410 : decode cL_law 410 = .ok (.aload_n 0, 1) := by decide +kernel
theorem dL_411 : decode cL_law 411 = .ok (.iload 4, 2) := by decide +kernel
theorem dL_413 : decode cL_law 413 = .ok (.iconst 1, 1) := by decide +kernel
theorem dL_414 : decode cL_law 414 = .ok (.iadd, 1) := by decide +kernel
theorem dL_415 : decode cL_law 415 = .ok (.iaload, 1) := by decide +kernel
theorem dL_416 : decode cL_law 416 = .ok (.aload_n 0, 1) := by decide +kernel
theorem dL_417 : decode cL_law 417 = .ok (.iload 4, 2) := by decide +kernel
theorem dL_419 : decode cL_law 419 = .ok (.iconst 2, 1) := by decide +kernel
theorem dL_420 : decode cL_law 420 = .ok (.iadd, 1) := by decide +kernel
theorem dL_421 : decode cL_law 421 = .ok (.iaload, 1) := by decide +kernel
theorem dL_422 : decode cL_law 422 = .ok (.invokevirtual 48, 3) := by decide +kernel
theorem dL_425 : decode cL_law 425 = .ok (.if_icmp .eq 1199, 3) := by decide +kernel
theorem dL_428 : decode cL_law 428 = .ok (.iconst 0, 1) := by decide +kernel
theorem dL_429 : decode cL_law 429 = .ok (.ireturn, 1) := by decide +kernel
theorem dL_430 : decode cL_law 430 = .ok (.aload_n 1, 1) := by decide +kernel
theorem dL_431 : decode cL_law 431 = .ok (.aload_n 0, 1) := by decide +kernel
theorem dL_432 : decode cL_law 432 = .ok (.iload 4, 2) := by decide +kernel
theorem dL_434 : decode cL_law 434 = .ok (.iconst 1, 1) := by decide +kernel
theorem dL_435 : decode cL_law 435 = .ok (.iadd, 1) := by decide +kernel
theorem dL_436 : decode cL_law 436 = .ok (.iaload, 1) := by decide +kernel
theorem dL_437 : decode cL_law 437 = .ok (.aload_n 0, 1) := by decide +kernel
theorem dL_438 : decode cL_law 438 = .ok (.iload 4, 2) := by decide +kernel
theorem dL_440 : decode cL_law 440 = .ok (.iconst 2, 1) := by decide +kernel
theorem dL_441 : decode cL_law 441 = .ok (.iadd, 1) := by decide +kernel
theorem dL_442 : decode cL_law 442 = .ok (.iaload, 1) := by decide +kernel
theorem dL_443 : decode cL_law 443 = .ok (.invokevirtual 49, 3) := by decide +kernel
theorem dL_446 : decode cL_law 446 = .ok (.aload_n 2, 1) := by decide +kernel
theorem dL_447 : decode cL_law 447 = .ok (.aload_n 0, 1) := by decide +kernel
theorem dL_448 : decode cL_law 448 = .ok (.iload 4, 2) := by decide +kernel
theorem dL_450 : decode cL_law 450 = .ok (.iconst 1, 1) := by decide +kernel
theorem dL_451 : decode cL_law 451 = .ok (.iadd, 1) := by decide +kernel
theorem dL_452 : decode cL_law 452 = .ok (.iaload, 1) := by decide +kernel
theorem dL_453 : decode cL_law 453 = .ok (.aload_n 0, 1) := by decide +kernel
theorem dL_454 : decode cL_law 454 = .ok (.iload 4, 2) := by decide +kernel
theorem dL_456 : decode cL_law 456 = .ok (.iconst 2, 1) := by decide +kernel
theorem dL_457 : decode cL_law 457 = .ok (.iadd, 1) := by decide +kernel
theorem dL_458 : decode cL_law 458 = .ok (.iaload, 1) := by decide +kernel
theorem dL_459 : decode cL_law 459 = .ok (.invokevirtual 52, 3) := by decide +kernel
theorem dL_462 : decode cL_law 462 = .ok (.if_icmp .eq 1162, 3) := by decide +kernel
theorem dL_465 : decode cL_law 465 = .ok (.iconst 0, 1) := by decide +kernel
theorem dL_466 : decode cL_law 466 = .ok (.ireturn, 1) := by decide +kernel
theorem dL_467 : decode cL_law 467 = .ok (.aload_n 1, 1) := by decide +kernel
theorem dL_468 : decode cL_law 468 = .ok (.aload_n 0, 1) := by decide +kernel
theorem dL_469 : decode cL_law 469 = .ok (.iload 4, 2) := by decide +kernel
theorem dL_471 : decode cL_law 471 = .ok (.iconst 1, 1) := by decide +kernel
theorem dL_472 : decode cL_law 472 = .ok (.iadd, 1) := by decide +kernel
theorem dL_473 : decode cL_law 473 = .ok (.iaload, 1) := by decide +kernel
theorem dL_474 : decode cL_law 474 = .ok (.aload_n 0, 1) := by decide +kernel
theorem dL_475 : decode cL_law 475 = .ok (.iload 4, 2) := by decide +kernel
theorem dL_477 : decode cL_law 477 = .ok (.iconst 2, 1) := by decide +kernel
theorem dL_478 : decode cL_law 478 = .ok (.iadd, 1) := by decide +kernel
theorem dL_479 : decode cL_law 479 = .ok (.iaload, 1) := by decide +kernel
theorem dL_480 : decode cL_law 480 = .ok (.invokevirtual 53, 3) := by decide +kernel
theorem dL_483 : decode cL_law 483 = .ok (.aload_n 2, 1) := by decide +kernel
theorem dL_484 : decode cL_law 484 = .ok (.aload_n 0, 1) := by decide +kernel
theorem dL_485 : decode cL_law 485 = .ok (.iload 4, 2) := by decide +kernel
theorem dL_487 : decode cL_law 487 = .ok (.iconst 1, 1) := by decide +kernel
theorem dL_488 : decode cL_law 488 = .ok (.iadd, 1) := by decide +kernel
theorem dL_489 : decode cL_law 489 = .ok (.iaload, 1) := by decide +kernel
theorem dL_490 : decode cL_law 490 = .ok (.aload_n 0, 1) := by decide +kernel
theorem dL_491 : decode cL_law 491 = .ok (.iload 4, 2) := by decide +kernel
theorem dL_493 : decode cL_law 493 = .ok (.iconst 2, 1) := by decide +kernel
theorem dL_494 : decode cL_law 494 = .ok (.iadd, 1) := by decide +kernel
theorem dL_495 : decode cL_law 495 = .ok (.iaload, 1) := by decide +kernel
theorem dL_496 : decode cL_law 496 = .ok (.invokevirtual 56, 3) := by decide +kernel
theorem dL_499 : decode cL_law 499 = .ok (.if_icmp .eq 1125, 3) := by decide +kernel
theorem dL_502 : decode cL_law 502 = .ok (.iconst 0, 1) := by decide +kernel
theorem dL_503 : decode cL_law 503 = .ok (.ireturn, 1) := by decide +kernel
theorem dL_504 : decode cL_law 504 = .ok (.aload_n 1, 1) := by decide +kernel
theorem dL_505 : decode cL_law 505 = .ok (.aload_n 0, 1) := by decide +kernel
theorem dL_506 : decode cL_law 506 = .ok (.iload 4, 2) := by decide +kernel
theorem dL_508 : decode cL_law 508 = .ok (.iconst 1, 1) := by decide +kernel
theorem dL_509 : decode cL_law 509 = .ok (.iadd, 1) := by decide +kernel
theorem dL_510 : decode cL_law 510 = .ok (.iaload, 1) := by decide +kernel
theorem dL_511 : decode cL_law 511 = .ok (.aload_n 0, 1) := by decide +kernel
theorem dL_512 : decode cL_law 512 = .ok (.iload 4, 2) := by decide +kernel
theorem dL_514 : decode cL_law 514 = .ok (.iconst 2, 1) := by decide +kernel
theorem dL_515 : decode cL_law 515 = .ok (.iadd, 1) := by decide +kernel
theorem dL_516 : decode cL_law 516 = .ok (.iaload, 1) := by decide +kernel
theorem dL_517 : decode cL_law 517 = .ok (.aload_n 0, 1) := by decide +kernel
theorem dL_518 : decode cL_law 518 = .ok (.iload 4, 2) := by decide +kernel
theorem dL_520 : decode cL_law 520 = .ok (.iconst 3, 1) := by decide +kernel
theorem dL_521 : decode cL_law 521 = .ok (.iadd, 1) := by decide +kernel
theorem dL_522 : decode cL_law 522 = .ok (.iaload, 1) := by decide +kernel
theorem dL_523 : decode cL_law 523 = .ok (.ifCond .eq 7, 3) := by decide +kernel
theorem dL_526 : decode cL_law 526 = .ok (.iconst 1, 1) := by decide +kernel
theorem dL_527 : decode cL_law 527 = .ok (.goto 4, 3) := by decide +kernel
theorem dL_530 : decode cL_law 530 = .ok (.iconst 0, 1) := by decide +kernel
theorem dL_531 : decode cL_law 531 = .ok (.invokevirtual 57, 3) := by decide +kernel
theorem dL_534 : decode cL_law 534 = .ok (.aload_n 2, 1) := by decide +kernel
theorem dL_535 : decode cL_law 535 = .ok (.aload_n 0, 1) := by decide +kernel
theorem dL_536 : decode cL_law 536 = .ok (.iload 4, 2) := by decide +kernel
theorem dL_538 : decode cL_law 538 = .ok (.iconst 1, 1) := by decide +kernel
theorem dL_539 : decode cL_law 539 = .ok (.iadd, 1) := by decide +kernel
theorem dL_540 : decode cL_law 540 = .ok (.iaload, 1) := by decide +kernel
theorem dL_541 : decode cL_law 541 = .ok (.aload_n 0, 1) := by decide +kernel
theorem dL_542 : decode cL_law 542 = .ok (.iload 4, 2) := by decide +kernel
theorem dL_544 : decode cL_law 544 = .ok (.iconst 2, 1) := by decide +kernel
theorem dL_545 : decode cL_law 545 = .ok (.iadd, 1) := by decide +kernel
theorem dL_546 : decode cL_law 546 = .ok (.iaload, 1) := by decide +kernel
theorem dL_547 : decode cL_law 547 = .ok (.aload_n 0, 1) := by decide +kernel
theorem dL_548 : decode cL_law 548 = .ok (.iload 4, 2) := by decide +kernel
theorem dL_550 : decode cL_law 550 = .ok (.iconst 3, 1) := by decide +kernel
theorem dL_551 : decode cL_law 551 = .ok (.iadd, 1) := by decide +kernel
theorem dL_552 : decode cL_law 552 = .ok (.iaload, 1) := by decide +kernel
theorem dL_553 : decode cL_law 553 = .ok (.ifCond .eq 7, 3) := by decide +kernel
theorem dL_556 : decode cL_law 556 = .ok (.iconst 1, 1) := by decide +kernel
theorem dL_557 : decode cL_law 557 = .ok (.goto 4, 3) := by decide +kernel
theorem dL_560 : decode cL_law 560 = .ok (.iconst 0, 1) := by decide +kernel
theorem dL_561 : decode cL_law 561 = .ok (.invokevirtual 61, 3) := by decide +kernel
theorem dL_564 : decode cL_law 564 = .ok (.if_icmp .eq 1060, 3) := by decide +kernel
theorem dL_567 : decode cL_law 567 = .ok (.iconst 0, 1) := by decide +kernel
theorem dL_568 : decode cL_law 568 = .ok (.ireturn, 1) := by decide +kernel
theorem dL_569 : decode cL_law 569 = .ok (.aload_n 1, 1) := by decide +kernel
theorem dL_570 : decode cL_law 570 = .ok (.aload_n 0, 1) := by decide +kernel
theorem dL_571 : decode cL_law 571 = .ok (.iload 4, 2) := by decide +kernel
theorem dL_573 : decode cL_law 573 = .ok (.iconst 1, 1) := by decide +kernel
theorem dL_574 : decode cL_law 574 = .ok (.iadd, 1) := by decide +kernel
theorem dL_575 : decode cL_law 575 = .ok (.iaload, 1) := by decide +kernel
theorem dL_576 : decode cL_law 576 = .ok (.aload_n 0, 1) := by decide +kernel
theorem dL_577 : decode cL_law 577 = .ok (.iload 4, 2) := by decide +kernel
theorem dL_579 : decode cL_law 579 = .ok (.iconst 2, 1) := by decide +kernel
theorem dL_580 : decode cL_law 580 = .ok (.iadd, 1) := by decide +kernel
theorem dL_581 : decode cL_law 581 = .ok (.iaload, 1) := by decide +kernel
theorem dL_582 : decode cL_law 582 = .ok (.invokevirtual 62, 3) := by decide +kernel
theorem dL_585 : decode cL_law 585 = .ok (.aload_n 2, 1) := by decide +kernel
theorem dL_586 : decode cL_law 586 = .ok (.aload_n 0, 1) := by decide +kernel
theorem dL_587 : decode cL_law 587 = .ok (.iload 4, 2) := by decide +kernel
theorem dL_589 : decode cL_law 589 = .ok (.iconst 1, 1) := by decide +kernel
theorem dL_590 : decode cL_law 590 = .ok (.iadd, 1) := by decide +kernel
theorem dL_591 : decode cL_law 591 = .ok (.iaload, 1) := by decide +kernel
theorem dL_592 : decode cL_law 592 = .ok (.aload_n 0, 1) := by decide +kernel
theorem dL_593 : decode cL_law 593 = .ok (.iload 4, 2) := by decide +kernel
theorem dL_595 : decode cL_law 595 = .ok (.iconst 2, 1) := by decide +kernel
theorem dL_596 : decode cL_law 596 = .ok (.iadd, 1) := by decide +kernel
theorem dL_597 : decode cL_law 597 = .ok (.iaload, 1) := by decide +kernel
theorem dL_598 : decode cL_law 598 = .ok (.invokevirtual 65, 3) := by decide +kernel
theorem dL_601 : decode cL_law 601 = .ok (.if_icmp .eq 1023, 3) := by decide +kernel
theorem dL_604 : decode cL_law 604 = .ok (.iconst 0, 1) := by decide +kernel
theorem dL_605 : decode cL_law 605 = .ok (.ireturn, 1) := by decide +kernel
theorem dL_606 : decode cL_law 606 = .ok (.aload_n 1, 1) := by decide +kernel
theorem dL_607 : decode cL_law 607 = .ok (.aload_n 0, 1) := by decide +kernel
theorem dL_608 : decode cL_law 608 = .ok (.iload 4, 2) := by decide +kernel
theorem dL_610 : decode cL_law 610 = .ok (.iconst 1, 1) := by decide +kernel
theorem dL_611 : decode cL_law 611 = .ok (.iadd, 1) := by decide +kernel
theorem dL_612 : decode cL_law 612 = .ok (.iaload, 1) := by decide +kernel
theorem dL_613 : decode cL_law 613 = .ok (.aload_n 0, 1) := by decide +kernel
theorem dL_614 : decode cL_law 614 = .ok (.iload 4, 2) := by decide +kernel
theorem dL_616 : decode cL_law 616 = .ok (.iconst 2, 1) := by decide +kernel
theorem dL_617 : decode cL_law 617 = .ok (.iadd, 1) := by decide +kernel
theorem dL_618 : decode cL_law 618 = .ok (.iaload, 1) := by decide +kernel
theorem dL_619 : decode cL_law 619 = .ok (.invokevirtual 66, 3) := by decide +kernel
theorem dL_622 : decode cL_law 622 = .ok (.aload_n 2, 1) := by decide +kernel
theorem dL_623 : decode cL_law 623 = .ok (.aload_n 0, 1) := by decide +kernel
theorem dL_624 : decode cL_law 624 = .ok (.iload 4, 2) := by decide +kernel
theorem dL_626 : decode cL_law 626 = .ok (.iconst 1, 1) := by decide +kernel
theorem dL_627 : decode cL_law 627 = .ok (.iadd, 1) := by decide +kernel
theorem dL_628 : decode cL_law 628 = .ok (.iaload, 1) := by decide +kernel
theorem dL_629 : decode cL_law 629 = .ok (.aload_n 0, 1) := by decide +kernel
theorem dL_630 : decode cL_law 630 = .ok (.iload 4, 2) := by decide +kernel
theorem dL_632 : decode cL_law 632 = .ok (.iconst 2, 1) := by decide +kernel
theorem dL_633 : decode cL_law 633 = .ok (.iadd, 1) := by decide +kernel
theorem dL_634 : decode cL_law 634 = .ok (.iaload, 1) := by decide +kernel
theorem dL_635 : decode cL_law 635 = .ok (.invokevirtual 69, 3) := by decide +kernel
theorem dL_638 : decode cL_law 638 = .ok (.if_icmp .eq 986, 3) := by decide +kernel
theorem dL_641 : decode cL_law 641 = .ok (.iconst 0, 1) := by decide +kernel
theorem dL_642 : decode cL_law 642 = .ok (.ireturn, 1) := by decide +kernel
theorem dL_643 : decode cL_law 643 = .ok (.aload_n 1, 1) := by decide +kernel
theorem dL_644 : decode cL_law 644 = .ok (.aload_n 0, 1) := by decide +kernel
theorem dL_645 : decode cL_law 645 = .ok (.iload 4, 2) := by decide +kernel
theorem dL_647 : decode cL_law 647 = .ok (.iconst 1, 1) := by decide +kernel
theorem dL_648 : decode cL_law 648 = .ok (.iadd, 1) := by decide +kernel
theorem dL_649 : decode cL_law 649 = .ok (.iaload, 1) := by decide +kernel
theorem dL_650 : decode cL_law 650 = .ok (.aload_n 3, 1) := by decide +kernel
theorem dL_651 : decode cL_law 651 = .ok (.invokestatic 70, 3) := by decide +kernel
theorem dL_654 : decode cL_law 654 = .ok (.istore 5, 2) := by decide +kernel
theorem dL_656 : decode cL_law 656 = .ok (.aload_n 2, 1) := by decide +kernel
theorem dL_657 : decode cL_law 657 = .ok (.aload_n 0, 1) := by decide +kernel
theorem dL_658 : decode cL_law 658 = .ok (.iload 4, 2) := by decide +kernel
theorem dL_660 : decode cL_law 660 = .ok (.iconst 1, 1) := by decide +kernel
theorem dL_661 : decode cL_law 661 = .ok (.iadd, 1) := by decide +kernel
theorem dL_662 : decode cL_law 662 = .ok (.iaload, 1) := by decide +kernel
theorem dL_663 : decode cL_law 663 = .ok (.invokevirtual 75, 3) := by decide +kernel
theorem dL_666 : decode cL_law 666 = .ok (.lstore 6, 2) := by decide +kernel
theorem dL_668 : decode cL_law 668 = .ok (.aload_n 2, 1) := by decide +kernel
theorem dL_669 : decode cL_law 669 = .ok (.invokevirtual 76, 3) := by decide +kernel
theorem dL_672 : decode cL_law 672 = .ok (.iload 5, 2) := by decide +kernel
theorem dL_674 : decode cL_law 674 = .ok (.if_icmp .eq 5, 3) := by decide +kernel
theorem dL_677 : decode cL_law 677 = .ok (.iconst 0, 1) := by decide +kernel
theorem dL_678 : decode cL_law 678 = .ok (.ireturn, 1) := by decide +kernel
theorem dL_679 : decode cL_law 679 = .ok (.iload 5, 2) := by decide +kernel
theorem dL_681 : decode cL_law 681 = .ok (.ifCond .ne 14, 3) := by decide +kernel
theorem dL_684 : decode cL_law 684 = .ok (.aload_n 3, 1) := by decide +kernel
theorem dL_685 : decode cL_law 685 = .ok (.iconst 0, 1) := by decide +kernel
theorem dL_686 : decode cL_law 686 = .ok (.laload, 1) := by decide +kernel
theorem dL_687 : decode cL_law 687 = .ok (.lload 6, 2) := by decide +kernel
theorem dL_689 : decode cL_law 689 = .ok (.lcmp, 1) := by decide +kernel
theorem dL_690 : decode cL_law 690 = .ok (.ifCond .eq 5, 3) := by decide +kernel
theorem dL_693 : decode cL_law 693 = .ok (.iconst 0, 1) := by decide +kernel
theorem dL_694 : decode cL_law 694 = .ok (.ireturn, 1) := by decide +kernel
theorem dL_695 : decode cL_law 695 = .ok (.goto 929, 3) := by decide +kernel
theorem dL_698 : decode cL_law 698 = .ok (.aload_n 1, 1) := by decide +kernel
theorem dL_699 : decode cL_law 699 = .ok (.aload_n 0, 1) := by decide +kernel
theorem dL_700 : decode cL_law 700 = .ok (.iload 4, 2) := by decide +kernel
theorem dL_702 : decode cL_law 702 = .ok (.iconst 1, 1) := by decide +kernel
theorem dL_703 : decode cL_law 703 = .ok (.iadd, 1) := by decide +kernel
theorem dL_704 : decode cL_law 704 = .ok (.iaload, 1) := by decide +kernel
theorem dL_705 : decode cL_law 705 = .ok (.aload_n 0, 1) := by decide +kernel
theorem dL_706 : decode cL_law 706 = .ok (.iload 4, 2) := by decide +kernel
theorem dL_708 : decode cL_law 708 = .ok (.iconst 2, 1) := by decide +kernel
theorem dL_709 : decode cL_law 709 = .ok (.iadd, 1) := by decide +kernel
theorem dL_710 : decode cL_law 710 = .ok (.iaload, 1) := by decide +kernel
theorem dL_711 : decode cL_law 711 = .ok (.i2l, 1) := by decide +kernel
theorem dL_712 : decode cL_law 712 = .ok (.bipush 32, 2) := by decide +kernel
theorem dL_714 : decode cL_law 714 = .ok (.lshl, 1) := by decide +kernel
theorem dL_715 : decode cL_law 715 = .ok (.aload_n 0, 1) := by decide +kernel
theorem dL_716 : decode cL_law 716 = .ok (.iload 4, 2) := by decide +kernel
theorem dL_718 : decode cL_law 718 = .ok (.iconst 3, 1) := by decide +kernel
theorem dL_719 : decode cL_law 719 = .ok (.iadd, 1) := by decide +kernel
theorem dL_720 : decode cL_law 720 = .ok (.iaload, 1) := by decide +kernel
theorem dL_721 : decode cL_law 721 = .ok (.i2l, 1) := by decide +kernel
theorem dL_722 : decode cL_law 722 = .ok (.ldc2_w 80, 3) := by decide +kernel
theorem dL_725 : decode cL_law 725 = .ok (.land, 1) := by decide +kernel
theorem dL_726 : decode cL_law 726 = .ok (.lor, 1) := by decide +kernel
theorem dL_727 : decode cL_law 727 = .ok (.invokevirtual 82, 3) := by decide +kernel
theorem dL_730 : decode cL_law 730 = .ok (.aload_n 2, 1) := by decide +kernel
theorem dL_731 : decode cL_law 731 = .ok (.aload_n 0, 1) := by decide +kernel
theorem dL_732 : decode cL_law 732 = .ok (.iload 4, 2) := by decide +kernel
theorem dL_734 : decode cL_law 734 = .ok (.iconst 1, 1) := by decide +kernel
theorem dL_735 : decode cL_law 735 = .ok (.iadd, 1) := by decide +kernel
theorem dL_736 : decode cL_law 736 = .ok (.iaload, 1) := by decide +kernel
theorem dL_737 : decode cL_law 737 = .ok (.aload_n 0, 1) := by decide +kernel
theorem dL_738 : decode cL_law 738 = .ok (.iload 4, 2) := by decide +kernel
theorem dL_740 : decode cL_law 740 = .ok (.iconst 2, 1) := by decide +kernel
theorem dL_741 : decode cL_law 741 = .ok (.iadd, 1) := by decide +kernel
theorem dL_742 : decode cL_law 742 = .ok (.iaload, 1) := by decide +kernel
theorem dL_743 : decode cL_law 743 = .ok (.i2l, 1) := by decide +kernel
theorem dL_744 : decode cL_law 744 = .ok (.bipush 32, 2) := by decide +kernel
theorem dL_746 : decode cL_law 746 = .ok (.lshl, 1) := by decide +kernel
theorem dL_747 : decode cL_law 747 = .ok (.aload_n 0, 1) := by decide +kernel
theorem dL_748 : decode cL_law 748 = .ok (.iload 4, 2) := by decide +kernel
theorem dL_750 : decode cL_law 750 = .ok (.iconst 3, 1) := by decide +kernel
theorem dL_751 : decode cL_law 751 = .ok (.iadd, 1) := by decide +kernel
theorem dL_752 : decode cL_law 752 = .ok (.iaload, 1) := by decide +kernel
theorem dL_753 : decode cL_law 753 = .ok (.i2l, 1) := by decide +kernel
theorem dL_754 : decode cL_law 754 = .ok (.ldc2_w 80, 3) := by decide +kernel
theorem dL_757 : decode cL_law 757 = .ok (.land, 1) := by decide +kernel
theorem dL_758 : decode cL_law 758 = .ok (.lor, 1) := by decide +kernel
theorem dL_759 : decode cL_law 759 = .ok (.invokevirtual 86, 3) := by decide +kernel
theorem dL_762 : decode cL_law 762 = .ok (.if_icmp .eq 862, 3) := by decide +kernel
theorem dL_765 : decode cL_law 765 = .ok (.iconst 0, 1) := by decide +kernel
theorem dL_766 : decode cL_law 766 = .ok (.ireturn, 1) := by decide +kernel
theorem dL_767 : decode cL_law 767 = .ok (.aload_n 1, 1) := by decide +kernel
theorem dL_768 : decode cL_law 768 = .ok (.aload_n 0, 1) := by decide +kernel
theorem dL_769 : decode cL_law 769 = .ok (.iload 4, 2) := by decide +kernel
theorem dL_771 : decode cL_law 771 = .ok (.iconst 1, 1) := by decide +kernel
theorem dL_772 : decode cL_law 772 = .ok (.iadd, 1) := by decide +kernel
theorem dL_773 : decode cL_law 773 = .ok (.iaload, 1) := by decide +kernel
theorem dL_774 : decode cL_law 774 = .ok (.aload_n 0, 1) := by decide +kernel
theorem dL_775 : decode cL_law 775 = .ok (.iload 4, 2) := by decide +kernel
theorem dL_777 : decode cL_law 777 = .ok (.iconst 2, 1) := by decide +kernel
theorem dL_778 : decode cL_law 778 = .ok (.iadd, 1) := by decide +kernel
theorem dL_779 : decode cL_law 779 = .ok (.iaload, 1) := by decide +kernel
theorem dL_780 : decode cL_law 780 = .ok (.invokevirtual 87, 3) := by decide +kernel
theorem dL_783 : decode cL_law 783 = .ok (.aload_n 2, 1) := by decide +kernel
theorem dL_784 : decode cL_law 784 = .ok (.aload_n 0, 1) := by decide +kernel
theorem dL_785 : decode cL_law 785 = .ok (.iload 4, 2) := by decide +kernel
theorem dL_787 : decode cL_law 787 = .ok (.iconst 1, 1) := by decide +kernel
theorem dL_788 : decode cL_law 788 = .ok (.iadd, 1) := by decide +kernel
theorem dL_789 : decode cL_law 789 = .ok (.iaload, 1) := by decide +kernel
theorem dL_790 : decode cL_law 790 = .ok (.aload_n 0, 1) := by decide +kernel
theorem dL_791 : decode cL_law 791 = .ok (.iload 4, 2) := by decide +kernel
theorem dL_793 : decode cL_law 793 = .ok (.iconst 2, 1) := by decide +kernel
theorem dL_794 : decode cL_law 794 = .ok (.iadd, 1) := by decide +kernel
theorem dL_795 : decode cL_law 795 = .ok (.iaload, 1) := by decide +kernel
theorem dL_796 : decode cL_law 796 = .ok (.invokevirtual 90, 3) := by decide +kernel
theorem dL_799 : decode cL_law 799 = .ok (.if_icmp .eq 825, 3) := by decide +kernel
theorem dL_802 : decode cL_law 802 = .ok (.iconst 0, 1) := by decide +kernel
theorem dL_803 : decode cL_law 803 = .ok (.ireturn, 1) := by decide +kernel
theorem dL_804 : decode cL_law 804 = .ok (.aload_n 1, 1) := by decide +kernel
theorem dL_805 : decode cL_law 805 = .ok (.aload_n 0, 1) := by decide +kernel
theorem dL_806 : decode cL_law 806 = .ok (.iload 4, 2) := by decide +kernel
theorem dL_808 : decode cL_law 808 = .ok (.iconst 1, 1) := by decide +kernel
theorem dL_809 : decode cL_law 809 = .ok (.iadd, 1) := by decide +kernel
theorem dL_810 : decode cL_law 810 = .ok (.iaload, 1) := by decide +kernel
theorem dL_811 : decode cL_law 811 = .ok (.aload_n 0, 1) := by decide +kernel
theorem dL_812 : decode cL_law 812 = .ok (.iload 4, 2) := by decide +kernel
theorem dL_814 : decode cL_law 814 = .ok (.iconst 2, 1) := by decide +kernel
theorem dL_815 : decode cL_law 815 = .ok (.iadd, 1) := by decide +kernel
theorem dL_816 : decode cL_law 816 = .ok (.iaload, 1) := by decide +kernel
theorem dL_817 : decode cL_law 817 = .ok (.invokevirtual 91, 3) := by decide +kernel
theorem dL_820 : decode cL_law 820 = .ok (.aload_n 2, 1) := by decide +kernel
theorem dL_821 : decode cL_law 821 = .ok (.aload_n 0, 1) := by decide +kernel
theorem dL_822 : decode cL_law 822 = .ok (.iload 4, 2) := by decide +kernel
theorem dL_824 : decode cL_law 824 = .ok (.iconst 1, 1) := by decide +kernel
theorem dL_825 : decode cL_law 825 = .ok (.iadd, 1) := by decide +kernel
theorem dL_826 : decode cL_law 826 = .ok (.iaload, 1) := by decide +kernel
theorem dL_827 : decode cL_law 827 = .ok (.aload_n 0, 1) := by decide +kernel
theorem dL_828 : decode cL_law 828 = .ok (.iload 4, 2) := by decide +kernel
theorem dL_830 : decode cL_law 830 = .ok (.iconst 2, 1) := by decide +kernel
theorem dL_831 : decode cL_law 831 = .ok (.iadd, 1) := by decide +kernel
theorem dL_832 : decode cL_law 832 = .ok (.iaload, 1) := by decide +kernel
theorem dL_833 : decode cL_law 833 = .ok (.invokevirtual 94, 3) := by decide +kernel
theorem dL_836 : decode cL_law 836 = .ok (.if_icmp .eq 788, 3) := by decide +kernel
theorem dL_839 : decode cL_law 839 = .ok (.iconst 0, 1) := by decide +kernel
theorem dL_840 : decode cL_law 840 = .ok (.ireturn, 1) := by decide +kernel
theorem dL_841 : decode cL_law 841 = .ok (.aload_n 1, 1) := by decide +kernel
theorem dL_842 : decode cL_law 842 = .ok (.aload_n 0, 1) := by decide +kernel
theorem dL_843 : decode cL_law 843 = .ok (.iload 4, 2) := by decide +kernel
theorem dL_845 : decode cL_law 845 = .ok (.iconst 1, 1) := by decide +kernel
theorem dL_846 : decode cL_law 846 = .ok (.iadd, 1) := by decide +kernel
theorem dL_847 : decode cL_law 847 = .ok (.iaload, 1) := by decide +kernel
theorem dL_848 : decode cL_law 848 = .ok (.aload_n 0, 1) := by decide +kernel
theorem dL_849 : decode cL_law 849 = .ok (.iload 4, 2) := by decide +kernel
theorem dL_851 : decode cL_law 851 = .ok (.iconst 2, 1) := by decide +kernel
theorem dL_852 : decode cL_law 852 = .ok (.iadd, 1) := by decide +kernel
theorem dL_853 : decode cL_law 853 = .ok (.iaload, 1) := by decide +kernel
theorem dL_854 : decode cL_law 854 = .ok (.aload_n 0, 1) := by decide +kernel
theorem dL_855 : decode cL_law 855 = .ok (.iload 4, 2) := by decide +kernel
theorem dL_857 : decode cL_law 857 = .ok (.iconst 3, 1) := by decide +kernel
theorem dL_858 : decode cL_law 858 = .ok (.iadd, 1) := by decide +kernel
theorem dL_859 : decode cL_law 859 = .ok (.iaload, 1) := by decide +kernel
theorem dL_860 : decode cL_law 860 = .ok (.aload_n 0, 1) := by decide +kernel
theorem dL_861 : decode cL_law 861 = .ok (.iload 4, 2) := by decide +kernel
theorem dL_863 : decode cL_law 863 = .ok (.iconst 4, 1) := by decide +kernel
theorem dL_864 : decode cL_law 864 = .ok (.iadd, 1) := by decide +kernel
theorem dL_865 : decode cL_law 865 = .ok (.iaload, 1) := by decide +kernel
theorem dL_866 : decode cL_law 866 = .ok (.aload_n 0, 1) := by decide +kernel
theorem dL_867 : decode cL_law 867 = .ok (.iload 4, 2) := by decide +kernel
theorem dL_869 : decode cL_law 869 = .ok (.iconst 5, 1) := by decide +kernel
theorem dL_870 : decode cL_law 870 = .ok (.iadd, 1) := by decide +kernel
theorem dL_871 : decode cL_law 871 = .ok (.iaload, 1) := by decide +kernel
theorem dL_872 : decode cL_law 872 = .ok (.aload_n 0, 1) := by decide +kernel
theorem dL_873 : decode cL_law 873 = .ok (.iload 4, 2) := by decide +kernel
theorem dL_875 : decode cL_law 875 = .ok (.bipush 6, 2) := by decide +kernel
theorem dL_877 : decode cL_law 877 = .ok (.iadd, 1) := by decide +kernel
theorem dL_878 : decode cL_law 878 = .ok (.iaload, 1) := by decide +kernel
theorem dL_879 : decode cL_law 879 = .ok (.invokevirtual 95, 3) := by decide +kernel
theorem dL_882 : decode cL_law 882 = .ok (.aload_n 2, 1) := by decide +kernel
theorem dL_883 : decode cL_law 883 = .ok (.aload_n 0, 1) := by decide +kernel
theorem dL_884 : decode cL_law 884 = .ok (.iload 4, 2) := by decide +kernel
theorem dL_886 : decode cL_law 886 = .ok (.iconst 1, 1) := by decide +kernel
theorem dL_887 : decode cL_law 887 = .ok (.iadd, 1) := by decide +kernel
theorem dL_888 : decode cL_law 888 = .ok (.iaload, 1) := by decide +kernel
theorem dL_889 : decode cL_law 889 = .ok (.aload_n 0, 1) := by decide +kernel
theorem dL_890 : decode cL_law 890 = .ok (.iload 4, 2) := by decide +kernel
theorem dL_892 : decode cL_law 892 = .ok (.iconst 2, 1) := by decide +kernel
theorem dL_893 : decode cL_law 893 = .ok (.iadd, 1) := by decide +kernel
theorem dL_894 : decode cL_law 894 = .ok (.iaload, 1) := by decide +kernel
theorem dL_895 : decode cL_law 895 = .ok (.aload_n 0, 1) := by decide +kernel
theorem dL_896 : decode cL_law 896 = .ok (.iload 4, 2) := by decide +kernel
theorem dL_898 : decode cL_law 898 = .ok (.iconst 3, 1) := by decide +kernel
theorem dL_899 : decode cL_law 899 = .ok (.iadd, 1) := by decide +kernel
theorem dL_900 : decode cL_law 900 = .ok (.iaload, 1) := by decide +kernel
theorem dL_901 : decode cL_law 901 = .ok (.aload_n 0, 1) := by decide +kernel
theorem dL_902 : decode cL_law 902 = .ok (.iload 4, 2) := by decide +kernel
theorem dL_904 : decode cL_law 904 = .ok (.iconst 4, 1) := by decide +kernel
theorem dL_905 : decode cL_law 905 = .ok (.iadd, 1) := by decide +kernel
theorem dL_906 : decode cL_law 906 = .ok (.iaload, 1) := by decide +kernel
theorem dL_907 : decode cL_law 907 = .ok (.aload_n 0, 1) := by decide +kernel
theorem dL_908 : decode cL_law 908 = .ok (.iload 4, 2) := by decide +kernel
theorem dL_910 : decode cL_law 910 = .ok (.iconst 5, 1) := by decide +kernel
theorem dL_911 : decode cL_law 911 = .ok (.iadd, 1) := by decide +kernel
theorem dL_912 : decode cL_law 912 = .ok (.iaload, 1) := by decide +kernel
theorem dL_913 : decode cL_law 913 = .ok (.aload_n 0, 1) := by decide +kernel
theorem dL_914 : decode cL_law 914 = .ok (.iload 4, 2) := by decide +kernel
theorem dL_916 : decode cL_law 916 = .ok (.bipush 6, 2) := by decide +kernel
theorem dL_918 : decode cL_law 918 = .ok (.iadd, 1) := by decide +kernel
theorem dL_919 : decode cL_law 919 = .ok (.iaload, 1) := by decide +kernel
theorem dL_920 : decode cL_law 920 = .ok (.invokevirtual 99, 3) := by decide +kernel
theorem dL_923 : decode cL_law 923 = .ok (.if_icmp .eq 701, 3) := by decide +kernel
theorem dL_926 : decode cL_law 926 = .ok (.iconst 0, 1) := by decide +kernel
theorem dL_927 : decode cL_law 927 = .ok (.ireturn, 1) := by decide +kernel
theorem dL_928 : decode cL_law 928 = .ok (.aload_n 1, 1) := by decide +kernel
theorem dL_929 : decode cL_law 929 = .ok (.aload_n 0, 1) := by decide +kernel
theorem dL_930 : decode cL_law 930 = .ok (.iload 4, 2) := by decide +kernel
theorem dL_932 : decode cL_law 932 = .ok (.iconst 1, 1) := by decide +kernel
theorem dL_933 : decode cL_law 933 = .ok (.iadd, 1) := by decide +kernel
theorem dL_934 : decode cL_law 934 = .ok (.iaload, 1) := by decide +kernel
theorem dL_935 : decode cL_law 935 = .ok (.invokevirtual 100, 3) := by decide +kernel
theorem dL_938 : decode cL_law 938 = .ok (.aload_n 2, 1) := by decide +kernel
theorem dL_939 : decode cL_law 939 = .ok (.aload_n 0, 1) := by decide +kernel
theorem dL_940 : decode cL_law 940 = .ok (.iload 4, 2) := by decide +kernel
theorem dL_942 : decode cL_law 942 = .ok (.iconst 1, 1) := by decide +kernel
theorem dL_943 : decode cL_law 943 = .ok (.iadd, 1) := by decide +kernel
theorem dL_944 : decode cL_law 944 = .ok (.iaload, 1) := by decide +kernel
theorem dL_945 : decode cL_law 945 = .ok (.invokevirtual 103, 3) := by decide +kernel
theorem dL_948 : decode cL_law 948 = .ok (.if_icmp .eq 676, 3) := by decide +kernel
theorem dL_951 : decode cL_law 951 = .ok (.iconst 0, 1) := by decide +kernel
theorem dL_952 : decode cL_law 952 = .ok (.ireturn, 1) := by decide +kernel
theorem dL_953 : decode cL_law 953 = .ok (.aload_n 1, 1) := by decide +kernel
theorem dL_954 : decode cL_law 954 = .ok (.aload_n 0, 1) := by decide +kernel
theorem dL_955 : decode cL_law 955 = .ok (.iload 4, 2) := by decide +kernel
theorem dL_957 : decode cL_law 957 = .ok (.iconst 1, 1) := by decide +kernel
theorem dL_958 : decode cL_law 958 = .ok (.iadd, 1) := by decide +kernel
theorem dL_959 : decode cL_law 959 = .ok (.iaload, 1) := by decide +kernel
theorem dL_960 : decode cL_law 960 = .ok (.aload_n 0, 1) := by decide +kernel
theorem dL_961 : decode cL_law 961 = .ok (.iload 4, 2) := by decide +kernel
theorem dL_963 : decode cL_law 963 = .ok (.iconst 2, 1) := by decide +kernel
theorem dL_964 : decode cL_law 964 = .ok (.iadd, 1) := by decide +kernel
theorem dL_965 : decode cL_law 965 = .ok (.iaload, 1) := by decide +kernel
theorem dL_966 : decode cL_law 966 = .ok (.aload_n 0, 1) := by decide +kernel
theorem dL_967 : decode cL_law 967 = .ok (.iload 4, 2) := by decide +kernel
theorem dL_969 : decode cL_law 969 = .ok (.iconst 3, 1) := by decide +kernel
theorem dL_970 : decode cL_law 970 = .ok (.iadd, 1) := by decide +kernel
theorem dL_971 : decode cL_law 971 = .ok (.iaload, 1) := by decide +kernel
theorem dL_972 : decode cL_law 972 = .ok (.invokevirtual 104, 3) := by decide +kernel
theorem dL_975 : decode cL_law 975 = .ok (.aload_n 2, 1) := by decide +kernel
theorem dL_976 : decode cL_law 976 = .ok (.aload_n 0, 1) := by decide +kernel
theorem dL_977 : decode cL_law 977 = .ok (.iload 4, 2) := by decide +kernel
theorem dL_979 : decode cL_law 979 = .ok (.iconst 1, 1) := by decide +kernel
theorem dL_980 : decode cL_law 980 = .ok (.iadd, 1) := by decide +kernel
theorem dL_981 : decode cL_law 981 = .ok (.iaload, 1) := by decide +kernel
theorem dL_982 : decode cL_law 982 = .ok (.aload_n 0, 1) := by decide +kernel
theorem dL_983 : decode cL_law 983 = .ok (.iload 4, 2) := by decide +kernel
theorem dL_985 : decode cL_law 985 = .ok (.iconst 2, 1) := by decide +kernel
theorem dL_986 : decode cL_law 986 = .ok (.iadd, 1) := by decide +kernel
theorem dL_987 : decode cL_law 987 = .ok (.iaload, 1) := by decide +kernel
theorem dL_988 : decode cL_law 988 = .ok (.aload_n 0, 1) := by decide +kernel
theorem dL_989 : decode cL_law 989 = .ok (.iload 4, 2) := by decide +kernel
theorem dL_991 : decode cL_law 991 = .ok (.iconst 3, 1) := by decide +kernel
theorem dL_992 : decode cL_law 992 = .ok (.iadd, 1) := by decide +kernel
theorem dL_993 : decode cL_law 993 = .ok (.iaload, 1) := by decide +kernel
theorem dL_994 : decode cL_law 994 = .ok (.invokevirtual 108, 3) := by decide +kernel
theorem dL_997 : decode cL_law 997 = .ok (.if_icmp .eq 627, 3) := by decide +kernel
theorem dL_1000 : decode cL_law 1000 = .ok (.iconst 0, 1) := by decide +kernel
theorem dL_1001 : decode cL_law 1001 = .ok (.ireturn, 1) := by decide +kernel
theorem dL_1002 : decode cL_law 1002 = .ok (.aload_n 1, 1) := by decide +kernel
theorem dL_1003 : decode cL_law 1003 = .ok (.aload_n 0, 1) := by decide +kernel
theorem dL_1004 : decode cL_law 1004 = .ok (.iload 4, 2) := by decide +kernel
theorem dL_1006 : decode cL_law 1006 = .ok (.iconst 1, 1) := by decide +kernel
theorem dL_1007 : decode cL_law 1007 = .ok (.iadd, 1) := by decide +kernel
theorem dL_1008 : decode cL_law 1008 = .ok (.iaload, 1) := by decide +kernel
theorem dL_1009 : decode cL_law 1009 = .ok (.aload_n 0, 1) := by decide +kernel
theorem dL_1010 : decode cL_law 1010 = .ok (.iload 4, 2) := by decide +kernel
theorem dL_1012 : decode cL_law 1012 = .ok (.iconst 2, 1) := by decide +kernel
theorem dL_1013 : decode cL_law 1013 = .ok (.iadd, 1) := by decide +kernel
theorem dL_1014 : decode cL_law 1014 = .ok (.iaload, 1) := by decide +kernel
theorem dL_1015 : decode cL_law 1015 = .ok (.aload_n 0, 1) := by decide +kernel
theorem dL_1016 : decode cL_law 1016 = .ok (.iload 4, 2) := by decide +kernel
theorem dL_1018 : decode cL_law 1018 = .ok (.iconst 3, 1) := by decide +kernel
theorem dL_1019 : decode cL_law 1019 = .ok (.iadd, 1) := by decide +kernel
theorem dL_1020 : decode cL_law 1020 = .ok (.iaload, 1) := by decide +kernel
theorem dL_1021 : decode cL_law 1021 = .ok (.invokevirtual 109, 3) := by decide +kernel
theorem dL_1024 : decode cL_law 1024 = .ok (.aload_n 2, 1) := by decide +kernel
theorem dL_1025 : decode cL_law 1025 = .ok (.aload_n 0, 1) := by decide +kernel
theorem dL_1026 : decode cL_law 1026 = .ok (.iload 4, 2) := by decide +kernel
theorem dL_1028 : decode cL_law 1028 = .ok (.iconst 1, 1) := by decide +kernel
theorem dL_1029 : decode cL_law 1029 = .ok (.iadd, 1) := by decide +kernel
theorem dL_1030 : decode cL_law 1030 = .ok (.iaload, 1) := by decide +kernel
theorem dL_1031 : decode cL_law 1031 = .ok (.aload_n 0, 1) := by decide +kernel
theorem dL_1032 : decode cL_law 1032 = .ok (.iload 4, 2) := by decide +kernel
theorem dL_1034 : decode cL_law 1034 = .ok (.iconst 2, 1) := by decide +kernel
theorem dL_1035 : decode cL_law 1035 = .ok (.iadd, 1) := by decide +kernel
theorem dL_1036 : decode cL_law 1036 = .ok (.iaload, 1) := by decide +kernel
theorem dL_1037 : decode cL_law 1037 = .ok (.aload_n 0, 1) := by decide +kernel
theorem dL_1038 : decode cL_law 1038 = .ok (.iload 4, 2) := by decide +kernel
theorem dL_1040 : decode cL_law 1040 = .ok (.iconst 3, 1) := by decide +kernel
theorem dL_1041 : decode cL_law 1041 = .ok (.iadd, 1) := by decide +kernel
theorem dL_1042 : decode cL_law 1042 = .ok (.iaload, 1) := by decide +kernel
theorem dL_1043 : decode cL_law 1043 = .ok (.invokevirtual 112, 3) := by decide +kernel
theorem dL_1046 : decode cL_law 1046 = .ok (.if_icmp .eq 578, 3) := by decide +kernel
theorem dL_1049 : decode cL_law 1049 = .ok (.iconst 0, 1) := by decide +kernel
theorem dL_1050 : decode cL_law 1050 = .ok (.ireturn, 1) := by decide +kernel
theorem dL_1051 : decode cL_law 1051 = .ok (.aload_n 1, 1) := by decide +kernel
theorem dL_1052 : decode cL_law 1052 = .ok (.aload_n 0, 1) := by decide +kernel
theorem dL_1053 : decode cL_law 1053 = .ok (.iload 4, 2) := by decide +kernel
theorem dL_1055 : decode cL_law 1055 = .ok (.iconst 1, 1) := by decide +kernel
theorem dL_1056 : decode cL_law 1056 = .ok (.iadd, 1) := by decide +kernel
theorem dL_1057 : decode cL_law 1057 = .ok (.iaload, 1) := by decide +kernel
theorem dL_1058 : decode cL_law 1058 = .ok (.aload_n 0, 1) := by decide +kernel
theorem dL_1059 : decode cL_law 1059 = .ok (.iload 4, 2) := by decide +kernel
theorem dL_1061 : decode cL_law 1061 = .ok (.iconst 2, 1) := by decide +kernel
theorem dL_1062 : decode cL_law 1062 = .ok (.iadd, 1) := by decide +kernel
theorem dL_1063 : decode cL_law 1063 = .ok (.iaload, 1) := by decide +kernel
theorem dL_1064 : decode cL_law 1064 = .ok (.aload_n 0, 1) := by decide +kernel
theorem dL_1065 : decode cL_law 1065 = .ok (.iload 4, 2) := by decide +kernel
theorem dL_1067 : decode cL_law 1067 = .ok (.iconst 3, 1) := by decide +kernel
theorem dL_1068 : decode cL_law 1068 = .ok (.iadd, 1) := by decide +kernel
theorem dL_1069 : decode cL_law 1069 = .ok (.iaload, 1) := by decide +kernel
theorem dL_1070 : decode cL_law 1070 = .ok (.invokevirtual 113, 3) := by decide +kernel
theorem dL_1073 : decode cL_law 1073 = .ok (.aload_n 2, 1) := by decide +kernel
theorem dL_1074 : decode cL_law 1074 = .ok (.aload_n 0, 1) := by decide +kernel
theorem dL_1075 : decode cL_law 1075 = .ok (.iload 4, 2) := by decide +kernel
theorem dL_1077 : decode cL_law 1077 = .ok (.iconst 1, 1) := by decide +kernel
theorem dL_1078 : decode cL_law 1078 = .ok (.iadd, 1) := by decide +kernel
theorem dL_1079 : decode cL_law 1079 = .ok (.iaload, 1) := by decide +kernel
theorem dL_1080 : decode cL_law 1080 = .ok (.aload_n 0, 1) := by decide +kernel
theorem dL_1081 : decode cL_law 1081 = .ok (.iload 4, 2) := by decide +kernel
theorem dL_1083 : decode cL_law 1083 = .ok (.iconst 2, 1) := by decide +kernel
theorem dL_1084 : decode cL_law 1084 = .ok (.iadd, 1) := by decide +kernel
theorem dL_1085 : decode cL_law 1085 = .ok (.iaload, 1) := by decide +kernel
theorem dL_1086 : decode cL_law 1086 = .ok (.aload_n 0, 1) := by decide +kernel
theorem dL_1087 : decode cL_law 1087 = .ok (.iload 4, 2) := by decide +kernel
theorem dL_1089 : decode cL_law 1089 = .ok (.iconst 3, 1) := by decide +kernel
theorem dL_1090 : decode cL_law 1090 = .ok (.iadd, 1) := by decide +kernel
theorem dL_1091 : decode cL_law 1091 = .ok (.iaload, 1) := by decide +kernel
theorem dL_1092 : decode cL_law 1092 = .ok (.invokevirtual 116, 3) := by decide +kernel
theorem dL_1095 : decode cL_law 1095 = .ok (.if_icmp .eq 529, 3) := by decide +kernel
theorem dL_1098 : decode cL_law 1098 = .ok (.iconst 0, 1) := by decide +kernel
theorem dL_1099 : decode cL_law 1099 = .ok (.ireturn, 1) := by decide +kernel
theorem dL_1100 : decode cL_law 1100 = .ok (.aload_n 1, 1) := by decide +kernel
theorem dL_1101 : decode cL_law 1101 = .ok (.invokevirtual 117, 3) := by decide +kernel
theorem dL_1104 : decode cL_law 1104 = .ok (.aload_n 2, 1) := by decide +kernel
theorem dL_1105 : decode cL_law 1105 = .ok (.invokevirtual 120, 3) := by decide +kernel
theorem dL_1108 : decode cL_law 1108 = .ok (.if_icmp .eq 516, 3) := by decide +kernel
theorem dL_1111 : decode cL_law 1111 = .ok (.iconst 0, 1) := by decide +kernel
theorem dL_1112 : decode cL_law 1112 = .ok (.ireturn, 1) := by decide +kernel
theorem dL_1113 : decode cL_law 1113 = .ok (.aload_n 1, 1) := by decide +kernel
theorem dL_1114 : decode cL_law 1114 = .ok (.aload_n 0, 1) := by decide +kernel
theorem dL_1115 : decode cL_law 1115 = .ok (.iload 4, 2) := by decide +kernel
theorem dL_1117 : decode cL_law 1117 = .ok (.iconst 1, 1) := by decide +kernel
theorem dL_1118 : decode cL_law 1118 = .ok (.iadd, 1) := by decide +kernel
theorem dL_1119 : decode cL_law 1119 = .ok (.iaload, 1) := by decide +kernel
theorem dL_1120 : decode cL_law 1120 = .ok (.invokevirtual 121, 3) := by decide +kernel
theorem dL_1123 : decode cL_law 1123 = .ok (.aload_n 2, 1) := by decide +kernel
theorem dL_1124 : decode cL_law 1124 = .ok (.aload_n 0, 1) := by decide +kernel
theorem dL_1125 : decode cL_law 1125 = .ok (.iload 4, 2) := by decide +kernel
theorem dL_1127 : decode cL_law 1127 = .ok (.iconst 1, 1) := by decide +kernel
theorem dL_1128 : decode cL_law 1128 = .ok (.iadd, 1) := by decide +kernel
theorem dL_1129 : decode cL_law 1129 = .ok (.iaload, 1) := by decide +kernel
theorem dL_1130 : decode cL_law 1130 = .ok (.invokevirtual 124, 3) := by decide +kernel
theorem dL_1133 : decode cL_law 1133 = .ok (.if_icmp .eq 491, 3) := by decide +kernel
theorem dL_1136 : decode cL_law 1136 = .ok (.iconst 0, 1) := by decide +kernel
theorem dL_1137 : decode cL_law 1137 = .ok (.ireturn, 1) := by decide +kernel
theorem dL_1138 : decode cL_law 1138 = .ok (.aload_n 1, 1) := by decide +kernel
theorem dL_1139 : decode cL_law 1139 = .ok (.aload_n 0, 1) := by decide +kernel
theorem dL_1140 : decode cL_law 1140 = .ok (.iload 4, 2) := by decide +kernel
theorem dL_1142 : decode cL_law 1142 = .ok (.iconst 1, 1) := by decide +kernel
theorem dL_1143 : decode cL_law 1143 = .ok (.iadd, 1) := by decide +kernel
theorem dL_1144 : decode cL_law 1144 = .ok (.iaload, 1) := by decide +kernel
theorem dL_1145 : decode cL_law 1145 = .ok (.aload_n 0, 1) := by decide +kernel
theorem dL_1146 : decode cL_law 1146 = .ok (.iload 4, 2) := by decide +kernel
theorem dL_1148 : decode cL_law 1148 = .ok (.iconst 2, 1) := by decide +kernel
theorem dL_1149 : decode cL_law 1149 = .ok (.iadd, 1) := by decide +kernel
theorem dL_1150 : decode cL_law 1150 = .ok (.iaload, 1) := by decide +kernel
theorem dL_1151 : decode cL_law 1151 = .ok (.aload_n 0, 1) := by decide +kernel
theorem dL_1152 : decode cL_law 1152 = .ok (.iload 4, 2) := by decide +kernel
theorem dL_1154 : decode cL_law 1154 = .ok (.iconst 3, 1) := by decide +kernel
theorem dL_1155 : decode cL_law 1155 = .ok (.iadd, 1) := by decide +kernel
theorem dL_1156 : decode cL_law 1156 = .ok (.iaload, 1) := by decide +kernel
theorem dL_1157 : decode cL_law 1157 = .ok (.invokevirtual 125, 3) := by decide +kernel
theorem dL_1160 : decode cL_law 1160 = .ok (.aload_n 2, 1) := by decide +kernel
theorem dL_1161 : decode cL_law 1161 = .ok (.aload_n 0, 1) := by decide +kernel
theorem dL_1162 : decode cL_law 1162 = .ok (.iload 4, 2) := by decide +kernel
theorem dL_1164 : decode cL_law 1164 = .ok (.iconst 1, 1) := by decide +kernel
theorem dL_1165 : decode cL_law 1165 = .ok (.iadd, 1) := by decide +kernel
theorem dL_1166 : decode cL_law 1166 = .ok (.iaload, 1) := by decide +kernel
theorem dL_1167 : decode cL_law 1167 = .ok (.aload_n 0, 1) := by decide +kernel
theorem dL_1168 : decode cL_law 1168 = .ok (.iload 4, 2) := by decide +kernel
theorem dL_1170 : decode cL_law 1170 = .ok (.iconst 2, 1) := by decide +kernel
theorem dL_1171 : decode cL_law 1171 = .ok (.iadd, 1) := by decide +kernel
theorem dL_1172 : decode cL_law 1172 = .ok (.iaload, 1) := by decide +kernel
theorem dL_1173 : decode cL_law 1173 = .ok (.aload_n 0, 1) := by decide +kernel
theorem dL_1174 : decode cL_law 1174 = .ok (.iload 4, 2) := by decide +kernel
theorem dL_1176 : decode cL_law 1176 = .ok (.iconst 3, 1) := by decide +kernel
theorem dL_1177 : decode cL_law 1177 = .ok (.iadd, 1) := by decide +kernel
theorem dL_1178 : decode cL_law 1178 = .ok (.iaload, 1) := by decide +kernel
theorem dL_1179 : decode cL_law 1179 = .ok (.invokevirtual 128, 3) := by decide +kernel
theorem dL_1182 : decode cL_law 1182 = .ok (.if_icmp .eq 442, 3) := by decide +kernel
theorem dL_1185 : decode cL_law 1185 = .ok (.iconst 0, 1) := by decide +kernel
theorem dL_1186 : decode cL_law 1186 = .ok (.ireturn, 1) := by decide +kernel
theorem dL_1187 : decode cL_law 1187 = .ok (.aload_n 1, 1) := by decide +kernel
theorem dL_1188 : decode cL_law 1188 = .ok (.aload_n 0, 1) := by decide +kernel
theorem dL_1189 : decode cL_law 1189 = .ok (.iload 4, 2) := by decide +kernel
theorem dL_1191 : decode cL_law 1191 = .ok (.iconst 1, 1) := by decide +kernel
theorem dL_1192 : decode cL_law 1192 = .ok (.iadd, 1) := by decide +kernel
theorem dL_1193 : decode cL_law 1193 = .ok (.iaload, 1) := by decide +kernel
theorem dL_1194 : decode cL_law 1194 = .ok (.aload_n 0, 1) := by decide +kernel
theorem dL_1195 : decode cL_law 1195 = .ok (.iload 4, 2) := by decide +kernel
theorem dL_1197 : decode cL_law 1197 = .ok (.iconst 2, 1) := by decide +kernel
theorem dL_1198 : decode cL_law 1198 = .ok (.iadd, 1) := by decide +kernel
theorem dL_1199 : decode cL_law 1199 = .ok (.iaload, 1) := by decide +kernel
theorem dL_1200 : decode cL_law 1200 = .ok (.aload_n 0, 1) := by decide +kernel
theorem dL_1201 : decode cL_law 1201 = .ok (.iload 4, 2) := by decide +kernel
theorem dL_1203 : decode cL_law 1203 = .ok (.iconst 3, 1) := by decide +kernel
theorem dL_1204 : decode cL_law 1204 = .ok (.iadd, 1) := by decide +kernel
theorem dL_1205 : decode cL_law 1205 = .ok (.iaload, 1) := by decide +kernel
theorem dL_1206 : decode cL_law 1206 = .ok (.ifCond .eq 7, 3) := by decide +kernel
theorem dL_1209 : decode cL_law 1209 = .ok (.iconst 1, 1) := by decide +kernel
theorem dL_1210 : decode cL_law 1210 = .ok (.goto 4, 3) := by decide +kernel
theorem dL_1213 : decode cL_law 1213 = .ok (.iconst 0, 1) := by decide +kernel
theorem dL_1214 : decode cL_law 1214 = .ok (.aload_n 0, 1) := by decide +kernel
theorem dL_1215 : decode cL_law 1215 = .ok (.iload 4, 2) := by decide +kernel
theorem dL_1217 : decode cL_law 1217 = .ok (.iconst 4, 1) := by decide +kernel
theorem dL_1218 : decode cL_law 1218 = .ok (.iadd, 1) := by decide +kernel
theorem dL_1219 : decode cL_law 1219 = .ok (.iaload, 1) := by decide +kernel
theorem dL_1220 : decode cL_law 1220 = .ok (.invokevirtual 129, 3) := by decide +kernel
theorem dL_1223 : decode cL_law 1223 = .ok (.aload_n 2, 1) := by decide +kernel
theorem dL_1224 : decode cL_law 1224 = .ok (.aload_n 0, 1) := by decide +kernel
theorem dL_1225 : decode cL_law 1225 = .ok (.iload 4, 2) := by decide +kernel
theorem dL_1227 : decode cL_law 1227 = .ok (.iconst 1, 1) := by decide +kernel
theorem dL_1228 : decode cL_law 1228 = .ok (.iadd, 1) := by decide +kernel
theorem dL_1229 : decode cL_law 1229 = .ok (.iaload, 1) := by decide +kernel
theorem dL_1230 : decode cL_law 1230 = .ok (.aload_n 0, 1) := by decide +kernel
theorem dL_1231 : decode cL_law 1231 = .ok (.iload 4, 2) := by decide +kernel
theorem dL_1233 : decode cL_law 1233 = .ok (.iconst 2, 1) := by decide +kernel
theorem dL_1234 : decode cL_law 1234 = .ok (.iadd, 1) := by decide +kernel
theorem dL_1235 : decode cL_law 1235 = .ok (.iaload, 1) := by decide +kernel
theorem dL_1236 : decode cL_law 1236 = .ok (.aload_n 0, 1) := by decide +kernel
theorem dL_1237 : decode cL_law 1237 = .ok (.iload 4, 2) := by decide +kernel
theorem dL_1239 : decode cL_law 1239 = .ok (.iconst 3, 1) := by decide +kernel
theorem dL_1240 : decode cL_law 1240 = .ok (.iadd, 1) := by decide +kernel
theorem dL_1241 : decode cL_law 1241 = .ok (.iaload, 1) := by decide +kernel
theorem dL_1242 : decode cL_law 1242 = .ok (.ifCond .eq 7, 3) := by decide +kernel
theorem dL_1245 : decode cL_law 1245 = .ok (.iconst 1, 1) := by decide +kernel
theorem dL_1246 : decode cL_law 1246 = .ok (.goto 4, 3) := by decide +kernel
theorem dL_1249 : decode cL_law 1249 = .ok (.iconst 0, 1) := by decide +kernel
theorem dL_1250 : decode cL_law 1250 = .ok (.aload_n 0, 1) := by decide +kernel
theorem dL_1251 : decode cL_law 1251 = .ok (.iload 4, 2) := by decide +kernel
theorem dL_1253 : decode cL_law 1253 = .ok (.iconst 4, 1) := by decide +kernel
theorem dL_1254 : decode cL_law 1254 = .ok (.iadd, 1) := by decide +kernel
theorem dL_1255 : decode cL_law 1255 = .ok (.iaload, 1) := by decide +kernel
theorem dL_1256 : decode cL_law 1256 = .ok (.invokevirtual 133, 3) := by decide +kernel
theorem dL_1259 : decode cL_law 1259 = .ok (.if_icmp .eq 365, 3) := by decide +kernel
theorem dL_1262 : decode cL_law 1262 = .ok (.iconst 0, 1) := by decide +kernel
theorem dL_1263 : decode cL_law 1263 = .ok (.ireturn, 1) := by decide +kernel
theorem dL_1264 : decode cL_law 1264 = .ok (.aload_n 1, 1) := by decide +kernel
theorem dL_1265 : decode cL_law 1265 = .ok (.aload_n 0, 1) := by decide +kernel
theorem dL_1266 : decode cL_law 1266 = .ok (.iload 4, 2) := by decide +kernel
theorem dL_1268 : decode cL_law 1268 = .ok (.iconst 1, 1) := by decide +kernel
theorem dL_1269 : decode cL_law 1269 = .ok (.iadd, 1) := by decide +kernel
theorem dL_1270 : decode cL_law 1270 = .ok (.iaload, 1) := by decide +kernel
theorem dL_1271 : decode cL_law 1271 = .ok (.invokevirtual 134, 3) := by decide +kernel
theorem dL_1274 : decode cL_law 1274 = .ok (.aload_n 2, 1) := by decide +kernel
theorem dL_1275 : decode cL_law 1275 = .ok (.aload_n 0, 1) := by decide +kernel
theorem dL_1276 : decode cL_law 1276 = .ok (.iload 4, 2) := by decide +kernel
theorem dL_1278 : decode cL_law 1278 = .ok (.iconst 1, 1) := by decide +kernel
theorem dL_1279 : decode cL_law 1279 = .ok (.iadd, 1) := by decide +kernel
theorem dL_1280 : decode cL_law 1280 = .ok (.iaload, 1) := by decide +kernel
theorem dL_1281 : decode cL_law 1281 = .ok (.invokevirtual 137, 3) := by decide +kernel
theorem dL_1284 : decode cL_law 1284 = .ok (.if_icmp .eq 340, 3) := by decide +kernel
theorem dL_1287 : decode cL_law 1287 = .ok (.iconst 0, 1) := by decide +kernel
theorem dL_1288 : decode cL_law 1288 = .ok (.ireturn, 1) := by decide +kernel
theorem dL_1289 : decode cL_law 1289 = .ok (.aload_n 1, 1) := by decide +kernel
theorem dL_1290 : decode cL_law 1290 = .ok (.aload_n 0, 1) := by decide +kernel
theorem dL_1291 : decode cL_law 1291 = .ok (.iload 4, 2) := by decide +kernel
theorem dL_1293 : decode cL_law 1293 = .ok (.iconst 1, 1) := by decide +kernel
theorem dL_1294 : decode cL_law 1294 = .ok (.iadd, 1) := by decide +kernel
theorem dL_1295 : decode cL_law 1295 = .ok (.iaload, 1) := by decide +kernel
theorem dL_1296 : decode cL_law 1296 = .ok (.invokevirtual 138, 3) := by decide +kernel
theorem dL_1299 : decode cL_law 1299 = .ok (.aload_n 2, 1) := by decide +kernel
theorem dL_1300 : decode cL_law 1300 = .ok (.aload_n 0, 1) := by decide +kernel
theorem dL_1301 : decode cL_law 1301 = .ok (.iload 4, 2) := by decide +kernel
theorem dL_1303 : decode cL_law 1303 = .ok (.iconst 1, 1) := by decide +kernel
theorem dL_1304 : decode cL_law 1304 = .ok (.iadd, 1) := by decide +kernel
theorem dL_1305 : decode cL_law 1305 = .ok (.iaload, 1) := by decide +kernel
theorem dL_1306 : decode cL_law 1306 = .ok (.invokevirtual 141, 3) := by decide +kernel
theorem dL_1309 : decode cL_law 1309 = .ok (.if_icmp .eq 315, 3) := by decide +kernel
theorem dL_1312 : decode cL_law 1312 = .ok (.iconst 0, 1) := by decide +kernel
theorem dL_1313 : decode cL_law 1313 = .ok (.ireturn, 1) := by decide +kernel
theorem dL_1314 : decode cL_law 1314 = .ok (.aload_n 1, 1) := by decide +kernel
theorem dL_1315 : decode cL_law 1315 = .ok (.aload_n 0, 1) := by decide +kernel
theorem dL_1316 : decode cL_law 1316 = .ok (.iload 4, 2) := by decide +kernel
theorem dL_1318 : decode cL_law 1318 = .ok (.iconst 1, 1) := by decide +kernel
theorem dL_1319 : decode cL_law 1319 = .ok (.iadd, 1) := by decide +kernel
theorem dL_1320 : decode cL_law 1320 = .ok (.iaload, 1) := by decide +kernel
theorem dL_1321 : decode cL_law 1321 = .ok (.aload_n 0, 1) := by decide +kernel
theorem dL_1322 : decode cL_law 1322 = .ok (.iload 4, 2) := by decide +kernel
theorem dL_1324 : decode cL_law 1324 = .ok (.iconst 2, 1) := by decide +kernel
theorem dL_1325 : decode cL_law 1325 = .ok (.iadd, 1) := by decide +kernel
theorem dL_1326 : decode cL_law 1326 = .ok (.iaload, 1) := by decide +kernel
theorem dL_1327 : decode cL_law 1327 = .ok (.invokevirtual 142, 3) := by decide +kernel
theorem dL_1330 : decode cL_law 1330 = .ok (.aload_n 2, 1) := by decide +kernel
theorem dL_1331 : decode cL_law 1331 = .ok (.aload_n 0, 1) := by decide +kernel
theorem dL_1332 : decode cL_law 1332 = .ok (.iload 4, 2) := by decide +kernel
theorem dL_1334 : decode cL_law 1334 = .ok (.iconst 1, 1) := by decide +kernel
theorem dL_1335 : decode cL_law 1335 = .ok (.iadd, 1) := by decide +kernel
theorem dL_1336 : decode cL_law 1336 = .ok (.iaload, 1) := by decide +kernel
theorem dL_1337 : decode cL_law 1337 = .ok (.aload_n 0, 1) := by decide +kernel
theorem dL_1338 : decode cL_law 1338 = .ok (.iload 4, 2) := by decide +kernel
theorem dL_1340 : decode cL_law 1340 = .ok (.iconst 2, 1) := by decide +kernel
theorem dL_1341 : decode cL_law 1341 = .ok (.iadd, 1) := by decide +kernel
theorem dL_1342 : decode cL_law 1342 = .ok (.iaload, 1) := by decide +kernel
theorem dL_1343 : decode cL_law 1343 = .ok (.invokevirtual 146, 3) := by decide +kernel
theorem dL_1346 : decode cL_law 1346 = .ok (.lcmp, 1) := by decide +kernel
theorem dL_1347 : decode cL_law 1347 = .ok (.ifCond .eq 277, 3) := by decide +kernel
theorem dL_1350 : decode cL_law 1350 = .ok (.iconst 0, 1) := by decide +kernel
theorem dL_1351 : decode cL_law 1351 = .ok (.ireturn, 1) := by decide +kernel
theorem dL_1352 : decode cL_law 1352 = .ok (.aload_n 1, 1) := by decide +kernel
theorem dL_1353 : decode cL_law 1353 = .ok (.aload_n 0, 1) := by decide +kernel
theorem dL_1354 : decode cL_law 1354 = .ok (.iload 4, 2) := by decide +kernel
theorem dL_1356 : decode cL_law 1356 = .ok (.iconst 1, 1) := by decide +kernel
theorem dL_1357 : decode cL_law 1357 = .ok (.iadd, 1) := by decide +kernel
theorem dL_1358 : decode cL_law 1358 = .ok (.iaload, 1) := by decide +kernel
theorem dL_1359 : decode cL_law 1359 = .ok (.aload_n 0, 1) := by decide +kernel
theorem dL_1360 : decode cL_law 1360 = .ok (.iload 4, 2) := by decide +kernel
theorem dL_1362 : decode cL_law 1362 = .ok (.iconst 2, 1) := by decide +kernel
theorem dL_1363 : decode cL_law 1363 = .ok (.iadd, 1) := by decide +kernel
theorem dL_1364 : decode cL_law 1364 = .ok (.iaload, 1) := by decide +kernel
theorem dL_1365 : decode cL_law 1365 = .ok (.aload_n 0, 1) := by decide +kernel
theorem dL_1366 : decode cL_law 1366 = .ok (.iload 4, 2) := by decide +kernel
theorem dL_1368 : decode cL_law 1368 = .ok (.iconst 3, 1) := by decide +kernel
theorem dL_1369 : decode cL_law 1369 = .ok (.iadd, 1) := by decide +kernel
theorem dL_1370 : decode cL_law 1370 = .ok (.iaload, 1) := by decide +kernel
theorem dL_1371 : decode cL_law 1371 = .ok (.aload_n 0, 1) := by decide +kernel
theorem dL_1372 : decode cL_law 1372 = .ok (.iload 4, 2) := by decide +kernel
theorem dL_1374 : decode cL_law 1374 = .ok (.iconst 4, 1) := by decide +kernel
theorem dL_1375 : decode cL_law 1375 = .ok (.iadd, 1) := by decide +kernel
theorem dL_1376 : decode cL_law 1376 = .ok (.iaload, 1) := by decide +kernel
theorem dL_1377 : decode cL_law 1377 = .ok (.invokevirtual 147, 3) := by decide +kernel
theorem dL_1380 : decode cL_law 1380 = .ok (.aload_n 2, 1) := by decide +kernel
theorem dL_1381 : decode cL_law 1381 = .ok (.aload_n 0, 1) := by decide +kernel
theorem dL_1382 : decode cL_law 1382 = .ok (.iload 4, 2) := by decide +kernel
theorem dL_1384 : decode cL_law 1384 = .ok (.iconst 1, 1) := by decide +kernel
theorem dL_1385 : decode cL_law 1385 = .ok (.iadd, 1) := by decide +kernel
theorem dL_1386 : decode cL_law 1386 = .ok (.iaload, 1) := by decide +kernel
theorem dL_1387 : decode cL_law 1387 = .ok (.aload_n 0, 1) := by decide +kernel
theorem dL_1388 : decode cL_law 1388 = .ok (.iload 4, 2) := by decide +kernel
theorem dL_1390 : decode cL_law 1390 = .ok (.iconst 2, 1) := by decide +kernel
theorem dL_1391 : decode cL_law 1391 = .ok (.iadd, 1) := by decide +kernel
theorem dL_1392 : decode cL_law 1392 = .ok (.iaload, 1) := by decide +kernel
theorem dL_1393 : decode cL_law 1393 = .ok (.aload_n 0, 1) := by decide +kernel
theorem dL_1394 : decode cL_law 1394 = .ok (.iload 4, 2) := by decide +kernel
theorem dL_1396 : decode cL_law 1396 = .ok (.iconst 3, 1) := by decide +kernel
theorem dL_1397 : decode cL_law 1397 = .ok (.iadd, 1) := by decide +kernel
theorem dL_1398 : decode cL_law 1398 = .ok (.iaload, 1) := by decide +kernel
theorem dL_1399 : decode cL_law 1399 = .ok (.aload_n 0, 1) := by decide +kernel
theorem dL_1400 : decode cL_law 1400 = .ok (.iload 4, 2) := by decide +kernel
theorem dL_1402 : decode cL_law 1402 = .ok (.iconst 4, 1) := by decide +kernel
theorem dL_1403 : decode cL_law 1403 = .ok (.iadd, 1) := by decide +kernel
theorem dL_1404 : decode cL_law 1404 = .ok (.iaload, 1) := by decide +kernel
theorem dL_1405 : decode cL_law 1405 = .ok (.invokevirtual 151, 3) := by decide +kernel
theorem dL_1408 : decode cL_law 1408 = .ok (.lcmp, 1) := by decide +kernel
theorem dL_1409 : decode cL_law 1409 = .ok (.ifCond .eq 215, 3) := by decide +kernel
theorem dL_1412 : decode cL_law 1412 = .ok (.iconst 0, 1) := by decide +kernel
theorem dL_1413 : decode cL_law 1413 = .ok (.ireturn, 1) := by decide +kernel
theorem dL_1414 : decode cL_law 1414 = .ok (.aload_n 1, 1) := by decide +kernel
theorem dL_1415 : decode cL_law 1415 = .ok (.aload_n 0, 1) := by decide +kernel
theorem dL_1416 : decode cL_law 1416 = .ok (.iload 4, 2) := by decide +kernel
theorem dL_1418 : decode cL_law 1418 = .ok (.iconst 1, 1) := by decide +kernel
theorem dL_1419 : decode cL_law 1419 = .ok (.iadd, 1) := by decide +kernel
theorem dL_1420 : decode cL_law 1420 = .ok (.iaload, 1) := by decide +kernel
theorem dL_1421 : decode cL_law 1421 = .ok (.aload_n 0, 1) := by decide +kernel
theorem dL_1422 : decode cL_law 1422 = .ok (.iload 4, 2) := by decide +kernel
theorem dL_1424 : decode cL_law 1424 = .ok (.iconst 2, 1) := by decide +kernel
theorem dL_1425 : decode cL_law 1425 = .ok (.iadd, 1) := by decide +kernel
theorem dL_1426 : decode cL_law 1426 = .ok (.iaload, 1) := by decide +kernel
theorem dL_1427 : decode cL_law 1427 = .ok (.aload_n 0, 1) := by decide +kernel
theorem dL_1428 : decode cL_law 1428 = .ok (.iload 4, 2) := by decide +kernel
theorem dL_1430 : decode cL_law 1430 = .ok (.iconst 3, 1) := by decide +kernel
theorem dL_1431 : decode cL_law 1431 = .ok (.iadd, 1) := by decide +kernel
theorem dL_1432 : decode cL_law 1432 = .ok (.iaload, 1) := by decide +kernel
theorem dL_1433 : decode cL_law 1433 = .ok (.aload_n 0, 1) := by decide +kernel
theorem dL_1434 : decode cL_law 1434 = .ok (.iload 4, 2) := by decide +kernel
theorem dL_1436 : decode cL_law 1436 = .ok (.iconst 4, 1) := by decide +kernel
theorem dL_1437 : decode cL_law 1437 = .ok (.iadd, 1) := by decide +kernel
theorem dL_1438 : decode cL_law 1438 = .ok (.iaload, 1) := by decide +kernel
theorem dL_1439 : decode cL_law 1439 = .ok (.aload_n 0, 1) := by decide +kernel
theorem dL_1440 : decode cL_law 1440 = .ok (.iload 4, 2) := by decide +kernel
theorem dL_1442 : decode cL_law 1442 = .ok (.iconst 5, 1) := by decide +kernel
theorem dL_1443 : decode cL_law 1443 = .ok (.iadd, 1) := by decide +kernel
theorem dL_1444 : decode cL_law 1444 = .ok (.iaload, 1) := by decide +kernel
theorem dL_1445 : decode cL_law 1445 = .ok (.invokevirtual 152, 3) := by decide +kernel
theorem dL_1448 : decode cL_law 1448 = .ok (.aload_n 2, 1) := by decide +kernel
theorem dL_1449 : decode cL_law 1449 = .ok (.aload_n 0, 1) := by decide +kernel
theorem dL_1450 : decode cL_law 1450 = .ok (.iload 4, 2) := by decide +kernel
theorem dL_1452 : decode cL_law 1452 = .ok (.iconst 1, 1) := by decide +kernel
theorem dL_1453 : decode cL_law 1453 = .ok (.iadd, 1) := by decide +kernel
theorem dL_1454 : decode cL_law 1454 = .ok (.iaload, 1) := by decide +kernel
theorem dL_1455 : decode cL_law 1455 = .ok (.aload_n 0, 1) := by decide +kernel
theorem dL_1456 : decode cL_law 1456 = .ok (.iload 4, 2) := by decide +kernel
theorem dL_1458 : decode cL_law 1458 = .ok (.iconst 2, 1) := by decide +kernel
theorem dL_1459 : decode cL_law 1459 = .ok (.iadd, 1) := by decide +kernel
theorem dL_1460 : decode cL_law 1460 = .ok (.iaload, 1) := by decide +kernel
theorem dL_1461 : decode cL_law 1461 = .ok (.aload_n 0, 1) := by decide +kernel
theorem dL_1462 : decode cL_law 1462 = .ok (.iload 4, 2) := by decide +kernel
theorem dL_1464 : decode cL_law 1464 = .ok (.iconst 3, 1) := by decide +kernel
theorem dL_1465 : decode cL_law 1465 = .ok (.iadd, 1) := by decide +kernel
theorem dL_1466 : decode cL_law 1466 = .ok (.iaload, 1) := by decide +kernel
theorem dL_1467 : decode cL_law 1467 = .ok (.aload_n 0, 1) := by decide +kernel
theorem dL_1468 : decode cL_law 1468 = .ok (.iload 4, 2) := by decide +kernel
theorem dL_1470 : decode cL_law 1470 = .ok (.iconst 4, 1) := by decide +kernel
theorem dL_1471 : decode cL_law 1471 = .ok (.iadd, 1) := by decide +kernel
theorem dL_1472 : decode cL_law 1472 = .ok (.iaload, 1) := by decide +kernel
theorem dL_1473 : decode cL_law 1473 = .ok (.aload_n 0, 1) := by decide +kernel
theorem dL_1474 : decode cL_law 1474 = .ok (.iload 4, 2) := by decide +kernel
theorem dL_1476 : decode cL_law 1476 = .ok (.iconst 5, 1) := by decide +kernel
theorem dL_1477 : decode cL_law 1477 = .ok (.iadd, 1) := by decide +kernel
theorem dL_1478 : decode cL_law 1478 = .ok (.iaload, 1) := by decide +kernel
theorem dL_1479 : decode cL_law 1479 = .ok (.invokevirtual 156, 3) := by decide +kernel
theorem dL_1482 : decode cL_law 1482 = .ok (.if_icmp .eq 142, 3) := by decide +kernel
theorem dL_1485 : decode cL_law 1485 = .ok (.iconst 0, 1) := by decide +kernel
theorem dL_1486 : decode cL_law 1486 = .ok (.ireturn, 1) := by decide +kernel
theorem dL_1487 : decode cL_law 1487 = .ok (.aload_n 1, 1) := by decide +kernel
theorem dL_1488 : decode cL_law 1488 = .ok (.aload_n 0, 1) := by decide +kernel
theorem dL_1489 : decode cL_law 1489 = .ok (.iload 4, 2) := by decide +kernel
theorem dL_1491 : decode cL_law 1491 = .ok (.iconst 1, 1) := by decide +kernel
theorem dL_1492 : decode cL_law 1492 = .ok (.iadd, 1) := by decide +kernel
theorem dL_1493 : decode cL_law 1493 = .ok (.iaload, 1) := by decide +kernel
theorem dL_1494 : decode cL_law 1494 = .ok (.aload_n 0, 1) := by decide +kernel
theorem dL_1495 : decode cL_law 1495 = .ok (.iload 4, 2) := by decide +kernel
theorem dL_1497 : decode cL_law 1497 = .ok (.iconst 2, 1) := by decide +kernel
theorem dL_1498 : decode cL_law 1498 = .ok (.iadd, 1) := by decide +kernel
theorem dL_1499 : decode cL_law 1499 = .ok (.iaload, 1) := by decide +kernel
theorem dL_1500 : decode cL_law 1500 = .ok (.invokevirtual 157, 3) := by decide +kernel
theorem dL_1503 : decode cL_law 1503 = .ok (.aload_n 2, 1) := by decide +kernel
theorem dL_1504 : decode cL_law 1504 = .ok (.aload_n 0, 1) := by decide +kernel
theorem dL_1505 : decode cL_law 1505 = .ok (.iload 4, 2) := by decide +kernel
theorem dL_1507 : decode cL_law 1507 = .ok (.iconst 1, 1) := by decide +kernel
theorem dL_1508 : decode cL_law 1508 = .ok (.iadd, 1) := by decide +kernel
theorem dL_1509 : decode cL_law 1509 = .ok (.iaload, 1) := by decide +kernel
theorem dL_1510 : decode cL_law 1510 = .ok (.aload_n 0, 1) := by decide +kernel
theorem dL_1511 : decode cL_law 1511 = .ok (.iload 4, 2) := by decide +kernel
theorem dL_1513 : decode cL_law 1513 = .ok (.iconst 2, 1) := by decide +kernel
theorem dL_1514 : decode cL_law 1514 = .ok (.iadd, 1) := by decide +kernel
theorem dL_1515 : decode cL_law 1515 = .ok (.iaload, 1) := by decide +kernel
theorem dL_1516 : decode cL_law 1516 = .ok (.invokevirtual 160, 3) := by decide +kernel
theorem dL_1519 : decode cL_law 1519 = .ok (.if_icmp .eq 105, 3) := by decide +kernel
theorem dL_1522 : decode cL_law 1522 = .ok (.iconst 0, 1) := by decide +kernel
theorem dL_1523 : decode cL_law 1523 = .ok (.ireturn, 1) := by decide +kernel
theorem dL_1524 : decode cL_law 1524 = .ok (.aload_n 1, 1) := by decide +kernel
theorem dL_1525 : decode cL_law 1525 = .ok (.invokevirtual 161, 3) := by decide +kernel
theorem dL_1528 : decode cL_law 1528 = .ok (.aload_n 2, 1) := by decide +kernel
theorem dL_1529 : decode cL_law 1529 = .ok (.invokevirtual 164, 3) := by decide +kernel
theorem dL_1532 : decode cL_law 1532 = .ok (.if_icmp .eq 92, 3) := by decide +kernel
theorem dL_1535 : decode cL_law 1535 = .ok (.iconst 0, 1) := by decide +kernel
theorem dL_1536 : decode cL_law 1536 = .ok (.ireturn, 1) := by decide +kernel
theorem dL_1537 : decode cL_law 1537 = .ok (.aload_n 1, 1) := by decide +kernel
theorem dL_1538 : decode cL_law 1538 = .ok (.aload_n 0, 1) := by decide +kernel
theorem dL_1539 : decode cL_law 1539 = .ok (.iload 4, 2) := by decide +kernel
theorem dL_1541 : decode cL_law 1541 = .ok (.iconst 1, 1) := by decide +kernel
theorem dL_1542 : decode cL_law 1542 = .ok (.iadd, 1) := by decide +kernel
theorem dL_1543 : decode cL_law 1543 = .ok (.iaload, 1) := by decide +kernel
theorem dL_1544 : decode cL_law 1544 = .ok (.aload_n 0, 1) := by decide +kernel
theorem dL_1545 : decode cL_law 1545 = .ok (.iload 4, 2) := by decide +kernel
theorem dL_1547 : decode cL_law 1547 = .ok (.iconst 2, 1) := by decide +kernel
theorem dL_1548 : decode cL_law 1548 = .ok (.iadd, 1) := by decide +kernel
theorem dL_1549 : decode cL_law 1549 = .ok (.iaload, 1) := by decide +kernel
theorem dL_1550 : decode cL_law 1550 = .ok (.invokevirtual 165, 3) := by decide +kernel
theorem dL_1553 : decode cL_law 1553 = .ok (.aload_n 2, 1) := by decide +kernel
theorem dL_1554 : decode cL_law 1554 = .ok (.aload_n 0, 1) := by decide +kernel
theorem dL_1555 : decode cL_law 1555 = .ok (.iload 4, 2) := by decide +kernel
theorem dL_1557 : decode cL_law 1557 = .ok (.iconst 1, 1) := by decide +kernel
theorem dL_1558 : decode cL_law 1558 = .ok (.iadd, 1) := by decide +kernel
theorem dL_1559 : decode cL_law 1559 = .ok (.iaload, 1) := by decide +kernel
theorem dL_1560 : decode cL_law 1560 = .ok (.aload_n 0, 1) := by decide +kernel
theorem dL_1561 : decode cL_law 1561 = .ok (.iload 4, 2) := by decide +kernel
theorem dL_1563 : decode cL_law 1563 = .ok (.iconst 2, 1) := by decide +kernel
theorem dL_1564 : decode cL_law 1564 = .ok (.iadd, 1) := by decide +kernel
theorem dL_1565 : decode cL_law 1565 = .ok (.iaload, 1) := by decide +kernel
theorem dL_1566 : decode cL_law 1566 = .ok (.invokevirtual 168, 3) := by decide +kernel
theorem dL_1569 : decode cL_law 1569 = .ok (.if_icmp .eq 55, 3) := by decide +kernel
theorem dL_1572 : decode cL_law 1572 = .ok (.iconst 0, 1) := by decide +kernel
theorem dL_1573 : decode cL_law 1573 = .ok (.ireturn, 1) := by decide +kernel
theorem dL_1574 : decode cL_law 1574 = .ok (.aload_n 1, 1) := by decide +kernel
theorem dL_1575 : decode cL_law 1575 = .ok (.aload_n 0, 1) := by decide +kernel
theorem dL_1576 : decode cL_law 1576 = .ok (.iload 4, 2) := by decide +kernel
theorem dL_1578 : decode cL_law 1578 = .ok (.iconst 1, 1) := by decide +kernel
theorem dL_1579 : decode cL_law 1579 = .ok (.iadd, 1) := by decide +kernel
theorem dL_1580 : decode cL_law 1580 = .ok (.iaload, 1) := by decide +kernel
theorem dL_1581 : decode cL_law 1581 = .ok (.invokevirtual 169, 3) := by decide +kernel
theorem dL_1584 : decode cL_law 1584 = .ok (.aload_n 2, 1) := by decide +kernel
theorem dL_1585 : decode cL_law 1585 = .ok (.aload_n 0, 1) := by decide +kernel
theorem dL_1586 : decode cL_law 1586 = .ok (.iload 4, 2) := by decide +kernel
theorem dL_1588 : decode cL_law 1588 = .ok (.iconst 1, 1) := by decide +kernel
theorem dL_1589 : decode cL_law 1589 = .ok (.iadd, 1) := by decide +kernel
theorem dL_1590 : decode cL_law 1590 = .ok (.iaload, 1) := by decide +kernel
theorem dL_1591 : decode cL_law 1591 = .ok (.invokevirtual 172, 3) := by decide +kernel
theorem dL_1594 : decode cL_law 1594 = .ok (.if_icmp .eq 30, 3) := by decide +kernel
theorem dL_1597 : decode cL_law 1597 = .ok (.iconst 0, 1) := by decide +kernel
theorem dL_1598 : decode cL_law 1598 = .ok (.ireturn, 1) := by decide +kernel
theorem dL_1599 : decode cL_law 1599 = .ok (.aload_n 1, 1) := by decide +kernel
theorem dL_1600 : decode cL_law 1600 = .ok (.aload_n 0, 1) := by decide +kernel
theorem dL_1601 : decode cL_law 1601 = .ok (.iload 4, 2) := by decide +kernel
theorem dL_1603 : decode cL_law 1603 = .ok (.iconst 1, 1) := by decide +kernel
theorem dL_1604 : decode cL_law 1604 = .ok (.iadd, 1) := by decide +kernel
theorem dL_1605 : decode cL_law 1605 = .ok (.iaload, 1) := by decide +kernel
theorem dL_1606 : decode cL_law 1606 = .ok (.invokevirtual 173, 3) := by decide +kernel
theorem dL_1609 : decode cL_law 1609 = .ok (.aload_n 2, 1) := by decide +kernel
theorem dL_1610 : decode cL_law 1610 = .ok (.aload_n 0, 1) := by decide +kernel
theorem dL_1611 : decode cL_law 1611 = .ok (.iload 4, 2) := by decide +kernel
theorem dL_1613 : decode cL_law 1613 = .ok (.iconst 1, 1) := by decide +kernel
theorem dL_1614 : decode cL_law 1614 = .ok (.iadd, 1) := by decide +kernel
theorem dL_1615 : decode cL_law 1615 = .ok (.iaload, 1) := by decide +kernel
theorem dL_1616 : decode cL_law 1616 = .ok (.invokevirtual 176, 3) := by decide +kernel
theorem dL_1619 : decode cL_law 1619 = .ok (.if_icmp .eq 5, 3) := by decide +kernel
theorem dL_1622 : decode cL_law 1622 = .ok (.iconst 0, 1) := by decide +kernel
theorem dL_1623 : decode cL_law 1623 = .ok (.ireturn, 1) := by decide +kernel
theorem dL_1624 : decode cL_law 1624 = .ok (.iinc 4 7, 3) := by decide +kernel
theorem dL_1627 : decode cL_law 1627 = .ok (.goto (-1604), 3) := by decide +kernel
theorem dL_1630 : decode cL_law 1630 = .ok (.iconst 1, 1) := by decide +kernel
theorem dL_1631 : decode cL_law 1631 = .ok (.ireturn, 1) := by decide +kernel

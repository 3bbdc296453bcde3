set_option maxRecDepth 20000 in
theorem cl_L_8 : Cond.classLink RL 8 RX11 ∈ mm_T := mm_tbk mm_t1 22 rfl rfl
set_option maxRecDepth 20000 in
theorem cl_L_18 : Cond.classLink RL 18 RX12 ∈ mm_T := mm_tbk mm_t5 150 rfl rfl
set_option maxRecDepth 20000 in
theorem in_X11 : Cond.instantiable RX11 18 ∈ mm_T := mm_tbk mm_t1 23 rfl rfl
set_option maxRecDepth 20000 in
theorem in_X12 : Cond.instantiable RX12 77 ∈ mm_T := mm_tbk mm_t5 151 rfl rfl
set_option maxRecDepth 20000 in
theorem it_X11 : Cond.initialized RX11 ∈ mm_T := mm_tbk mm_t1 1 rfl rfl
set_option maxRecDepth 20000 in
theorem it_X12 : Cond.initialized RX12 ∈ mm_T := mm_tbk mm_t1 14 rfl rfl
set_option maxRecDepth 20000 in
theorem lk_L_17 : Cond.methodLink RL 17 yX11_init ∈ mm_T := mm_tbk mm_t1 24 rfl rfl
set_option maxRecDepth 20000 in
theorem lk_L_20 : Cond.methodLink RL 20 yX12_init ∈ mm_T := mm_tbk mm_t5 152 rfl rfl
def df_X11 : List Value := [.null, .null, .null, .null, .null, .null, .null, .null, .null, .null, .null, .null, .null, .null, .null, .int 0, .int 0, .int 0]
def df_X12 : List Value := [.int 0, .int 0, .int 0, .null, .null, .null, .null, .null, .null, .null, .null, .null, .null, .null, .null, .null, .null, .int 0, .null, .null, .null, .null, .int 0, .int 0, .long 0, .long 0, .null, .int 0, .int 0, .null, .null, .null, .null, .null, .int 0, .int 0, .int 0, .null, .null, .int 0, .null, .int 0, .int 0, .int 0, .null, .null, .null, .null, .null, .null, .null, .null, .null, .null, .null, .null, .null, .null, .null, .null, .int 0, .null, .int 0, .null, .null, .int 0, .int 0, .int 0, .null, .null, .int 0, .null, .null, .null, .null, .null, .null]
theorem df_X11_ok : ∀ j, j < 18 → defaultValue (tyX11 j) = vp_V df_X11 j
  | 0, _ => rfl
  | 1, _ => rfl
  | 2, _ => rfl
  | 3, _ => rfl
  | 4, _ => rfl
  | 5, _ => rfl
  | 6, _ => rfl
  | 7, _ => rfl
  | 8, _ => rfl
  | 9, _ => rfl
  | 10, _ => rfl
  | 11, _ => rfl
  | 12, _ => rfl
  | 13, _ => rfl
  | 14, _ => rfl
  | 15, _ => rfl
  | 16, _ => rfl
  | 17, _ => rfl
  | n + 18, h => absurd h (by omega)
theorem df_X12_ok : ∀ j, j < 77 → defaultValue (tyX12 j) = vp_V df_X12 j
  | 0, _ => rfl
  | 1, _ => rfl
  | 2, _ => rfl
  | 3, _ => rfl
  | 4, _ => rfl
  | 5, _ => rfl
  | 6, _ => rfl
  | 7, _ => rfl
  | 8, _ => rfl
  | 9, _ => rfl
  | 10, _ => rfl
  | 11, _ => rfl
  | 12, _ => rfl
  | 13, _ => rfl
  | 14, _ => rfl
  | 15, _ => rfl
  | 16, _ => rfl
  | 17, _ => rfl
  | 18, _ => rfl
  | 19, _ => rfl
  | 20, _ => rfl
  | 21, _ => rfl
  | 22, _ => rfl
  | 23, _ => rfl
  | 24, _ => rfl
  | 25, _ => rfl
  | 26, _ => rfl
  | 27, _ => rfl
  | 28, _ => rfl
  | 29, _ => rfl
  | 30, _ => rfl
  | 31, _ => rfl
  | 32, _ => rfl
  | 33, _ => rfl
  | 34, _ => rfl
  | 35, _ => rfl
  | 36, _ => rfl
  | 37, _ => rfl
  | 38, _ => rfl
  | 39, _ => rfl
  | 40, _ => rfl
  | 41, _ => rfl
  | 42, _ => rfl
  | 43, _ => rfl
  | 44, _ => rfl
  | 45, _ => rfl
  | 46, _ => rfl
  | 47, _ => rfl
  | 48, _ => rfl
  | 49, _ => rfl
  | 50, _ => rfl
  | 51, _ => rfl
  | 52, _ => rfl
  | 53, _ => rfl
  | 54, _ => rfl
  | 55, _ => rfl
  | 56, _ => rfl
  | 57, _ => rfl
  | 58, _ => rfl
  | 59, _ => rfl
  | 60, _ => rfl
  | 61, _ => rfl
  | 62, _ => rfl
  | 63, _ => rfl
  | 64, _ => rfl
  | 65, _ => rfl
  | 66, _ => rfl
  | 67, _ => rfl
  | 68, _ => rfl
  | 69, _ => rfl
  | 70, _ => rfl
  | 71, _ => rfl
  | 72, _ => rfl
  | 73, _ => rfl
  | 74, _ => rfl
  | 75, _ => rfl
  | 76, _ => rfl
  | n + 77, h => absurd h (by omega)
def ad_C (h0 q1 q2 q3 q4 q5 q6 q7 q8 q9 q10 q11 q12 q13 q14 q15 q16 q17 q18 q19 q20 q21 q22 q23 q24 q25 q26 q27 q28 q29 q30 q31 q32 q33 q34 q35 q36 q37 q38 q39 q40 q41 q42 q43 q44 q45 q46 q47 q48 q49 q50 q51 q52 q53 q54 q55 q56 q57 q58 q59 q60 q61 q62 q63 q64 q65 q66 q67 q68 q69 q70 q71 q72 q73 q74 : Nat) : Nat → Nat := fun k => ([h0, q1, q2, q11, q17, q25, q40, q45, q50, q51, q54, q62, q63, q64, q72, q73, q74, q31, q32, q33, q34, q35, q36, q37, q38, q39, q3, q4, q5, q6, q7, q8, q9, q10, q12, q13, q14, q15, q16, q18, q19, q20, q21, q22, q23, q24, q26, q27, q28, q29, q30, q41, q42, q43, q44, q46, q47, q48, q49, q52, q53, q55, q56, q57, q58, q59, q60, q61, q65, q66, q67, q68, q69, q70, q71] : List Nat).getD k 0
def ad_R (h0 q1 q2 q3 q4 q5 q6 q7 q8 q9 q10 q11 q12 q13 q14 q15 q16 q17 q18 q19 q20 q21 q22 q23 q24 q25 q26 q27 q28 q29 q30 q31 q32 q33 q34 q35 q36 q37 q38 q39 q40 q41 q42 q43 q44 q45 q46 q47 q48 q49 q50 q51 q52 q53 q54 : Nat) : Nat → Nat := fun k => ([h0, q1, q2, q3, q4, q5, q6, q7, q8, q9, q10, q11, q12, q13, q14, q15, q16, q17, q18, q19, q20, q21, q22, q23, q24, q25, q26, q27, q28, q29, q30, q31, q32, q33, q34, q35, q36, q37, q38, q39, q40, q41, q42, q43, q44, q45, q46, q47, q48, q49, q50, q51, q52, q53, q54] : List Nat).getD k 0
/-- the memories at the start -/
def M0C : mm_M := (fun o i => match o with
  | 0 => if i = 17 then 300 else 0
  | 9 => if i = 5 then -1 else 0
  | 15 => cs_20 i
  | _ => 0, fun o i => match o with
  | 8 => if i = 1 then 1 else 0
  | 12 => if i = 1 then 1 else 0
  | _ => 0)
def M0R : mm_M := (fun o i => match o with
  | 0 => if i = 60 then 300 else 0
  | 54 => upd (upd (upd (upd (upd (fun _ => 0) 0 20) 1 20) 2 20) 3 20) 4 20 i
  | _ => 0, fun _ _ => 0)
def w0_C (cA : Nat → ClassId) (h0 q1 q2 q3 q4 q5 q6 q7 q8 q9 q10 q11 q12 q13 q14 q15 q16 q17 q18 q19 q20 q21 q22 q23 q24 q25 q26 q27 q28 q29 q30 q31 q32 q33 q34 q35 q36 q37 q38 q39 q40 q41 q42 q43 q44 q45 q46 q47 q48 q49 q50 q51 q52 q53 q54 q55 q56 q57 q58 q59 q60 q61 q62 q63 q64 q65 q66 q67 q68 q69 q70 q71 q72 q73 q74 : Nat) : va_W := [(h0, .inr (11, [.ref q1, .ref q2, .ref q11, .ref q17, .ref q25, .ref q40, .ref q45, .ref q50, .ref q51, .ref q54, .ref q62, .ref q64, .ref q72, .ref q73, .ref q74, .int (0 : Int32), .int (0 : Int32), .int (300 : Int32)])), (q1, .inr (10, [.ref q2, .ref q11, .ref q17, .ref q25, .ref q31, .ref q32, .ref q33, .ref q34, .ref q35, .ref q36, .ref q37, .ref q38, .ref q39])), (q2, .inr (6, [.ref q3, .ref q4, .ref q5, .ref q6, .ref q7, .ref q8, .ref q9, .ref q10, .int (0 : Int32)])), (q3, .inl (cA 0, 40, .inl (fun _ => 0))), (q4, .inl (cA 0, 40, .inl (fun _ => 0))), (q5, .inl (cA 0, 40, .inl (fun _ => 0))), (q6, .inl (cA 0, 40, .inl (fun _ => 0))), (q7, .inl (cA 0, 40, .inl (fun _ => 0))), (q8, .inl (cA 1, 40, .inl (fun _ => 0))), (q9, .inl (cA 0, 40, .inl (fun _ => 0))), (q10, .inl (cA 0, 240, .inl (fun _ => 0))), (q11, .inr (0, [.ref q12, .ref q13, .ref q14, .ref q15, .ref q16])), (q12, .inl (cA 1, 8, .inl (fun _ => 0))), (q13, .inl (cA 0, 8, .inl (fun _ => 0))), (q14, .inl (cA 0, 8, .inl (fun _ => 0))), (q15, .inl (cA 0, 96, .inl (fun _ => 0))), (q16, .inl (cA 1, 320, .inl (fun _ => 0))), (q17, .inr (9, [.ref q18, .ref q19, .ref q20, .ref q21, .ref q22, .ref q23, .ref q24, .int (0 : Int32)])), (q18, .inl (cA 0, 100, .inl (fun _ => 0))), (q19, .inl (cA 0, 100, .inl (fun _ => 0))), (q20, .inl (cA 0, 100, .inl (fun _ => 0))), (q21, .inl (cA 0, 100, .inl (fun _ => 0))), (q22, .inl (cA 0, 100, .inl (fun _ => 0))), (q23, .inl (cA 0, 100, .inl (fun _ => 0))), (q24, .inl (cA 0, 100, .inl (fun _ => 0))), (q25, .inr (5, [.ref q26, .ref q27, .ref q28, .ref q29, .ref q30, .int (0 : Int32)])), (q26, .inl (cA 0, 20, .inl (fun _ => 0))), (q27, .inl (cA 0, 20, .inl (fun _ => 0))), (q28, .inl (cA 0, 20, .inl (fun _ => 0))), (q29, .inl (cA 0, 1600, .inl (fun _ => 0))), (q30, .inl (cA 0, 80, .inl (fun _ => 0))), (q31, .inl (cA 1, 100, .inl (fun _ => 0))), (q32, .inl (cA 0, 100, .inl (fun _ => 0))), (q33, .inl (cA 0, 26, .inl (fun _ => 0))), (q34, .inl (cA 0, 320, .inl (fun _ => 0))), (q35, .inl (cA 0, 240, .inl (fun _ => 0))), (q36, .inl (cA 0, 240, .inl (fun _ => 0))), (q37, .inl (cA 0, 240, .inl (fun _ => 0))), (q38, .inl (cA 0, 240, .inl (fun _ => 0))), (q39, .inl (cA 0, 240, .inl (fun _ => 0))), (q40, .inr (2, [.ref q41, .ref q42, .ref q43, .ref q44, .int (0 : Int32), .int (0 : Int32), .int (0 : Int32)])), (q41, .inl (cA 1, 40, .inl (fun _ => 0))), (q42, .inl (cA 1, 40, .inl (fun _ => 0))), (q43, .inl (cA 1, 40, .inl (fun _ => 0))), (q44, .inl (cA 0, 40, .inl (fun _ => 0))), (q45, .inr (2, [.ref q46, .ref q47, .ref q48, .ref q49, .int (0 : Int32), .int (0 : Int32), .int (0 : Int32)])), (q46, .inl (cA 1, 40, .inl (fun _ => 0))), (q47, .inl (cA 1, 40, .inl (fun _ => 0))), (q48, .inl (cA 1, 40, .inl (fun _ => 0))), (q49, .inl (cA 0, 40, .inl (fun _ => 0))), (q50, .inr (3, [.long (0 : Int64), .long (1 : Int64)])), (q51, .inr (8, [.ref q52, .ref q53, .int (0 : Int32), .int (0 : Int32), .int (0 : Int32), .int (-1 : Int32)])), (q52, .inl (cA 0, 80, .inl (fun _ => 0))), (q53, .inl (cA 0, 80, .inl (fun _ => 0))), (q54, .inr (4, [.ref q55, .ref q56, .ref q57, .ref q58, .ref q59, .ref q60, .ref q61, .int (0 : Int32), .int (0 : Int32), .int (0 : Int32), .int (0 : Int32), .int (0 : Int32)])), (q55, .inl (cA 0, 8, .inl (fun _ => 0))), (q56, .inl (cA 0, 9, .inl (fun _ => 0))), (q57, .inl (cA 0, 9, .inl (fun _ => 0))), (q58, .inl (cA 0, 2048, .inl (fun _ => 0))), (q59, .inl (cA 0, 256, .inl (fun _ => 0))), (q60, .inl (cA 1, 8, .inl (fun _ => 0))), (q61, .inl (cA 1, 8, .inl (fun _ => 0))), (q62, .inr (7, [.ref q63, .int (0 : Int32), .int (0 : Int32), .int (0 : Int32), .int (0 : Int32)])), (q63, .inr (3, [.long (0 : Int64), .long (1 : Int64)])), (q64, .inr (1, [.ref q65, .ref q66, .ref q67, .ref q68, .ref q69, .ref q70, .ref q71, .int (0 : Int32)])), (q65, .inl (cA 0, 40, .inl (fun _ => 0))), (q66, .inl (cA 0, 40, .inl (fun _ => 0))), (q67, .inl (cA 0, 40, .inl (fun _ => 0))), (q68, .inl (cA 0, 40, .inl (fun _ => 0))), (q69, .inl (cA 0, 40, .inl (fun _ => 0))), (q70, .inl (cA 0, 10, .inl (fun _ => 0))), (q71, .inl (cA 0, 10, .inl (fun _ => 0))), (q72, .inl (cA 0, 6, .inl (fun _ => 0))), (q73, .inl (cA 0, 5, .inl (cs_20))), (q74, .inl (cA 1, 40, .inl (fun _ => 0)))]
def pl_C : List Nat := [0, 1, 2, 11, 17, 25, 40, 45, 50, 51, 54, 62, 63, 64, 72, 73, 74, 31, 32, 33, 34, 35, 36, 37, 38, 39, 3, 4, 5, 6, 7, 8, 9, 10, 12, 13, 14, 15, 16, 18, 19, 20, 21, 22, 23, 24, 26, 27, 28, 29, 30, 41, 42, 43, 44, 46, 47, 48, 49, 52, 53, 55, 56, 57, 58, 59, 60, 61, 65, 66, 67, 68, 69, 70, 71]
set_option maxRecDepth 100000 in
set_option maxHeartbeats 4000000 in
theorem w0_C_eq (cA : Nat → ClassId) (h0 q1 q2 q3 q4 q5 q6 q7 q8 q9 q10 q11 q12 q13 q14 q15 q16 q17 q18 q19 q20 q21 q22 q23 q24 q25 q26 q27 q28 q29 q30 q31 q32 q33 q34 q35 q36 q37 q38 q39 q40 q41 q42 q43 q44 q45 q46 q47 q48 q49 q50 q51 q52 q53 q54 q55 q56 q57 q58 q59 q60 q61 q62 q63 q64 q65 q66 q67 q68 q69 q70 q71 q72 q73 q74 : Nat) : pl_C.map (fun i => (w0_C cA h0 q1 q2 q3 q4 q5 q6 q7 q8 q9 q10 q11 q12 q13 q14 q15 q16 q17 q18 q19 q20 q21 q22 q23 q24 q25 q26 q27 q28 q29 q30 q31 q32 q33 q34 q35 q36 q37 q38 q39 q40 q41 q42 q43 q44 q45 q46 q47 q48 q49 q50 q51 q52 q53 q54 q55 q56 q57 q58 q59 q60 q61 q62 q63 q64 q65 q66 q67 q68 q69 q70 q71 q72 q73 q74)[i]?) = (mm_W sysC cA (ad_C h0 q1 q2 q3 q4 q5 q6 q7 q8 q9 q10 q11 q12 q13 q14 q15 q16 q17 q18 q19 q20 q21 q22 q23 q24 q25 q26 q27 q28 q29 q30 q31 q32 q33 q34 q35 q36 q37 q38 q39 q40 q41 q42 q43 q44 q45 q46 q47 q48 q49 q50 q51 q52 q53 q54 q55 q56 q57 q58 q59 q60 q61 q62 q63 q64 q65 q66 q67 q68 q69 q70 q71 q72 q73 q74) M0C).map some := by rfl
theorem pl_C_nd : va_nd pl_C = true := by decide +kernel
def w0_R (cA : Nat → ClassId) (h0 q1 q2 q3 q4 q5 q6 q7 q8 q9 q10 q11 q12 q13 q14 q15 q16 q17 q18 q19 q20 q21 q22 q23 q24 q25 q26 q27 q28 q29 q30 q31 q32 q33 q34 q35 q36 q37 q38 q39 q40 q41 q42 q43 q44 q45 q46 q47 q48 q49 q50 q51 q52 q53 q54 : Nat) : va_W := [(h0, .inr (12, [.int 0, .int 0, .int 0, .ref q1, .ref q2, .ref q3, .ref q4, .ref q5, .ref q6, .ref q7, .ref q8, .ref q9, .ref q10, .ref q11, .ref q12, .ref q13, .ref q14, .int 0, .ref q15, .ref q16, .ref q17, .ref q18, .int 0, .int 0, .long 0, .long 0, .ref q19, .int 0, .int 0, .ref q20, .ref q21, .ref q22, .ref q23, .ref q24, .int 0, .int 0, .int 0, .ref q25, .ref q26, .int 0, .ref q27, .int 0, .int 0, .int 0, .ref q28, .ref q29, .ref q30, .ref q31, .ref q32, .ref q33, .ref q34, .ref q35, .ref q36, .ref q37, .ref q38, .ref q39, .ref q40, .ref q41, .ref q42, .ref q43, .int (300 : Int32), .ref q44, .int 0, .ref q45, .ref q46, .int 0, .int 0, .int 0, .ref q47, .ref q48, .int 0, .ref q49, .ref q50, .ref q51, .ref q52, .ref q53, .ref q54])), (q1, .inl (cA 0, 40, .inl (fun _ => 0))), (q2, .inl (cA 0, 40, .inl (fun _ => 0))), (q3, .inl (cA 0, 40, .inl (fun _ => 0))), (q4, .inl (cA 0, 40, .inl (fun _ => 0))), (q5, .inl (cA 0, 40, .inl (fun _ => 0))), (q6, .inl (cA 1, 40, .inl (fun _ => 0))), (q7, .inl (cA 0, 40, .inl (fun _ => 0))), (q8, .inl (cA 0, 240, .inl (fun _ => 0))), (q9, .inl (cA 1, 8, .inl (fun _ => 0))), (q10, .inl (cA 0, 8, .inl (fun _ => 0))), (q11, .inl (cA 0, 8, .inl (fun _ => 0))), (q12, .inl (cA 0, 96, .inl (fun _ => 0))), (q13, .inl (cA 1, 320, .inl (fun _ => 0))), (q14, .inl (cA 0, 7, .inl (fun _ => 0))), (q15, .inl (cA 1, 40, .inl (fun _ => 0))), (q16, .inl (cA 0, 40, .inl (fun _ => 0))), (q17, .inl (cA 0, 40, .inl (fun _ => 0))), (q18, .inl (cA 1, 40, .inl (fun _ => 0))), (q19, .inl (cA 0, 80, .inl (fun _ => 0))), (q20, .inl (cA 0, 20, .inl (fun _ => 0))), (q21, .inl (cA 0, 20, .inl (fun _ => 0))), (q22, .inl (cA 0, 1600, .inl (fun _ => 0))), (q23, .inl (cA 0, 20, .inl (fun _ => 0))), (q24, .inl (cA 0, 80, .inl (fun _ => 0))), (q25, .inl (cA 0, 13, .inl (fun _ => 0))), (q26, .inl (cA 0, 100, .inl (fun _ => 0))), (q27, .inl (cA 1, 100, .inl (fun _ => 0))), (q28, .inl (cA 0, 100, .inl (fun _ => 0))), (q29, .inl (cA 0, 100, .inl (fun _ => 0))), (q30, .inl (cA 0, 100, .inl (fun _ => 0))), (q31, .inl (cA 0, 100, .inl (fun _ => 0))), (q32, .inl (cA 0, 100, .inl (fun _ => 0))), (q33, .inl (cA 0, 100, .inl (fun _ => 0))), (q34, .inl (cA 0, 100, .inl (fun _ => 0))), (q35, .inl (cA 1, 100, .inl (fun _ => 0))), (q36, .inl (cA 1, 100, .inl (fun _ => 0))), (q37, .inl (cA 0, 100, .inl (fun _ => 0))), (q38, .inl (cA 0, 1300, .inl (fun _ => 0))), (q39, .inl (cA 0, 240, .inl (fun _ => 0))), (q40, .inl (cA 0, 240, .inl (fun _ => 0))), (q41, .inl (cA 0, 240, .inl (fun _ => 0))), (q42, .inl (cA 0, 240, .inl (fun _ => 0))), (q43, .inl (cA 0, 240, .inl (fun _ => 0))), (q44, .inl (cA 0, 8, .inl (fun _ => 0))), (q45, .inl (cA 0, 2, .inl (fun _ => 0))), (q46, .inl (cA 0, 2304, .inl (fun _ => 0))), (q47, .inl (cA 1, 40, .inl (fun _ => 0))), (q48, .inl (cA 0, 4, .inl (fun _ => 0))), (q49, .inl (cA 0, 40, .inl (fun _ => 0))), (q50, .inl (cA 0, 40, .inl (fun _ => 0))), (q51, .inl (cA 0, 40, .inl (fun _ => 0))), (q52, .inl (cA 0, 40, .inl (fun _ => 0))), (q53, .inl (cA 0, 40, .inl (fun _ => 0))), (q54, .inl (cA 0, 5, .inl (upd (upd (upd (upd (upd (fun _ => 0) 0 (20 : Int32)) 1 (20 : Int32)) 2 (20 : Int32)) 3 (20 : Int32)) 4 (20 : Int32))))]
def pl_R : List Nat := [0, 1, 2, 3, 4, 5, 6, 7, 8, 9, 10, 11, 12, 13, 14, 15, 16, 17, 18, 19, 20, 21, 22, 23, 24, 25, 26, 27, 28, 29, 30, 31, 32, 33, 34, 35, 36, 37, 38, 39, 40, 41, 42, 43, 44, 45, 46, 47, 48, 49, 50, 51, 52, 53, 54]
set_option maxRecDepth 100000 in
set_option maxHeartbeats 4000000 in
theorem w0_R_eq (cA : Nat → ClassId) (h0 q1 q2 q3 q4 q5 q6 q7 q8 q9 q10 q11 q12 q13 q14 q15 q16 q17 q18 q19 q20 q21 q22 q23 q24 q25 q26 q27 q28 q29 q30 q31 q32 q33 q34 q35 q36 q37 q38 q39 q40 q41 q42 q43 q44 q45 q46 q47 q48 q49 q50 q51 q52 q53 q54 : Nat) : pl_R.map (fun i => (w0_R cA h0 q1 q2 q3 q4 q5 q6 q7 q8 q9 q10 q11 q12 q13 q14 q15 q16 q17 q18 q19 q20 q21 q22 q23 q24 q25 q26 q27 q28 q29 q30 q31 q32 q33 q34 q35 q36 q37 q38 q39 q40 q41 q42 q43 q44 q45 q46 q47 q48 q49 q50 q51 q52 q53 q54)[i]?) = (mm_W sysR cA (ad_R h0 q1 q2 q3 q4 q5 q6 q7 q8 q9 q10 q11 q12 q13 q14 q15 q16 q17 q18 q19 q20 q21 q22 q23 q24 q25 q26 q27 q28 q29 q30 q31 q32 q33 q34 q35 q36 q37 q38 q39 q40 q41 q42 q43 q44 q45 q46 q47 q48 q49 q50 q51 q52 q53 q54) M0R).map some := by rfl
theorem pl_R_nd : va_nd pl_R = true := by decide +kernel
set_option maxHeartbeats 4000000 in
theorem law_loop {Rel : mm_M → mm_M → Prop} {p : Program} {l : Launch} {e : Env} {s : State} {m : MethodId} {below : List Frame} {meth : Method} {c : Code} {b L : Nat} {xs : Nat → Int32} {D : va_G} {cA : Nat → ClassId} {adC adR : Nat → Nat} {qo sa1 sa2 : Nat} (hops : OpsOk Rel) (hL : L ≤ 3584) (C0 : LwC p l s m meth c b L xs D cA adC adR qo sa1 sa2) (n : Nat) : ∀ i, i ≤ L + 7 → L + 7 - i < n → LwA Rel p l e s m below meth c b D cA adC adR qo i (140 + i) (20000 + i) 23 := by
  obtain ⟨o0, o1, o2, o3, o4, o5, o6, o7, o8, o9, o10, o12, o13, o14, o15, o16, o17, o18, o19, o20, o21, o22, o23, o24, o25, o26, o27, o28, o29, o30, o31, o32, o33, o11⟩ := hops
  induction n with
  | zero => intro i _ h; omega
  | succ n ih =>
    intro i hiL hin
    obtain ⟨hx, hb, hml, hr, hlocks, hown, hts, hK, hN, hX, hbl, hiC, hiR, hCR, hCo, hRo, hAC, hAR, hAo, hxK, hNc, hxZ, hlt⟩ := id C0
    have hbA : ¬ (fun q : Nat => s.heap.size ≤ q) b := Nat.not_le.mpr hbl
    intro MC MR fo H locs ls hI
    obtain ⟨hR, hPC, hPR, hPo, hS, hl⟩ := hI
    refine lv_iload hx hb dL_23 (lv_at hl 4 rfl) ?_
    refine lv_aload_n hx hb dL_25 rfl (lv_at hl 0 rfl) ?_
    refine va_slen hx hb hX hbl hbA hS dL_26 ?_
    refine lv_bipush (v := 7) hx hb dL_27 (by decide) ?_
    refine lv_isub hx hb dL_29 ?_
    have hsub : (nI L - 7).toInt = (L : Int) - 7 := pk_sub_toInt (a := L) (b := 7) (by omega) (by omega)
    have hiI : (nI i).toInt = (i : Int) := nI_toInt (by omega)
    refine lv_icmp_gt (tgt := 1630) hx hb dL_30 (by decide) (fun _ => ?_) (fun hc => ?_)
    · refine lv_iconst (v := 1) hx hb dL_1630 (by decide) ?_
      refine va_forget (fun q hq => hS.2.2 q hq) ?_
      refine W.widen (k := 601024) (n := 7293034) (by omega) (by omega) ?_
      exact lw_ret hx hb hr hlocks dL_1631
    · have hi6 : i + 6 < L := by
        have hc' : ¬ (nI L - 7 < nI i) := hc
        rw [Int32.lt_iff_toInt_lt, hsub, hiI] at hc'
        omega
      have hnext : LwA Rel p l e s m below meth c b D cA adC adR qo i (140 + i + 7) (20000 + i + 7) 1624 := by
        intro MC MR fo H locs ls hI
        obtain ⟨hR, hPC, hPR, hPo, hS, hl⟩ := hI
        refine lv_iinc (v := nI (i + 7)) (lv' := [(4, .int (nI (i + 7))), (0, .ref b), (1, .ref (adC 0)), (2, .ref (adR 0)), (3, .ref qo)]) hx hb dL_1624 hl (k := 4) rfl (nI_add i 7) (by decide) rfl (fun ls hl => ?_)
        refine lv_goto (tgt := 23) hx hb dL_1627 (by decide) ?_
        exact ih (i + 7) (by omega) (by omega) MC MR fo H locs ls ⟨hR, hPC, hPR, hPo, hS, lv_sub hl [1, 2, 3, 4, 0] rfl⟩
      refine lv_aload_n hx hb dL_33 rfl (lv_at hl 0 rfl) ?_
      refine lv_iload hx hb dL_34 (lv_at hl 4 rfl) ?_
      refine va_sld hx hb hX hbl hbA hS (vp_in_nI (by omega) (by omega)) dL_36 ?_
      refine lv_bipush (v := 63) hx hb dL_37 (by decide) ?_
      refine lv_iand hx hb dL_39 ?_
      generalize xs (nI i).toNatClampNeg &&& 63 = x
      by_cases hrg : x.toInt < 0 ∨ 33 < x.toInt
      · exact lv_tableOut (tgt := 1624) hx hb dL_40 hrg (by decide) (W.widen (by omega) (by omega) (hnext MC MR fo H locs ls ⟨hR, hPC, hPR, hPo, hS, hl⟩))
      rcases (show x.toInt = 0 ∨ x.toInt = 1 ∨ x.toInt = 2 ∨ x.toInt = 3 ∨ x.toInt = 4 ∨ x.toInt = 5 ∨ x.toInt = 6 ∨ x.toInt = 7 ∨ x.toInt = 8 ∨ x.toInt = 9 ∨ x.toInt = 10 ∨ x.toInt = 11 ∨ x.toInt = 12 ∨ x.toInt = 13 ∨ x.toInt = 14 ∨ x.toInt = 15 ∨ x.toInt = 16 ∨ x.toInt = 17 ∨ x.toInt = 18 ∨ x.toInt = 19 ∨ x.toInt = 20 ∨ x.toInt = 21 ∨ x.toInt = 22 ∨ x.toInt = 23 ∨ x.toInt = 24 ∨ x.toInt = 25 ∨ x.toInt = 26 ∨ x.toInt = 27 ∨ x.toInt = 28 ∨ x.toInt = 29 ∨ x.toInt = 30 ∨ x.toInt = 31 ∨ x.toInt = 32 ∨ x.toInt = 33 by omega) with hv | hv | hv | hv | hv | hv | hv | hv | hv | hv | hv | hv | hv | hv | hv | hv | hv | hv | hv | hv | hv | hv | hv | hv | hv | hv | hv | hv | hv | hv | hv | hv | hv | hv
      · exact lv_tableIn (off := 152) (tgt := 192) hx hb dL_40 (by omega) (by omega) (by rw [hv]; rfl) (by decide) (law_0 o0 hL hi6 C0 hnext MC MR fo H locs ls ⟨hR, hPC, hPR, hPo, hS, hl⟩)
      · exact lv_tableIn (off := 177) (tgt := 217) hx hb dL_40 (by omega) (by omega) (by rw [hv]; rfl) (by decide) (law_1 o1 hL hi6 C0 hnext MC MR fo H locs ls ⟨hR, hPC, hPR, hPo, hS, hl⟩)
      · exact lv_tableIn (off := 238) (tgt := 278) hx hb dL_40 (by omega) (by omega) (by rw [hv]; rfl) (by decide) (law_2 o2 hL hi6 C0 hnext MC MR fo H locs ls ⟨hR, hPC, hPR, hPo, hS, hl⟩)
      · exact lv_tableIn (off := 275) (tgt := 315) hx hb dL_40 (by omega) (by omega) (by rw [hv]; rfl) (by decide) (law_3 o3 hL hi6 C0 hnext MC MR fo H locs ls ⟨hR, hPC, hPR, hPo, hS, hl⟩)
      · exact lv_tableIn (off := 328) (tgt := 368) hx hb dL_40 (by omega) (by omega) (by rw [hv]; rfl) (by decide) (law_4 o4 hL hi6 C0 hnext MC MR fo H locs ls ⟨hR, hPC, hPR, hPo, hS, hl⟩)
      · exact lv_tableIn (off := 353) (tgt := 393) hx hb dL_40 (by omega) (by omega) (by rw [hv]; rfl) (by decide) (law_5 o5 hL hi6 C0 hnext MC MR fo H locs ls ⟨hR, hPC, hPR, hPo, hS, hl⟩)
      · exact lv_tableIn (off := 390) (tgt := 430) hx hb dL_40 (by omega) (by omega) (by rw [hv]; rfl) (by decide) (law_6 o6 hL hi6 C0 hnext MC MR fo H locs ls ⟨hR, hPC, hPR, hPo, hS, hl⟩)
      · exact lv_tableIn (off := 427) (tgt := 467) hx hb dL_40 (by omega) (by omega) (by rw [hv]; rfl) (by decide) (law_7 o7 hL hi6 C0 hnext MC MR fo H locs ls ⟨hR, hPC, hPR, hPo, hS, hl⟩)
      · exact lv_tableIn (off := 464) (tgt := 504) hx hb dL_40 (by omega) (by omega) (by rw [hv]; rfl) (by decide) (law_8 o8 hL hi6 C0 hnext MC MR fo H locs ls ⟨hR, hPC, hPR, hPo, hS, hl⟩)
      · exact lv_tableIn (off := 529) (tgt := 569) hx hb dL_40 (by omega) (by omega) (by rw [hv]; rfl) (by decide) (law_9 o9 hL hi6 C0 hnext MC MR fo H locs ls ⟨hR, hPC, hPR, hPo, hS, hl⟩)
      · exact lv_tableIn (off := 566) (tgt := 606) hx hb dL_40 (by omega) (by omega) (by rw [hv]; rfl) (by decide) (law_10 o10 hL hi6 C0 hnext MC MR fo H locs ls ⟨hR, hPC, hPR, hPo, hS, hl⟩)
      · exact lv_tableIn (off := 603) (tgt := 643) hx hb dL_40 (by omega) (by omega) (by rw [hv]; rfl) (by decide) (law_11 o11 hL hi6 C0 hnext MC MR fo H locs ls ⟨hR, hPC, hPR, hPo, hS, hl⟩)
      · exact lv_tableIn (off := 658) (tgt := 698) hx hb dL_40 (by omega) (by omega) (by rw [hv]; rfl) (by decide) (law_12 o12 hL hi6 C0 hnext MC MR fo H locs ls ⟨hR, hPC, hPR, hPo, hS, hl⟩)
      · exact lv_tableIn (off := 727) (tgt := 767) hx hb dL_40 (by omega) (by omega) (by rw [hv]; rfl) (by decide) (law_13 o13 hL hi6 C0 hnext MC MR fo H locs ls ⟨hR, hPC, hPR, hPo, hS, hl⟩)
      · exact lv_tableIn (off := 764) (tgt := 804) hx hb dL_40 (by omega) (by omega) (by rw [hv]; rfl) (by decide) (law_14 o14 hL hi6 C0 hnext MC MR fo H locs ls ⟨hR, hPC, hPR, hPo, hS, hl⟩)
      · exact lv_tableIn (off := 801) (tgt := 841) hx hb dL_40 (by omega) (by omega) (by rw [hv]; rfl) (by decide) (law_15 o15 hL hi6 C0 hnext MC MR fo H locs ls ⟨hR, hPC, hPR, hPo, hS, hl⟩)
      · exact lv_tableIn (off := 888) (tgt := 928) hx hb dL_40 (by omega) (by omega) (by rw [hv]; rfl) (by decide) (law_16 o16 hL hi6 C0 hnext MC MR fo H locs ls ⟨hR, hPC, hPR, hPo, hS, hl⟩)
      · exact lv_tableIn (off := 913) (tgt := 953) hx hb dL_40 (by omega) (by omega) (by rw [hv]; rfl) (by decide) (law_17 o17 hL hi6 C0 hnext MC MR fo H locs ls ⟨hR, hPC, hPR, hPo, hS, hl⟩)
      · exact lv_tableIn (off := 962) (tgt := 1002) hx hb dL_40 (by omega) (by omega) (by rw [hv]; rfl) (by decide) (law_18 o18 hL hi6 C0 hnext MC MR fo H locs ls ⟨hR, hPC, hPR, hPo, hS, hl⟩)
      · exact lv_tableIn (off := 1011) (tgt := 1051) hx hb dL_40 (by omega) (by omega) (by rw [hv]; rfl) (by decide) (law_19 o19 hL hi6 C0 hnext MC MR fo H locs ls ⟨hR, hPC, hPR, hPo, hS, hl⟩)
      · exact lv_tableIn (off := 1060) (tgt := 1100) hx hb dL_40 (by omega) (by omega) (by rw [hv]; rfl) (by decide) (law_20 o20 hL hi6 C0 hnext MC MR fo H locs ls ⟨hR, hPC, hPR, hPo, hS, hl⟩)
      · exact lv_tableIn (off := 1073) (tgt := 1113) hx hb dL_40 (by omega) (by omega) (by rw [hv]; rfl) (by decide) (law_21 o21 hL hi6 C0 hnext MC MR fo H locs ls ⟨hR, hPC, hPR, hPo, hS, hl⟩)
      · exact lv_tableIn (off := 1098) (tgt := 1138) hx hb dL_40 (by omega) (by omega) (by rw [hv]; rfl) (by decide) (law_22 o22 hL hi6 C0 hnext MC MR fo H locs ls ⟨hR, hPC, hPR, hPo, hS, hl⟩)
      · exact lv_tableIn (off := 1147) (tgt := 1187) hx hb dL_40 (by omega) (by omega) (by rw [hv]; rfl) (by decide) (law_23 o23 hL hi6 C0 hnext MC MR fo H locs ls ⟨hR, hPC, hPR, hPo, hS, hl⟩)
      · exact lv_tableIn (off := 1224) (tgt := 1264) hx hb dL_40 (by omega) (by omega) (by rw [hv]; rfl) (by decide) (law_24 o24 hL hi6 C0 hnext MC MR fo H locs ls ⟨hR, hPC, hPR, hPo, hS, hl⟩)
      · exact lv_tableIn (off := 1249) (tgt := 1289) hx hb dL_40 (by omega) (by omega) (by rw [hv]; rfl) (by decide) (law_25 o25 hL hi6 C0 hnext MC MR fo H locs ls ⟨hR, hPC, hPR, hPo, hS, hl⟩)
      · exact lv_tableIn (off := 1274) (tgt := 1314) hx hb dL_40 (by omega) (by omega) (by rw [hv]; rfl) (by decide) (law_26 o26 hL hi6 C0 hnext MC MR fo H locs ls ⟨hR, hPC, hPR, hPo, hS, hl⟩)
      · exact lv_tableIn (off := 1312) (tgt := 1352) hx hb dL_40 (by omega) (by omega) (by rw [hv]; rfl) (by decide) (law_27 o27 hL hi6 C0 hnext MC MR fo H locs ls ⟨hR, hPC, hPR, hPo, hS, hl⟩)
      · exact lv_tableIn (off := 1374) (tgt := 1414) hx hb dL_40 (by omega) (by omega) (by rw [hv]; rfl) (by decide) (law_28 o28 hL hi6 C0 hnext MC MR fo H locs ls ⟨hR, hPC, hPR, hPo, hS, hl⟩)
      · exact lv_tableIn (off := 1447) (tgt := 1487) hx hb dL_40 (by omega) (by omega) (by rw [hv]; rfl) (by decide) (law_29 o29 hL hi6 C0 hnext MC MR fo H locs ls ⟨hR, hPC, hPR, hPo, hS, hl⟩)
      · exact lv_tableIn (off := 1484) (tgt := 1524) hx hb dL_40 (by omega) (by omega) (by rw [hv]; rfl) (by decide) (law_30 o30 hL hi6 C0 hnext MC MR fo H locs ls ⟨hR, hPC, hPR, hPo, hS, hl⟩)
      · exact lv_tableIn (off := 1497) (tgt := 1537) hx hb dL_40 (by omega) (by omega) (by rw [hv]; rfl) (by decide) (law_31 o31 hL hi6 C0 hnext MC MR fo H locs ls ⟨hR, hPC, hPR, hPo, hS, hl⟩)
      · exact lv_tableIn (off := 1534) (tgt := 1574) hx hb dL_40 (by omega) (by omega) (by rw [hv]; rfl) (by decide) (law_32 o32 hL hi6 C0 hnext MC MR fo H locs ls ⟨hR, hPC, hPR, hPo, hS, hl⟩)
      · exact lv_tableIn (off := 1559) (tgt := 1599) hx hb dL_40 (by omega) (by omega) (by rw [hv]; rfl) (by decide) (law_33 o33 hL hi6 C0 hnext MC MR fo H locs ls ⟨hR, hPC, hPR, hPo, hS, hl⟩)
section WKN
variable {p : Program} {l : Launch} {e : Env} {R : Room} {s : State} {m : MethodId} {args : Array Value} {below : List Frame} {meth : Method} {c : Code} {H : Heap} {locs : List Loc} {cells slots : Nat} {Q : State → Prop}
variable {cc : ByteArray} {own : String} {pc nL : Nat} {ls : Array Slot} {D : va_G} {cA : Nat → ClassId}
/-- 'new C()', stored or left on the stack: the world grows by what the constructor's contract says -/
theorem wk_make {Z : mm_Y} {d' mc' ms' ci ik ic N : Nat} {C : String} {T : u_T} {ty : Nat → FieldType} {fs : List Value} {Post : (Nat → ClassId) → Nat → va_W → Prop} {wr : va_W} {A : Nat → Prop}
    (hx : p.tables.exec = Jvm.exec) (hb : c.code = cc) (hml : c.maxLocals = nL) (hts : ∀ w ∈ mm_T, w.before args s = true) (hown : s.vm.findClass own = some m.cls) (hK : va_K D mm_cl (mm_tys cA) s) (hN : mm_nw s)
    (hcls : mm_cls ci C T N ty) (h1 : Cond.classLink own ik C ∈ mm_T) (h2 : Cond.instantiable C N ∈ mm_T) (h3 : Cond.initialized C ∈ mm_T) (hfs : ∀ j, j < N → defaultValue (ty j) = vp_V fs j)
    (hl : Cond.methodLink own ic Z.1 ∈ mm_T) (hz : mm_cz Z 0) (hz2 : Cond.instanceMethod Z.1 ∈ mm_T) (hz3 : Z.1.name = "<init>") (hz4 : Z.2.2.2 = none) (hfr : d' + 1 ≤ R.frames) (hlo : 64 + 64 * d' ≤ R.locals) (hkc : cells + 1 + mc' ≤ R.cells) (hks : slots + N + ms' ≤ R.slots)
    (hM : CtI Z d' mc' ms' ci fs Post) (hP : va_P D mm_cl wr H) (hD : va_D A wr) (hS : va_S A s.heap H locs) (hA : ∀ q, s.heap.size ≤ q → A q) (hsz : ls.size = nL)
    (d0 : decode cc pc = .ok (.new ik, 3)) (d3 : decode cc (pc + 3) = .ok (.dup, 1)) (d4 : decode cc (pc + 4) = .ok (.invokespecial ic, 3))
    (kk : ∀ (q : Nat) (w1 : va_W) (H1 : Heap) (locs1 : List Loc), Post cA q w1 → va_P D mm_cl (wr ++ w1) H1 → va_D A (wr ++ w1) → va_S A s.heap H1 locs1 → W p l e R s m args below meth c H1 locs1 (cells + 1 + mc') (slots + N + ms') Q (F0 m (pc + 7) ls [.ref q])) :
    W p l e R s m args below meth c H locs cells slots Q (F0 m pc ls []) := by
  refine va_new (ci := ci) (fs := fs) hx hb hts hcls.2.1 ty hcls.2.2.1 hown (hts _ h1) (hts _ h2) (hts _ h3) hK hP hD hS hA hcls.1 hfs (by omega) (by omega) d0 (fun q H hP hD hS => ?_)
  refine lv_dup hx hb d3 rfl ?_
  obtain ⟨hz1, hz22, hz33, hz44⟩ := hz
  have hPc : va_P D mm_cl [(q, .inr (ci, fs))] H := hP.sub [wr.length] (by simp)
  have hC : [wr.length].map (fun i => (wr ++ [(q, (.inr (ci, fs) : va_E))])[i]?) = [(q, (.inr (ci, fs) : va_E))].map some := by simp
  have hFc := va_free (wc := [(q, .inr (ci, fs))]) hD hS hA [wr.length] hC
  have cb : CallB R s args own ic Z.1 Z.2.1 Z.2.2.1 none (mm_ws Z) (cs_room d' mc' ms') mc' ms' 0 := by
    have := callB_of (R := R) (rm := cs_room d' mc' ms') (mc := mc') (ms := ms') (ret := Z.2.2.2) (bytes := Z.2.1) (maxL := Z.2.2.1) 0 hts (mm_goodIn hz22) rfl rfl rfl (hts _ hz1) (hts _ hl) hz33 ⟨hfr, by show 8 + (Z.2.2.1 + 11) + 64 * d' ≤ R.locals; omega⟩
    rw [hz4] at this
    exact this
  have run := va_runI (p := p) (l := l) (e := e) (R := R) (s := s) (m := m) (args := args) (below := below) (meth := meth) (c := c) (H := H) (locs := locs) (cells := cells + 1) (slots := slots + N) (g := F0 m (pc + 4) ls [.ref q, .ref q]) (rest := [.ref q]) (As := []) (b := q) (own := own) (Ts := mm_T) (cc := cc) (nL := nL)
    ⟨hx, hb, hml, hown, hts⟩ (hM l D cA q H.size) ⟨cb, hz3, hts _ hz2⟩
    ⟨fun a U g mk q => ⟨q.1, q.2.1, q.2.2.1, va_K.moved (u := U) (U := U.calling g mk a) (Vm.Alike.refl U.vm) q.2.2.2.1, va_Nw.same rfl rfl q.2.2.2.2⟩, fun U hU hW => ⟨rfl, by rw [hU], by rw [hU]; exact hPc, va_K.moved hW.alike hK, va_Nw.warmM hW hN⟩⟩
    rfl rfl hsz rfl (lv_room (Nat.le_of_ble_eq_true rfl)) d4 ⟨hkc, hks⟩
  intro T hT X
  obtain ⟨v, st₀, t, T', Lc, h0, X', hLc, e1, e2, ⟨hv, ⟨w1, hP1, hPt, hD1⟩, hF⟩, go⟩ := run T hT X
  cases hv
  have hF1 := hF.1
  have hF2 := hF.2
  rw [h0] at hF1 hF2
  rw [← e1] at hF1 hF2 hPt
  have hR : (List.range wr.length).map (fun i => (wr ++ [(q, (.inr (ci, fs) : va_E))])[i]?) = wr.map some := by
    apply List.ext_getElem?
    intro j
    by_cases hj : j < wr.length
    · simp [hj, List.getElem?_append_left hj]
    · simp [hj]
  have hnd : va_nd (List.range wr.length) = true := by
    have key : ∀ (l : List Nat), l.Nodup → va_nd l = true := by
      intro l hl
      induction l with
      | nil => rfl
      | cons a l ih =>
        rw [List.nodup_cons] at hl
        simp only [va_nd, Bool.and_eq_true, decide_eq_true_eq]
        exact ⟨hl.1, ih hl.2⟩
    exact key _ List.nodup_range
  obtain ⟨hP', hD'⟩ := va_join (wr := wr) (w1 := w1) hP hD [wr.length] (List.range wr.length) hC hR hnd (fun i hi => by
    have := List.mem_range.mp hi
    simp; omega) hF2 hFc hPt hD1
  obtain ⟨t2, a1, b1⟩ := kk q w1 T'.heap (locs ++ Lc) hP1 hP' hD' (mm_S_after hS hF1 (fun q' h1 h2 => hF2 q' h1 (fun z => h2 (hFc q' z))) (fun q' hq => hFc _ (hLc q' hq))) T' rfl X'
  exact ⟨t2, go t2 a1, b1⟩
end WKN
theorem wk_mem {S : mm_S} {cA : Nat → ClassId} {ad : Nat → Nat} {M : mm_M} {w : va_W} {pl : List Nat} (h : pl.map (fun i => w[i]?) = (mm_W S cA ad M).map some) {k : Nat} (hk : k < S.2) : ∃ i : Nat, w[i]? = some (ad k, mm_cell S.1 cA ad M k) := by
  have h1 : (pl.map (fun i => w[i]?))[k]? = some (some (ad k, mm_cell S.1 cA ad M k)) := by
    rw [h, List.getElem?_map, mm_W_at hk]
    rfl
  rw [List.getElem?_map] at h1
  cases hi : pl[k]? with
  | none => rw [hi] at h1; cases h1
  | some i => rw [hi] at h1; exact ⟨i, Option.some.inj h1⟩
theorem wk_P {S : mm_S} {cA : Nat → ClassId} {ad : Nat → Nat} {M : mm_M} {w : va_W} {pl : List Nat} {D : va_G} {H : Heap} (h : pl.map (fun i => w[i]?) = (mm_W S cA ad M).map some) (hP : va_P D mm_cl w H) : va_P D mm_cl (mm_W S cA ad M) H := by
  intro k q hk
  obtain ⟨h1, rfl⟩ := mm_W_of hk
  obtain ⟨i, hi⟩ := wk_mem h h1
  exact hP i _ hi
theorem wk_inj {S : mm_S} {cA : Nat → ClassId} {ad : Nat → Nat} {M : mm_M} {w : va_W} {pl : List Nat} {A : Nat → Prop} (h : pl.map (fun i => w[i]?) = (mm_W S cA ad M).map some) (hn : va_nd pl = true) (hD : va_D A w) : mm_inj S ad := by
  have hD2 : va_D A (mm_W S cA ad M) := hD.sub pl hn h
  intro i j hi hj hij
  exact hD2.1 i j _ _ (mm_W_at hi) (mm_W_at hj) hij
theorem wk_A {S : mm_S} {cA : Nat → ClassId} {ad : Nat → Nat} {M : mm_M} {w : va_W} {pl : List Nat} {A : Nat → Prop} (h : pl.map (fun i => w[i]?) = (mm_W S cA ad M).map some) (hD : va_D A w) : ∀ q, mm_A S ad q → A q := by
  rintro q ⟨k, hk, rfl⟩
  obtain ⟨i, hi⟩ := wk_mem h hk
  exact hD.2 i _ hi
/-- two parts of one world are apart -/
theorem wk_apart {A : Nat → Prop} {w1 w2 : va_W} (hD : va_D A (w1 ++ w2)) {i j : Nat} {x y : Nat × va_E} (hx : w1[i]? = some x) (hy : w2[j]? = some y) : x.1 ≠ y.1 := by
  intro h
  have h1 := (List.getElem?_eq_some_iff.mp hx).1
  have h2 := (List.getElem?_eq_some_iff.mp hy).1
  have := hD.1 i (w1.length + j) x y (by rw [List.getElem?_append_left h1]; exact hx) (by rw [List.getElem?_append_right (Nat.le_add_right _ _), Nat.add_sub_cancel_left]; exact hy) h
  omega
theorem wk_Pl {D : va_G} {cl : List vw_C} {w1 w2 : va_W} {H : Heap} (h : va_P D cl (w1 ++ w2) H) : va_P D cl w1 H := fun k q hk => h k q (by rw [List.getElem?_append_left (List.getElem?_eq_some_iff.mp hk).1]; exact hk)
theorem wk_Pr {D : va_G} {cl : List vw_C} {w1 w2 : va_W} {H : Heap} (h : va_P D cl (w1 ++ w2) H) : va_P D cl w2 H := fun k q hk => h (w1.length + k) q (by rw [List.getElem?_append_right (Nat.le_add_right _ _), Nat.add_sub_cancel_left]; exact hk)
theorem wk_Dl {A : Nat → Prop} {w1 w2 : va_W} (h : va_D A (w1 ++ w2)) : va_D A w1 := ⟨fun i j p q hi hj hpq => h.1 i j p q (by rw [List.getElem?_append_left (List.getElem?_eq_some_iff.mp hi).1]; exact hi) (by rw [List.getElem?_append_left (List.getElem?_eq_some_iff.mp hj).1]; exact hj) hpq, fun k q hk => h.2 k q (by rw [List.getElem?_append_left (List.getElem?_eq_some_iff.mp hk).1]; exact hk)⟩
theorem wk_Dr {A : Nat → Prop} {w1 w2 : va_W} (h : va_D A (w1 ++ w2)) : va_D A w2 := ⟨fun i j p q hi hj hpq => by
    have := h.1 (w1.length + i) (w1.length + j) p q (by rw [List.getElem?_append_right (Nat.le_add_right _ _), Nat.add_sub_cancel_left]; exact hi) (by rw [List.getElem?_append_right (Nat.le_add_right _ _), Nat.add_sub_cancel_left]; exact hj) hpq
    omega, fun k q hk => h.2 (w1.length + k) q (by rw [List.getElem?_append_right (Nat.le_add_right _ _), Nat.add_sub_cancel_left]; exact hk)⟩


def f_X12_factOf (a1 : Int32) (M : mm_M) : Option (Int32 × mm_M) :=
  mm_case a1 [97, 98, 99, 100, 103, 104, 107, 109, 110, 111, 112, 115, 121] [
    some ((0 : Int32), M),
    some ((1 : Int32), M),
    some ((2 : Int32), M),
    some ((9 : Int32), M),
    some ((3 : Int32), M),
    some ((4 : Int32), M),
    some ((5 : Int32), M),
    some ((12 : Int32), M),
    some ((6 : Int32), M),
    some ((7 : Int32), M),
    some ((8 : Int32), M),
    some ((10 : Int32), M),
    some ((11 : Int32), M)]
  (
    some ((-1 : Int32), M))
theorem s_X12_factOf (a1 : Int32) (M : mm_M) : Sim sysR Y_X12_factOf 0 0 [(0, .int (a1))] [] M mm_fI (f_X12_factOf a1 M) := by
  unfold f_X12_factOf
  refine sim_iload_n 0 d_X12_factOf_0 rfl rfl ?_
  refine sim_tsw (td := 149) [116, 118, 120, 137, 122, 124, 126, 146, 128, 131, 134, 140, 143] d_X12_factOf_1 (by decide +kernel) ⟨?_, ?_, ?_, ?_, ?_, ?_, ?_, ?_, ?_, ?_, ?_, ?_, ?_, trivial⟩ ?_
  ·
    refine sim_iconst (0 : Int32) d_X12_factOf_116 rfl ?_
    exact sim_iret d_X12_factOf_117 rfl
  ·
    refine sim_iconst (1 : Int32) d_X12_factOf_118 rfl ?_
    exact sim_iret d_X12_factOf_119 rfl
  ·
    refine sim_iconst (2 : Int32) d_X12_factOf_120 rfl ?_
    exact sim_iret d_X12_factOf_121 rfl
  ·
    refine sim_bipush (9 : Int32) d_X12_factOf_137 rfl ?_
    exact sim_iret d_X12_factOf_139 rfl
  ·
    refine sim_iconst (3 : Int32) d_X12_factOf_122 rfl ?_
    exact sim_iret d_X12_factOf_123 rfl
  ·
    refine sim_iconst (4 : Int32) d_X12_factOf_124 rfl ?_
    exact sim_iret d_X12_factOf_125 rfl
  ·
    refine sim_iconst (5 : Int32) d_X12_factOf_126 rfl ?_
    exact sim_iret d_X12_factOf_127 rfl
  ·
    refine sim_bipush (12 : Int32) d_X12_factOf_146 rfl ?_
    exact sim_iret d_X12_factOf_148 rfl
  ·
    refine sim_bipush (6 : Int32) d_X12_factOf_128 rfl ?_
    exact sim_iret d_X12_factOf_130 rfl
  ·
    refine sim_bipush (7 : Int32) d_X12_factOf_131 rfl ?_
    exact sim_iret d_X12_factOf_133 rfl
  ·
    refine sim_bipush (8 : Int32) d_X12_factOf_134 rfl ?_
    exact sim_iret d_X12_factOf_136 rfl
  ·
    refine sim_bipush (10 : Int32) d_X12_factOf_140 rfl ?_
    exact sim_iret d_X12_factOf_142 rfl
  ·
    refine sim_bipush (11 : Int32) d_X12_factOf_143 rfl ?_
    exact sim_iret d_X12_factOf_145 rfl
  ·
    refine sim_iconst (-1 : Int32) d_X12_factOf_149 rfl ?_
    exact sim_iret d_X12_factOf_150 rfl
theorem ct_X12_factOf (a1 : Int32) (M : mm_M) : Ct sysR Y_X12_factOf 0 [.int (a1)] M mm_fI (f_X12_factOf a1 M) :=
  ct_of_sim (by decide) rfl (Nat.le_of_ble_eq_true rfl) (s_X12_factOf a1 M)
def f_X12_readUnit_40 (k92 : Int32 → Int32 → mm_M → Option (Int32 × mm_M)) : Nat → Int32 → Int32 → mm_M → Option (Int32 × mm_M)
  | 0, _, _, _ => none
  | n + 1, x2, x3, M =>
  if (4 : Int32) ≤ x3 then
    k92 x2 x3 M
  else
    mm_bi (f_X12_byteAt (mI M 0 35) M) (fun r1 M1 =>
    mm_bi (f_X12_isDigit r1 M1) (fun r2 M2 =>
    if r2 = 0 then
      k92 x2 x3 M2
    else
      mm_bi (f_X12_byteAt (mI M2 0 35) M2) (fun r3 M3 =>
      mm_let ((((10 : Int32) * x2) + r3) - (48 : Int32)) (fun v1 =>
      mm_let (sI M3 0 35 ((mI M3 0 35) + (1 : Int32))) (fun M4 =>
      f_X12_readUnit_40 k92 n v1 (x3 + (1 : Int32)) M4)))))
theorem s_X12_readUnit_40 (k92 : Int32 → Int32 → mm_M → Option (Int32 × mm_M)) (hk92 : ∀ (x2 : Int32) (x3 : Int32) (M : mm_M), Sim sysR Y_X12_readUnit 2 92 [(0, .ref 0), (2, .int (x2)), (3, .int (x3))] [] M mm_fI (k92 x2 x3 M)) (n : Nat) : ∀ (x2 : Int32) (x3 : Int32) (M : mm_M), Sim sysR Y_X12_readUnit 2 40 [(0, .ref 0), (2, .int (x2)), (3, .int (x3))] [] M mm_fI (f_X12_readUnit_40 k92 n x2 x3 M) := by
  induction n with
  | zero => intros; exact sim_none
  | succ n ih =>
    intro x2 x3 M
    rw [f_X12_readUnit_40]
    refine sim_iload_n 2 d_X12_readUnit_40 rfl rfl ?_
    refine sim_iconst (4 : Int32) d_X12_readUnit_41 rfl ?_
    refine sim_icmp_ge d_X12_readUnit_42 ?_ ?_
    ·
      exact sim_sub [0, 1, 2] rfl (hk92 x2 x3 M)
    ·
      refine sim_aload_n 0 d_X12_readUnit_45 rfl rfl ?_
      refine sim_aload_n 0 d_X12_readUnit_46 rfl rfl ?_
      refine sim_geti d_X12_readUnit_47 fl_X12_263 ob_R_0 rfl ?_
      refine sim_callVi Y_X12_byteAt 0 [.int (mI M 0 35)] [] d_X12_readUnit_50 lk_X12_266 cv_X12_byteAt ob_R_0 rfl (by omega) (Nat.le_of_ble_eq_true rfl) (ct_X12_byteAt (mI M 0 35) M) (fun r1 M1 => ?_)
      refine sim_callSi Y_X12_isDigit 1 [.int (r1)] [] d_X12_readUnit_53 lk_X12_272 cs_X12_isDigit rfl (by omega) (Nat.le_of_ble_eq_true rfl) (ct_X12_isDigit r1 M1) (fun r2 M2 => ?_)
      refine sim_if_eq d_X12_readUnit_56 ?_ ?_
      ·
        exact sim_sub [0, 1, 2] rfl (hk92 x2 x3 M2)
      ·
        refine sim_bipush (10 : Int32) d_X12_readUnit_59 rfl ?_
        refine sim_iload_n 1 d_X12_readUnit_61 rfl rfl ?_
        refine sim_imul d_X12_readUnit_62 ?_
        refine sim_aload_n 0 d_X12_readUnit_63 rfl rfl ?_
        refine sim_aload_n 0 d_X12_readUnit_64 rfl rfl ?_
        refine sim_geti d_X12_readUnit_65 fl_X12_263 ob_R_0 rfl ?_
        refine sim_callVi Y_X12_byteAt 0 [.int (mI M2 0 35)] [.int ((10 : Int32) * x2)] d_X12_readUnit_68 lk_X12_266 cv_X12_byteAt ob_R_0 rfl (by omega) (Nat.le_of_ble_eq_true rfl) (ct_X12_byteAt (mI M2 0 35) M2) (fun r3 M3 => ?_)
        refine sim_iadd d_X12_readUnit_71 ?_
        refine sim_bipush (48 : Int32) d_X12_readUnit_72 rfl ?_
        refine sim_isub d_X12_readUnit_74 ?_
        refine sim_nmi (fun v1 => ?_)
        refine sim_istore_n (L' := [(0, .ref 0), (3, .int (x3)), (2, .int (v1))]) d_X12_readUnit_75 rfl (Nat.le_of_ble_eq_true rfl) rfl ?_
        refine sim_aload_n 0 d_X12_readUnit_76 rfl rfl ?_
        refine sim_dup d_X12_readUnit_77 rfl ?_
        refine sim_geti d_X12_readUnit_78 fl_X12_263 ob_R_0 rfl ?_
        refine sim_iconst (1 : Int32) d_X12_readUnit_81 rfl ?_
        refine sim_iadd d_X12_readUnit_82 ?_
        refine sim_puti d_X12_readUnit_83 fl_X12_263 ob_R_0 rfl ?_
        refine sim_nmM (fun M4 => ?_)
        refine sim_iinc (v := x3 + (1 : Int32)) (L' := [(0, .ref 0), (2, .int (v1)), (3, .int (x3 + (1 : Int32)))]) 1 d_X12_readUnit_86 (Nat.le_of_ble_eq_true rfl) rfl rfl rfl ?_
        refine sim_goto d_X12_readUnit_89 ?_
        exact sim_sub [0, 1, 2] rfl (ih v1 (x3 + (1 : Int32)) M4)
def f_X12_readUnit_92 (x2 : Int32) (x3 : Int32) (M : mm_M) : Option (Int32 × mm_M) :=
  if (mI M 0 36) = 0 then
    if x3 = 0 then
      mm_let (sI M 0 36 (1 : Int32)) (fun M3 =>
      some (x2, M3))
    else
      mm_let (sI M 0 36 (0 : Int32)) (fun M2 =>
      some (x2, M2))
  else
    mm_let (sI M 0 36 (1 : Int32)) (fun M1 =>
    some (x2, M1))
theorem s_X12_readUnit_92 (x2 : Int32) (x3 : Int32) (M : mm_M) : Sim sysR Y_X12_readUnit 2 92 [(0, .ref 0), (2, .int (x2)), (3, .int (x3))] [] M mm_fI (f_X12_readUnit_92 x2 x3 M) := by
  unfold f_X12_readUnit_92
  refine sim_aload_n 0 d_X12_readUnit_92 rfl rfl ?_
  refine sim_aload_n 0 d_X12_readUnit_93 rfl rfl ?_
  refine sim_getz d_X12_readUnit_94 fl_X12_275 ob_R_0 rfl ?_
  refine sim_if_ne d_X12_readUnit_97 ?_ ?_
  ·
    refine sim_iconst (1 : Int32) d_X12_readUnit_104 rfl ?_
    refine sim_goto d_X12_readUnit_105 ?_
    refine sim_putz d_X12_readUnit_109 fl_X12_275 ob_R_0 rfl (Or.inr rfl) ?_
    refine sim_nmM (fun M1 => ?_)
    refine sim_iload_n 1 d_X12_readUnit_112 rfl rfl ?_
    exact sim_iret d_X12_readUnit_113 rfl
  ·
    refine sim_iload_n 2 d_X12_readUnit_100 rfl rfl ?_
    refine sim_if_ne d_X12_readUnit_101 ?_ ?_
    ·
      refine sim_iconst (0 : Int32) d_X12_readUnit_108 rfl ?_
      refine sim_putz d_X12_readUnit_109 fl_X12_275 ob_R_0 rfl (Or.inl rfl) ?_
      refine sim_nmM (fun M2 => ?_)
      refine sim_iload_n 1 d_X12_readUnit_112 rfl rfl ?_
      exact sim_iret d_X12_readUnit_113 rfl
    ·
      refine sim_iconst (1 : Int32) d_X12_readUnit_104 rfl ?_
      refine sim_goto d_X12_readUnit_105 ?_
      refine sim_putz d_X12_readUnit_109 fl_X12_275 ob_R_0 rfl (Or.inr rfl) ?_
      refine sim_nmM (fun M3 => ?_)
      refine sim_iload_n 1 d_X12_readUnit_112 rfl rfl ?_
      exact sim_iret d_X12_readUnit_113 rfl
def f_X12_readUnit (M : mm_M) : Option (Int32 × mm_M) :=
  mm_bi (f_X12_byteAt (mI M 0 35) M) (fun r1 M1 =>
  mm_bi (f_X12_factOf r1 M1) (fun r2 M2 =>
  if r2 < 0 then
    f_X12_readUnit_40 f_X12_readUnit_92 mm_fu (0 : Int32) (0 : Int32) M2
  else
    mm_let (sI M2 0 35 ((mI M2 0 35) + (1 : Int32))) (fun M3 =>
    mm_bi (f_X12_factOf r1 M3) (fun r3 M4 =>
    mm_ck r3 13 (
    some (mI M4 25 r3.toNatClampNeg, M4))))))
theorem s_X12_readUnit (M : mm_M) : Sim sysR Y_X12_readUnit 2 0 [(0, .ref 0)] [] M mm_fI (f_X12_readUnit M) := by
  unfold f_X12_readUnit
  refine sim_aload_n 0 d_X12_readUnit_0 rfl rfl ?_
  refine sim_aload_n 0 d_X12_readUnit_1 rfl rfl ?_
  refine sim_geti d_X12_readUnit_2 fl_X12_263 ob_R_0 rfl ?_
  refine sim_callVi Y_X12_byteAt 0 [.int (mI M 0 35)] [] d_X12_readUnit_5 lk_X12_266 cv_X12_byteAt ob_R_0 rfl (by omega) (Nat.le_of_ble_eq_true rfl) (ct_X12_byteAt (mI M 0 35) M) (fun r1 M1 => ?_)
  refine sim_istore_n (L' := [(0, .ref 0), (1, .int (r1))]) d_X12_readUnit_8 rfl (Nat.le_of_ble_eq_true rfl) rfl ?_
  refine sim_iload_n 1 d_X12_readUnit_9 rfl rfl ?_
  refine sim_callSi Y_X12_factOf 0 [.int (r1)] [] d_X12_readUnit_10 lk_X12_269 cs_X12_factOf rfl (by omega) (Nat.le_of_ble_eq_true rfl) (ct_X12_factOf r1 M1) (fun r2 M2 => ?_)
  refine sim_if_lt d_X12_readUnit_13 ?_ ?_
  ·
    refine sim_iconst (0 : Int32) d_X12_readUnit_36 rfl ?_
    refine sim_istore_n (L' := [(0, .ref 0), (1, .int (r1)), (2, .int ((0 : Int32)))]) d_X12_readUnit_37 rfl (Nat.le_of_ble_eq_true rfl) rfl ?_
    refine sim_iconst (0 : Int32) d_X12_readUnit_38 rfl ?_
    refine sim_istore_n (L' := [(0, .ref 0), (1, .int (r1)), (2, .int ((0 : Int32))), (3, .int ((0 : Int32)))]) d_X12_readUnit_39 rfl (Nat.le_of_ble_eq_true rfl) rfl ?_
    exact sim_sub [0, 2, 3] rfl (s_X12_readUnit_40 f_X12_readUnit_92 s_X12_readUnit_92 mm_fu (0 : Int32) (0 : Int32) M2)
  ·
    refine sim_aload_n 0 d_X12_readUnit_16 rfl rfl ?_
    refine sim_dup d_X12_readUnit_17 rfl ?_
    refine sim_geti d_X12_readUnit_18 fl_X12_263 ob_R_0 rfl ?_
    refine sim_iconst (1 : Int32) d_X12_readUnit_21 rfl ?_
    refine sim_iadd d_X12_readUnit_22 ?_
    refine sim_puti d_X12_readUnit_23 fl_X12_263 ob_R_0 rfl ?_
    refine sim_nmM (fun M3 => ?_)
    refine sim_aload_n 0 d_X12_readUnit_26 rfl rfl ?_
    refine sim_geta d_X12_readUnit_27 fl_X12_83 ob_R_0 rfl ?_
    refine sim_iload_n 1 d_X12_readUnit_30 rfl rfl ?_
    refine sim_callSi Y_X12_factOf 0 [.int (r1)] [.ref 25] d_X12_readUnit_31 lk_X12_269 cs_X12_factOf rfl (by omega) (Nat.le_of_ble_eq_true rfl) (ct_X12_factOf r1 M3) (fun r3 M4 => ?_)
    refine sim_iald d_X12_readUnit_34 ar_R_25 ?_
    exact sim_iret d_X12_readUnit_35 rfl
theorem ct_X12_readUnit (M : mm_M) : Ct sysR Y_X12_readUnit 2 [.ref 0] M mm_fI (f_X12_readUnit M) :=
  ct_of_sim (by decide) rfl (Nat.le_of_ble_eq_true rfl) (s_X12_readUnit M)
def f_X12_readSum_83 (k5 : Int32 → mm_M → Option (Int32 × mm_M)) (t0 : Int32) (t1 : Int32) (M : mm_M) : Option (Int32 × mm_M) :=
  mm_let (t0 + t1) (fun v1 =>
  k5 v1 M)
theorem s_X12_readSum_83 (k5 : Int32 → mm_M → Option (Int32 × mm_M)) (hk5 : ∀ (x1 : Int32) (M : mm_M), Sim sysR Y_X12_readSum 3 5 [(0, .ref 0), (1, .int (x1))] [] M mm_fI (k5 x1 M)) (t0 : Int32) (t1 : Int32) (M : mm_M) : Sim sysR Y_X12_readSum 3 83 [(0, .ref 0)] [.int (t1), .int (t0)] M mm_fI (f_X12_readSum_83 k5 t0 t1 M) := by
  unfold f_X12_readSum_83
  refine sim_iadd d_X12_readSum_83 ?_
  refine sim_nmi (fun v1 => ?_)
  refine sim_istore_n (L' := [(0, .ref 0), (1, .int (v1))]) d_X12_readSum_84 rfl (Nat.le_of_ble_eq_true rfl) rfl ?_
  refine sim_goto d_X12_readSum_85 ?_
  exact sim_sub [0, 1] rfl (hk5 v1 M)
def f_X12_readSum_56 (k5 : Int32 → mm_M → Option (Int32 × mm_M)) (x1 : Int32) (t0 : Int32) (M : mm_M) : Option (Int32 × mm_M) :=
  mm_let (sI M 0 35 ((mI M 0 35) + (1 : Int32))) (fun M1 =>
  mm_bi (f_X12_readUnit M1) (fun r1 M2 =>
  if t0 = 0 then
    f_X12_readSum_83 k5 x1 (-r1) M2
  else
    f_X12_readSum_83 k5 x1 r1 M2))
theorem s_X12_readSum_56 (k5 : Int32 → mm_M → Option (Int32 × mm_M)) (hk5 : ∀ (x1 : Int32) (M : mm_M), Sim sysR Y_X12_readSum 3 5 [(0, .ref 0), (1, .int (x1))] [] M mm_fI (k5 x1 M)) (x1 : Int32) (t0 : Int32) (M : mm_M) : Sim sysR Y_X12_readSum 3 56 [(0, .ref 0), (1, .int (x1))] [.int (t0)] M mm_fI (f_X12_readSum_56 k5 x1 t0 M) := by
  unfold f_X12_readSum_56
  refine sim_istore_n (L' := [(0, .ref 0), (1, .int (x1)), (2, .int (t0))]) d_X12_readSum_56 rfl (Nat.le_of_ble_eq_true rfl) rfl ?_
  refine sim_aload_n 0 d_X12_readSum_57 rfl rfl ?_
  refine sim_dup d_X12_readSum_58 rfl ?_
  refine sim_geti d_X12_readSum_59 fl_X12_263 ob_R_0 rfl ?_
  refine sim_iconst (1 : Int32) d_X12_readSum_62 rfl ?_
  refine sim_iadd d_X12_readSum_63 ?_
  refine sim_puti d_X12_readSum_64 fl_X12_263 ob_R_0 rfl ?_
  refine sim_nmM (fun M1 => ?_)
  refine sim_aload_n 0 d_X12_readSum_67 rfl rfl ?_
  refine sim_callVi Y_X12_readUnit 2 [] [] d_X12_readSum_68 lk_X12_278 cv_X12_readUnit ob_R_0 rfl (by omega) (Nat.le_of_ble_eq_true rfl) (ct_X12_readUnit M1) (fun r1 M2 => ?_)
  refine sim_istore_n (L' := [(0, .ref 0), (1, .int (x1)), (2, .int (t0)), (3, .int (r1))]) d_X12_readSum_71 rfl (Nat.le_of_ble_eq_true rfl) rfl ?_
  refine sim_iload_n 1 d_X12_readSum_72 rfl rfl ?_
  refine sim_iload_n 2 d_X12_readSum_73 rfl rfl ?_
  refine sim_if_eq d_X12_readSum_74 ?_ ?_
  ·
    refine sim_iload_n 3 d_X12_readSum_81 rfl rfl ?_
    refine sim_ineg d_X12_readSum_82 ?_
    exact sim_sub [0] rfl (s_X12_readSum_83 k5 hk5 x1 (-r1) M2)
  ·
    refine sim_iload_n 3 d_X12_readSum_77 rfl rfl ?_
    refine sim_goto d_X12_readSum_78 ?_
    exact sim_sub [0] rfl (s_X12_readSum_83 k5 hk5 x1 r1 M2)
def f_X12_readSum_38 (k5 : Int32 → mm_M → Option (Int32 × mm_M)) (x1 : Int32) (M : mm_M) : Option (Int32 × mm_M) :=
  mm_bi (f_X12_byteAt (mI M 0 35) M) (fun r1 M1 =>
  if r1 = (43 : Int32) then
    f_X12_readSum_56 k5 x1 (1 : Int32) M1
  else
    f_X12_readSum_56 k5 x1 (0 : Int32) M1)
theorem s_X12_readSum_38 (k5 : Int32 → mm_M → Option (Int32 × mm_M)) (hk5 : ∀ (x1 : Int32) (M : mm_M), Sim sysR Y_X12_readSum 3 5 [(0, .ref 0), (1, .int (x1))] [] M mm_fI (k5 x1 M)) (x1 : Int32) (M : mm_M) : Sim sysR Y_X12_readSum 3 38 [(0, .ref 0), (1, .int (x1))] [] M mm_fI (f_X12_readSum_38 k5 x1 M) := by
  unfold f_X12_readSum_38
  refine sim_aload_n 0 d_X12_readSum_38 rfl rfl ?_
  refine sim_aload_n 0 d_X12_readSum_39 rfl rfl ?_
  refine sim_geti d_X12_readSum_40 fl_X12_263 ob_R_0 rfl ?_
  refine sim_callVi Y_X12_byteAt 0 [.int (mI M 0 35)] [] d_X12_readSum_43 lk_X12_266 cv_X12_byteAt ob_R_0 rfl (by omega) (Nat.le_of_ble_eq_true rfl) (ct_X12_byteAt (mI M 0 35) M) (fun r1 M1 => ?_)
  refine sim_bipush (43 : Int32) d_X12_readSum_46 rfl ?_
  refine sim_icmp_ne d_X12_readSum_48 ?_ ?_
  ·
    refine sim_iconst (0 : Int32) d_X12_readSum_55 rfl ?_
    exact sim_sub [0, 1] rfl (s_X12_readSum_56 k5 hk5 x1 (0 : Int32) M1)
  ·
    refine sim_iconst (1 : Int32) d_X12_readSum_51 rfl ?_
    refine sim_goto d_X12_readSum_52 ?_
    exact sim_sub [0, 1] rfl (s_X12_readSum_56 k5 hk5 x1 (1 : Int32) M1)
def f_X12_readSum_5 : Nat → Int32 → mm_M → Option (Int32 × mm_M)
  | 0, _, _ => none
  | n + 1, x1, M =>
  if (mI M 0 36) = 0 then
    mm_bi (f_X12_byteAt (mI M 0 35) M) (fun r1 M1 =>
    if r1 = (43 : Int32) then
      f_X12_readSum_38 (f_X12_readSum_5 n) x1 M1
    else
      mm_bi (f_X12_byteAt (mI M1 0 35) M1) (fun r2 M2 =>
      if r2 = (45 : Int32) then
        f_X12_readSum_38 (f_X12_readSum_5 n) x1 M2
      else
        some (x1, M2)))
  else
    some (x1, M)
theorem s_X12_readSum_5 (n : Nat) : ∀ (x1 : Int32) (M : mm_M), Sim sysR Y_X12_readSum 3 5 [(0, .ref 0), (1, .int (x1))] [] M mm_fI (f_X12_readSum_5 n x1 M) := by
  induction n with
  | zero => intros; exact sim_none
  | succ n ih =>
    intro x1 M
    rw [f_X12_readSum_5]
    refine sim_aload_n 0 d_X12_readSum_5 rfl rfl ?_
    refine sim_getz d_X12_readSum_6 fl_X12_275 ob_R_0 rfl ?_
    refine sim_if_ne d_X12_readSum_9 ?_ ?_
    ·
      refine sim_iload_n 1 d_X12_readSum_88 rfl rfl ?_
      exact sim_iret d_X12_readSum_89 rfl
    ·
      refine sim_aload_n 0 d_X12_readSum_12 rfl rfl ?_
      refine sim_aload_n 0 d_X12_readSum_13 rfl rfl ?_
      refine sim_geti d_X12_readSum_14 fl_X12_263 ob_R_0 rfl ?_
      refine sim_callVi Y_X12_byteAt 0 [.int (mI M 0 35)] [] d_X12_readSum_17 lk_X12_266 cv_X12_byteAt ob_R_0 rfl (by omega) (Nat.le_of_ble_eq_true rfl) (ct_X12_byteAt (mI M 0 35) M) (fun r1 M1 => ?_)
      refine sim_bipush (43 : Int32) d_X12_readSum_20 rfl ?_
      refine sim_icmp_eq d_X12_readSum_22 ?_ ?_
      ·
        exact sim_sub [0, 1] rfl (s_X12_readSum_38 (f_X12_readSum_5 n) ih x1 M1)
      ·
        refine sim_aload_n 0 d_X12_readSum_25 rfl rfl ?_
        refine sim_aload_n 0 d_X12_readSum_26 rfl rfl ?_
        refine sim_geti d_X12_readSum_27 fl_X12_263 ob_R_0 rfl ?_
        refine sim_callVi Y_X12_byteAt 0 [.int (mI M1 0 35)] [] d_X12_readSum_30 lk_X12_266 cv_X12_byteAt ob_R_0 rfl (by omega) (Nat.le_of_ble_eq_true rfl) (ct_X12_byteAt (mI M1 0 35) M1) (fun r2 M2 => ?_)
        refine sim_bipush (45 : Int32) d_X12_readSum_33 rfl ?_
        refine sim_icmp_ne d_X12_readSum_35 ?_ ?_
        ·
          refine sim_iload_n 1 d_X12_readSum_88 rfl rfl ?_
          exact sim_iret d_X12_readSum_89 rfl
        ·
          exact sim_sub [0, 1] rfl (s_X12_readSum_38 (f_X12_readSum_5 n) ih x1 M2)
def f_X12_readSum (M : mm_M) : Option (Int32 × mm_M) :=
  mm_bi (f_X12_readUnit M) (fun r1 M1 =>
  f_X12_readSum_5 mm_fu r1 M1)
theorem s_X12_readSum (M : mm_M) : Sim sysR Y_X12_readSum 3 0 [(0, .ref 0)] [] M mm_fI (f_X12_readSum M) := by
  unfold f_X12_readSum
  refine sim_aload_n 0 d_X12_readSum_0 rfl rfl ?_
  refine sim_callVi Y_X12_readUnit 2 [] [] d_X12_readSum_1 lk_X12_278 cv_X12_readUnit ob_R_0 rfl (by omega) (Nat.le_of_ble_eq_true rfl) (ct_X12_readUnit M) (fun r1 M1 => ?_)
  refine sim_istore_n (L' := [(0, .ref 0), (1, .int (r1))]) d_X12_readSum_4 rfl (Nat.le_of_ble_eq_true rfl) rfl ?_
  exact sim_sub [0, 1] rfl (s_X12_readSum_5 mm_fu r1 M1)
theorem ct_X12_readSum (M : mm_M) : Ct sysR Y_X12_readSum 3 [.ref 0] M mm_fI (f_X12_readSum M) :=
  ct_of_sim (by decide) rfl (Nat.le_of_ble_eq_true rfl) (s_X12_readSum M)
def f_X12_isSign (a1 : Int32) (M : mm_M) : Option (Int32 × mm_M) :=
  if a1 = (60 : Int32) then
    some ((1 : Int32), M)
  else
    if a1 = (61 : Int32) then
      some ((1 : Int32), M)
    else
      if a1 = (62 : Int32) then
        some ((1 : Int32), M)
      else
        some ((0 : Int32), M)
theorem s_X12_isSign (a1 : Int32) (M : mm_M) : Sim sysR Y_X12_isSign 0 0 [(0, .int (a1))] [] M mm_fI (f_X12_isSign a1 M) := by
  unfold f_X12_isSign
  refine sim_iload_n 0 d_X12_isSign_0 rfl rfl ?_
  refine sim_bipush (60 : Int32) d_X12_isSign_1 rfl ?_
  refine sim_icmp_eq d_X12_isSign_3 ?_ ?_
  ·
    refine sim_iconst (1 : Int32) d_X12_isSign_18 rfl ?_
    refine sim_goto d_X12_isSign_19 ?_
    exact sim_zret d_X12_isSign_23 rfl rfl
  ·
    refine sim_iload_n 0 d_X12_isSign_6 rfl rfl ?_
    refine sim_bipush (61 : Int32) d_X12_isSign_7 rfl ?_
    refine sim_icmp_eq d_X12_isSign_9 ?_ ?_
    ·
      refine sim_iconst (1 : Int32) d_X12_isSign_18 rfl ?_
      refine sim_goto d_X12_isSign_19 ?_
      exact sim_zret d_X12_isSign_23 rfl rfl
    ·
      refine sim_iload_n 0 d_X12_isSign_12 rfl rfl ?_
      refine sim_bipush (62 : Int32) d_X12_isSign_13 rfl ?_
      refine sim_icmp_ne d_X12_isSign_15 ?_ ?_
      ·
        refine sim_iconst (0 : Int32) d_X12_isSign_22 rfl ?_
        exact sim_zret d_X12_isSign_23 rfl rfl
      ·
        refine sim_iconst (1 : Int32) d_X12_isSign_18 rfl ?_
        refine sim_goto d_X12_isSign_19 ?_
        exact sim_zret d_X12_isSign_23 rfl rfl
theorem ct_X12_isSign (a1 : Int32) (M : mm_M) : Ct sysR Y_X12_isSign 0 [.int (a1)] M mm_fI (f_X12_isSign a1 M) :=
  ct_of_sim (by decide) rfl (Nat.le_of_ble_eq_true rfl) (s_X12_isSign a1 M)
def f_X12_readPart_26 (x1 : Int32) (M : mm_M) : Option (Int32 × mm_M) :=
  if x1 ≤ 0 then
    some ((0 : Int32), M)
  else
    some ((1 : Int32), M)
theorem s_X12_readPart_26 (x1 : Int32) (M : mm_M) : Sim sysR Y_X12_readPart 4 26 [(1, .int (x1))] [] M mm_fI (f_X12_readPart_26 x1 M) := by
  unfold f_X12_readPart_26
  refine sim_iload_n 0 d_X12_readPart_26 rfl rfl ?_
  refine sim_if_le d_X12_readPart_27 ?_ ?_
  ·
    refine sim_iconst (0 : Int32) d_X12_readPart_34 rfl ?_
    exact sim_zret d_X12_readPart_35 rfl rfl
  ·
    refine sim_iconst (1 : Int32) d_X12_readPart_30 rfl ?_
    refine sim_goto d_X12_readPart_31 ?_
    exact sim_zret d_X12_readPart_35 rfl rfl
def f_X12_readPart (M : mm_M) : Option (Int32 × mm_M) :=
  mm_bi (f_X12_readSum M) (fun r1 M1 =>
  if (mI M1 0 36) = 0 then
    mm_bi (f_X12_byteAt (mI M1 0 35) M1) (fun r2 M2 =>
    mm_bi (f_X12_isSign r2 M2) (fun r3 M3 =>
    if r3 = 0 then
      f_X12_readPart_26 r1 M3
    else
      mm_bi (f_X12_byteAt (mI M3 0 35) M3) (fun r4 M4 =>
      mm_let (sI M4 0 35 ((mI M4 0 35) + (1 : Int32))) (fun M5 =>
      mm_bi (f_X12_readSum M5) (fun r5 M6 =>
      if r4 = (60 : Int32) then
        if r5 ≤ r1 then
          some ((0 : Int32), M6)
        else
          some ((1 : Int32), M6)
      else
        if r4 = (61 : Int32) then
          if r1 = r5 then
            some ((1 : Int32), M6)
          else
            some ((0 : Int32), M6)
        else
          if r1 ≤ r5 then
            some ((0 : Int32), M6)
          else
            some ((1 : Int32), M6))))))
  else
    f_X12_readPart_26 r1 M1)
theorem s_X12_readPart (M : mm_M) : Sim sysR Y_X12_readPart 4 0 [(0, .ref 0)] [] M mm_fI (f_X12_readPart M) := by
  unfold f_X12_readPart
  refine sim_aload_n 0 d_X12_readPart_0 rfl rfl ?_
  refine sim_callVi Y_X12_readSum 3 [] [] d_X12_readPart_1 lk_X12_281 cv_X12_readSum ob_R_0 rfl (by omega) (Nat.le_of_ble_eq_true rfl) (ct_X12_readSum M) (fun r1 M1 => ?_)
  refine sim_istore_n (L' := [(0, .ref 0), (1, .int (r1))]) d_X12_readPart_4 rfl (Nat.le_of_ble_eq_true rfl) rfl ?_
  refine sim_aload_n 0 d_X12_readPart_5 rfl rfl ?_
  refine sim_getz d_X12_readPart_6 fl_X12_275 ob_R_0 rfl ?_
  refine sim_if_ne d_X12_readPart_9 ?_ ?_
  ·
    exact sim_sub [1] rfl (s_X12_readPart_26 r1 M1)
  ·
    refine sim_aload_n 0 d_X12_readPart_12 rfl rfl ?_
    refine sim_aload_n 0 d_X12_readPart_13 rfl rfl ?_
    refine sim_geti d_X12_readPart_14 fl_X12_263 ob_R_0 rfl ?_
    refine sim_callVi Y_X12_byteAt 0 [.int (mI M1 0 35)] [] d_X12_readPart_17 lk_X12_266 cv_X12_byteAt ob_R_0 rfl (by omega) (Nat.le_of_ble_eq_true rfl) (ct_X12_byteAt (mI M1 0 35) M1) (fun r2 M2 => ?_)
    refine sim_callSi Y_X12_isSign 0 [.int (r2)] [] d_X12_readPart_20 lk_X12_284 cs_X12_isSign rfl (by omega) (Nat.le_of_ble_eq_true rfl) (ct_X12_isSign r2 M2) (fun r3 M3 => ?_)
    refine sim_if_ne d_X12_readPart_23 ?_ ?_
    ·
      refine sim_aload_n 0 d_X12_readPart_36 rfl rfl ?_
      refine sim_aload_n 0 d_X12_readPart_37 rfl rfl ?_
      refine sim_geti d_X12_readPart_38 fl_X12_263 ob_R_0 rfl ?_
      refine sim_callVi Y_X12_byteAt 0 [.int (mI M3 0 35)] [] d_X12_readPart_41 lk_X12_266 cv_X12_byteAt ob_R_0 rfl (by omega) (Nat.le_of_ble_eq_true rfl) (ct_X12_byteAt (mI M3 0 35) M3) (fun r4 M4 => ?_)
      refine sim_istore_n (L' := [(0, .ref 0), (1, .int (r1)), (2, .int (r4))]) d_X12_readPart_44 rfl (Nat.le_of_ble_eq_true rfl) rfl ?_
      refine sim_aload_n 0 d_X12_readPart_45 rfl rfl ?_
      refine sim_dup d_X12_readPart_46 rfl ?_
      refine sim_geti d_X12_readPart_47 fl_X12_263 ob_R_0 rfl ?_
      refine sim_iconst (1 : Int32) d_X12_readPart_50 rfl ?_
      refine sim_iadd d_X12_readPart_51 ?_
      refine sim_puti d_X12_readPart_52 fl_X12_263 ob_R_0 rfl ?_
      refine sim_nmM (fun M5 => ?_)
      refine sim_aload_n 0 d_X12_readPart_55 rfl rfl ?_
      refine sim_callVi Y_X12_readSum 3 [] [] d_X12_readPart_56 lk_X12_281 cv_X12_readSum ob_R_0 rfl (by omega) (Nat.le_of_ble_eq_true rfl) (ct_X12_readSum M5) (fun r5 M6 => ?_)
      refine sim_istore_n (L' := [(0, .ref 0), (1, .int (r1)), (2, .int (r4)), (3, .int (r5))]) d_X12_readPart_59 rfl (Nat.le_of_ble_eq_true rfl) rfl ?_
      refine sim_iload_n 2 d_X12_readPart_60 rfl rfl ?_
      refine sim_bipush (60 : Int32) d_X12_readPart_61 rfl ?_
      refine sim_icmp_ne d_X12_readPart_63 ?_ ?_
      ·
        refine sim_iload_n 2 d_X12_readPart_79 rfl rfl ?_
        refine sim_bipush (61 : Int32) d_X12_readPart_80 rfl ?_
        refine sim_icmp_ne d_X12_readPart_82 ?_ ?_
        ·
          refine sim_iload_n 1 d_X12_readPart_98 rfl rfl ?_
          refine sim_iload_n 3 d_X12_readPart_99 rfl rfl ?_
          refine sim_icmp_le d_X12_readPart_100 ?_ ?_
          ·
            refine sim_iconst (0 : Int32) d_X12_readPart_107 rfl ?_
            exact sim_zret d_X12_readPart_108 rfl rfl
          ·
            refine sim_iconst (1 : Int32) d_X12_readPart_103 rfl ?_
            refine sim_goto d_X12_readPart_104 ?_
            exact sim_zret d_X12_readPart_108 rfl rfl
        ·
          refine sim_iload_n 1 d_X12_readPart_85 rfl rfl ?_
          refine sim_iload_n 3 d_X12_readPart_86 rfl rfl ?_
          refine sim_icmp_ne d_X12_readPart_87 ?_ ?_
          ·
            refine sim_iconst (0 : Int32) d_X12_readPart_94 rfl ?_
            refine sim_goto d_X12_readPart_95 ?_
            exact sim_zret d_X12_readPart_108 rfl rfl
          ·
            refine sim_iconst (1 : Int32) d_X12_readPart_90 rfl ?_
            refine sim_goto d_X12_readPart_91 ?_
            exact sim_zret d_X12_readPart_108 rfl rfl
      ·
        refine sim_iload_n 1 d_X12_readPart_66 rfl rfl ?_
        refine sim_iload_n 3 d_X12_readPart_67 rfl rfl ?_
        refine sim_icmp_ge d_X12_readPart_68 ?_ ?_
        ·
          refine sim_iconst (0 : Int32) d_X12_readPart_75 rfl ?_
          refine sim_goto d_X12_readPart_76 ?_
          exact sim_zret d_X12_readPart_108 rfl rfl
        ·
          refine sim_iconst (1 : Int32) d_X12_readPart_71 rfl ?_
          refine sim_goto d_X12_readPart_72 ?_
          exact sim_zret d_X12_readPart_108 rfl rfl
    ·
      exact sim_sub [1] rfl (s_X12_readPart_26 r1 M3)
theorem ct_X12_readPart (M : mm_M) : Ct sysR Y_X12_readPart 4 [.ref 0] M mm_fI (f_X12_readPart M) :=
  ct_of_sim (by decide) rfl (Nat.le_of_ble_eq_true rfl) (s_X12_readPart M)
def f_X12_readText_257 (k27 : Int32 → mm_M → Option (Int32 × mm_M)) (x1 : Int32) (M : mm_M) : Option (Int32 × mm_M) :=
  k27 x1 M
theorem s_X12_readText_257 (k27 : Int32 → mm_M → Option (Int32 × mm_M)) (hk27 : ∀ (x1 : Int32) (M : mm_M), Sim sysR Y_X12_readText 5 27 [(0, .ref 0), (1, .int (x1))] [] M mm_fI (k27 x1 M)) (x1 : Int32) (M : mm_M) : Sim sysR Y_X12_readText 5 257 [(0, .ref 0), (1, .int (x1))] [] M mm_fI (f_X12_readText_257 k27 x1 M) := by
  unfold f_X12_readText_257
  refine sim_goto d_X12_readText_257 ?_
  exact sim_sub [0, 1] rfl (hk27 x1 M)
def f_X12_readText_109 (k27 : Int32 → mm_M → Option (Int32 × mm_M)) (x1 : Int32) (x2 : Int32) (M : mm_M) : Option (Int32 × mm_M) :=
  if x1 = 0 then
    if x2 = (38 : Int32) then
      mm_bv (f_X12_settle (0 : Int32) M) (fun M11 =>
      mm_bv (f_X12_wait x2 M11) (fun M12 =>
      f_X12_readText_257 k27 (1 : Int32) M12))
    else
      if x2 = (124 : Int32) then
        mm_bv (f_X12_settle (1 : Int32) M) (fun M9 =>
        mm_bv (f_X12_wait x2 M9) (fun M10 =>
        f_X12_readText_257 k27 (1 : Int32) M10))
      else
        if x2 = (41 : Int32) then
          mm_bv (f_X12_settle (1 : Int32) M) (fun M2 =>
          mm_bi (f_X12_topSign M2) (fun r1 M3 =>
          if r1 = (40 : Int32) then
            mm_let (sI M3 0 39 ((mI M3 0 39) - (1 : Int32))) (fun M5 =>
            mm_let (sI M5 0 42 ((mI M5 0 42) - (1 : Int32))) (fun M6 =>
            mm_let (sI M6 0 35 ((mI M6 0 35) + (1 : Int32))) (fun M7 =>
            mm_bv (f_X12_settleNots M7) (fun M8 =>
            f_X12_readText_257 k27 x1 M8))))
          else
            mm_let (sI M3 0 36 (1 : Int32)) (fun M4 =>
            f_X12_readText_257 k27 x1 M4)))
        else
          mm_let (sI M 0 36 (1 : Int32)) (fun M1 =>
          f_X12_readText_257 k27 x1 M1)
  else
    mm_bi (f_X12_readPart M) (fun r2 M13 =>
    mm_ck (mI M 0 41) 100 (
    mm_let (sI M13 27 (mI M 0 41).toNatClampNeg (r2 &&& 1)) (fun M14 =>
    mm_let (sI M14 0 41 ((mI M14 0 41) + (1 : Int32))) (fun M15 =>
    mm_bv (f_X12_settleNots M15) (fun M16 =>
    f_X12_readText_257 k27 (0 : Int32) M16)))))
theorem s_X12_readText_109 (k27 : Int32 → mm_M → Option (Int32 × mm_M)) (hk27 : ∀ (x1 : Int32) (M : mm_M), Sim sysR Y_X12_readText 5 27 [(0, .ref 0), (1, .int (x1))] [] M mm_fI (k27 x1 M)) (x1 : Int32) (x2 : Int32) (M : mm_M) : Sim sysR Y_X12_readText 5 109 [(0, .ref 0), (1, .int (x1)), (2, .int (x2))] [] M mm_fI (f_X12_readText_109 k27 x1 x2 M) := by
  unfold f_X12_readText_109
  refine sim_iload_n 1 d_X12_readText_109 rfl rfl ?_
  refine sim_if_eq d_X12_readText_110 ?_ ?_
  ·
    refine sim_iload_n 2 d_X12_readText_145 rfl rfl ?_
    refine sim_bipush (38 : Int32) d_X12_readText_146 rfl ?_
    refine sim_icmp_ne d_X12_readText_148 ?_ ?_
    ·
      refine sim_iload_n 2 d_X12_readText_166 rfl rfl ?_
      refine sim_bipush (124 : Int32) d_X12_readText_167 rfl ?_
      refine sim_icmp_ne d_X12_readText_169 ?_ ?_
      ·
        refine sim_iload_n 2 d_X12_readText_187 rfl rfl ?_
        refine sim_bipush (41 : Int32) d_X12_readText_188 rfl ?_
        refine sim_icmp_ne d_X12_readText_190 ?_ ?_
        ·
          refine sim_aload_n 0 d_X12_readText_252 rfl rfl ?_
          refine sim_iconst (1 : Int32) d_X12_readText_253 rfl ?_
          refine sim_putz d_X12_readText_254 fl_X12_275 ob_R_0 rfl (Or.inr rfl) ?_
          refine sim_nmM (fun M1 => ?_)
          exact sim_sub [0, 1] rfl (s_X12_readText_257 k27 hk27 x1 M1)
        ·
          refine sim_aload_n 0 d_X12_readText_193 rfl rfl ?_
          refine sim_iconst (1 : Int32) d_X12_readText_194 rfl ?_
          refine sim_callVv Y_X12_settle 1 [.int ((1 : Int32))] [] d_X12_readText_195 lk_X12_309 cv_X12_settle ob_R_0 rfl (by omega) (Nat.le_of_ble_eq_true rfl) (ct_X12_settle (1 : Int32) M) (fun M2 => ?_)
          refine sim_aload_n 0 d_X12_readText_198 rfl rfl ?_
          refine sim_callVi Y_X12_topSign 0 [] [] d_X12_readText_199 lk_X12_290 cv_X12_topSign ob_R_0 rfl (by omega) (Nat.le_of_ble_eq_true rfl) (ct_X12_topSign M2) (fun r1 M3 => ?_)
          refine sim_bipush (40 : Int32) d_X12_readText_202 rfl ?_
          refine sim_icmp_ne d_X12_readText_204 ?_ ?_
          ·
            refine sim_aload_n 0 d_X12_readText_244 rfl rfl ?_
            refine sim_iconst (1 : Int32) d_X12_readText_245 rfl ?_
            refine sim_putz d_X12_readText_246 fl_X12_275 ob_R_0 rfl (Or.inr rfl) ?_
            refine sim_nmM (fun M4 => ?_)
            refine sim_goto d_X12_readText_249 ?_
            exact sim_sub [0, 1] rfl (s_X12_readText_257 k27 hk27 x1 M4)
          ·
            refine sim_aload_n 0 d_X12_readText_207 rfl rfl ?_
            refine sim_dup d_X12_readText_208 rfl ?_
            refine sim_geti d_X12_readText_209 fl_X12_287 ob_R_0 rfl ?_
            refine sim_iconst (1 : Int32) d_X12_readText_212 rfl ?_
            refine sim_isub d_X12_readText_213 ?_
            refine sim_puti d_X12_readText_214 fl_X12_287 ob_R_0 rfl ?_
            refine sim_nmM (fun M5 => ?_)
            refine sim_aload_n 0 d_X12_readText_217 rfl rfl ?_
            refine sim_dup d_X12_readText_218 rfl ?_
            refine sim_geti d_X12_readText_219 fl_X12_296 ob_R_0 rfl ?_
            refine sim_iconst (1 : Int32) d_X12_readText_222 rfl ?_
            refine sim_isub d_X12_readText_223 ?_
            refine sim_puti d_X12_readText_224 fl_X12_296 ob_R_0 rfl ?_
            refine sim_nmM (fun M6 => ?_)
            refine sim_aload_n 0 d_X12_readText_227 rfl rfl ?_
            refine sim_dup d_X12_readText_228 rfl ?_
            refine sim_geti d_X12_readText_229 fl_X12_263 ob_R_0 rfl ?_
            refine sim_iconst (1 : Int32) d_X12_readText_232 rfl ?_
            refine sim_iadd d_X12_readText_233 ?_
            refine sim_puti d_X12_readText_234 fl_X12_263 ob_R_0 rfl ?_
            refine sim_nmM (fun M7 => ?_)
            refine sim_aload_n 0 d_X12_readText_237 rfl rfl ?_
            refine sim_callVv Y_X12_settleNots 1 [] [] d_X12_readText_238 lk_X12_306 cv_X12_settleNots ob_R_0 rfl (by omega) (Nat.le_of_ble_eq_true rfl) (ct_X12_settleNots M7) (fun M8 => ?_)
            refine sim_goto d_X12_readText_241 ?_
            exact sim_sub [0, 1] rfl (s_X12_readText_257 k27 hk27 x1 M8)
      ·
        refine sim_aload_n 0 d_X12_readText_172 rfl rfl ?_
        refine sim_iconst (1 : Int32) d_X12_readText_173 rfl ?_
        refine sim_callVv Y_X12_settle 1 [.int ((1 : Int32))] [] d_X12_readText_174 lk_X12_309 cv_X12_settle ob_R_0 rfl (by omega) (Nat.le_of_ble_eq_true rfl) (ct_X12_settle (1 : Int32) M) (fun M9 => ?_)
        refine sim_aload_n 0 d_X12_readText_177 rfl rfl ?_
        refine sim_iload_n 2 d_X12_readText_178 rfl rfl ?_
        refine sim_callVv Y_X12_wait 0 [.int (x2)] [] d_X12_readText_179 lk_X12_299 cv_X12_wait ob_R_0 rfl (by omega) (Nat.le_of_ble_eq_true rfl) (ct_X12_wait x2 M9) (fun M10 => ?_)
        refine sim_iconst (1 : Int32) d_X12_readText_182 rfl ?_
        refine sim_istore_n (L' := [(0, .ref 0), (2, .int (x2)), (1, .int ((1 : Int32)))]) d_X12_readText_183 rfl (Nat.le_of_ble_eq_true rfl) rfl ?_
        refine sim_goto d_X12_readText_184 ?_
        exact sim_sub [0, 2] rfl (s_X12_readText_257 k27 hk27 (1 : Int32) M10)
    ·
      refine sim_aload_n 0 d_X12_readText_151 rfl rfl ?_
      refine sim_iconst (0 : Int32) d_X12_readText_152 rfl ?_
      refine sim_callVv Y_X12_settle 1 [.int ((0 : Int32))] [] d_X12_readText_153 lk_X12_309 cv_X12_settle ob_R_0 rfl (by omega) (Nat.le_of_ble_eq_true rfl) (ct_X12_settle (0 : Int32) M) (fun M11 => ?_)
      refine sim_aload_n 0 d_X12_readText_156 rfl rfl ?_
      refine sim_iload_n 2 d_X12_readText_157 rfl rfl ?_
      refine sim_callVv Y_X12_wait 0 [.int (x2)] [] d_X12_readText_158 lk_X12_299 cv_X12_wait ob_R_0 rfl (by omega) (Nat.le_of_ble_eq_true rfl) (ct_X12_wait x2 M11) (fun M12 => ?_)
      refine sim_iconst (1 : Int32) d_X12_readText_161 rfl ?_
      refine sim_istore_n (L' := [(0, .ref 0), (2, .int (x2)), (1, .int ((1 : Int32)))]) d_X12_readText_162 rfl (Nat.le_of_ble_eq_true rfl) rfl ?_
      refine sim_goto d_X12_readText_163 ?_
      exact sim_sub [0, 2] rfl (s_X12_readText_257 k27 hk27 (1 : Int32) M12)
  ·
    refine sim_aload_n 0 d_X12_readText_113 rfl rfl ?_
    refine sim_geta d_X12_readText_114 fl_X12_89 ob_R_0 rfl ?_
    refine sim_aload_n 0 d_X12_readText_117 rfl rfl ?_
    refine sim_geti d_X12_readText_118 fl_X12_293 ob_R_0 rfl ?_
    refine sim_aload_n 0 d_X12_readText_121 rfl rfl ?_
    refine sim_callVi Y_X12_readPart 4 [] [.int (mI M 0 41), .ref 27] d_X12_readText_122 lk_X12_302 cv_X12_readPart ob_R_0 rfl (by omega) (Nat.le_of_ble_eq_true rfl) (ct_X12_readPart M) (fun r2 M13 => ?_)
    refine sim_zast d_X12_readText_125 ar_R_27 ?_
    refine sim_nmM (fun M14 => ?_)
    refine sim_aload_n 0 d_X12_readText_126 rfl rfl ?_
    refine sim_dup d_X12_readText_127 rfl ?_
    refine sim_geti d_X12_readText_128 fl_X12_293 ob_R_0 rfl ?_
    refine sim_iconst (1 : Int32) d_X12_readText_131 rfl ?_
    refine sim_iadd d_X12_readText_132 ?_
    refine sim_puti d_X12_readText_133 fl_X12_293 ob_R_0 rfl ?_
    refine sim_nmM (fun M15 => ?_)
    refine sim_iconst (0 : Int32) d_X12_readText_136 rfl ?_
    refine sim_istore_n (L' := [(0, .ref 0), (2, .int (x2)), (1, .int ((0 : Int32)))]) d_X12_readText_137 rfl (Nat.le_of_ble_eq_true rfl) rfl ?_
    refine sim_aload_n 0 d_X12_readText_138 rfl rfl ?_
    refine sim_callVv Y_X12_settleNots 1 [] [] d_X12_readText_139 lk_X12_306 cv_X12_settleNots ob_R_0 rfl (by omega) (Nat.le_of_ble_eq_true rfl) (ct_X12_settleNots M15) (fun M16 => ?_)
    refine sim_goto d_X12_readText_142 ?_
    exact sim_sub [0, 2] rfl (s_X12_readText_257 k27 hk27 (0 : Int32) M16)
def f_X12_readText_74 (k27 : Int32 → mm_M → Option (Int32 × mm_M)) (x1 : Int32) (x2 : Int32) (M : mm_M) : Option (Int32 × mm_M) :=
  if (mI M 0 42) = (6 : Int32) then
    mm_let (sI M 0 36 (1 : Int32)) (fun M3 =>
    f_X12_readText_257 k27 x1 M3)
  else
    mm_let (sI M 0 42 ((mI M 0 42) + (1 : Int32))) (fun M1 =>
    mm_bv (f_X12_wait x2 M1) (fun M2 =>
    f_X12_readText_257 k27 x1 M2))
theorem s_X12_readText_74 (k27 : Int32 → mm_M → Option (Int32 × mm_M)) (hk27 : ∀ (x1 : Int32) (M : mm_M), Sim sysR Y_X12_readText 5 27 [(0, .ref 0), (1, .int (x1))] [] M mm_fI (k27 x1 M)) (x1 : Int32) (x2 : Int32) (M : mm_M) : Sim sysR Y_X12_readText 5 74 [(0, .ref 0), (1, .int (x1)), (2, .int (x2))] [] M mm_fI (f_X12_readText_74 k27 x1 x2 M) := by
  unfold f_X12_readText_74
  refine sim_aload_n 0 d_X12_readText_74 rfl rfl ?_
  refine sim_geti d_X12_readText_75 fl_X12_296 ob_R_0 rfl ?_
  refine sim_bipush (6 : Int32) d_X12_readText_78 rfl ?_
  refine sim_icmp_ne d_X12_readText_80 ?_ ?_
  ·
    refine sim_aload_n 0 d_X12_readText_91 rfl rfl ?_
    refine sim_dup d_X12_readText_92 rfl ?_
    refine sim_geti d_X12_readText_93 fl_X12_296 ob_R_0 rfl ?_
    refine sim_iconst (1 : Int32) d_X12_readText_96 rfl ?_
    refine sim_iadd d_X12_readText_97 ?_
    refine sim_puti d_X12_readText_98 fl_X12_296 ob_R_0 rfl ?_
    refine sim_nmM (fun M1 => ?_)
    refine sim_aload_n 0 d_X12_readText_101 rfl rfl ?_
    refine sim_iload_n 2 d_X12_readText_102 rfl rfl ?_
    refine sim_callVv Y_X12_wait 0 [.int (x2)] [] d_X12_readText_103 lk_X12_299 cv_X12_wait ob_R_0 rfl (by omega) (Nat.le_of_ble_eq_true rfl) (ct_X12_wait x2 M1) (fun M2 => ?_)
    refine sim_goto d_X12_readText_106 ?_
    exact sim_sub [0, 1] rfl (s_X12_readText_257 k27 hk27 x1 M2)
  ·
    refine sim_aload_n 0 d_X12_readText_83 rfl rfl ?_
    refine sim_iconst (1 : Int32) d_X12_readText_84 rfl ?_
    refine sim_putz d_X12_readText_85 fl_X12_275 ob_R_0 rfl (Or.inr rfl) ?_
    refine sim_nmM (fun M3 => ?_)
    refine sim_goto d_X12_readText_88 ?_
    exact sim_sub [0, 1] rfl (s_X12_readText_257 k27 hk27 x1 M3)
def f_X12_readText_49 (k27 : Int32 → mm_M → Option (Int32 × mm_M)) (x1 : Int32) (M : mm_M) : Option (Int32 × mm_M) :=
  mm_bi (f_X12_byteAt (mI M 0 35) M) (fun r1 M1 =>
  if x1 = 0 then
    f_X12_readText_109 k27 x1 r1 M1
  else
    if r1 = (33 : Int32) then
      f_X12_readText_74 k27 x1 r1 M1
    else
      if r1 = (40 : Int32) then
        f_X12_readText_74 k27 x1 r1 M1
      else
        f_X12_readText_109 k27 x1 r1 M1)
theorem s_X12_readText_49 (k27 : Int32 → mm_M → Option (Int32 × mm_M)) (hk27 : ∀ (x1 : Int32) (M : mm_M), Sim sysR Y_X12_readText 5 27 [(0, .ref 0), (1, .int (x1))] [] M mm_fI (k27 x1 M)) (x1 : Int32) (M : mm_M) : Sim sysR Y_X12_readText 5 49 [(0, .ref 0), (1, .int (x1))] [] M mm_fI (f_X12_readText_49 k27 x1 M) := by
  unfold f_X12_readText_49
  refine sim_aload_n 0 d_X12_readText_49 rfl rfl ?_
  refine sim_aload_n 0 d_X12_readText_50 rfl rfl ?_
  refine sim_geti d_X12_readText_51 fl_X12_263 ob_R_0 rfl ?_
  refine sim_callVi Y_X12_byteAt 0 [.int (mI M 0 35)] [] d_X12_readText_54 lk_X12_266 cv_X12_byteAt ob_R_0 rfl (by omega) (Nat.le_of_ble_eq_true rfl) (ct_X12_byteAt (mI M 0 35) M) (fun r1 M1 => ?_)
  refine sim_istore_n (L' := [(0, .ref 0), (1, .int (x1)), (2, .int (r1))]) d_X12_readText_57 rfl (Nat.le_of_ble_eq_true rfl) rfl ?_
  refine sim_iload_n 1 d_X12_readText_58 rfl rfl ?_
  refine sim_if_eq d_X12_readText_59 ?_ ?_
  ·
    exact sim_sub [0, 1, 2] rfl (s_X12_readText_109 k27 hk27 x1 r1 M1)
  ·
    refine sim_iload_n 2 d_X12_readText_62 rfl rfl ?_
    refine sim_bipush (33 : Int32) d_X12_readText_63 rfl ?_
    refine sim_icmp_eq d_X12_readText_65 ?_ ?_
    ·
      exact sim_sub [0, 1, 2] rfl (s_X12_readText_74 k27 hk27 x1 r1 M1)
    ·
      refine sim_iload_n 2 d_X12_readText_68 rfl rfl ?_
      refine sim_bipush (40 : Int32) d_X12_readText_69 rfl ?_
      refine sim_icmp_ne d_X12_readText_71 ?_ ?_
      ·
        exact sim_sub [0, 1, 2] rfl (s_X12_readText_109 k27 hk27 x1 r1 M1)
      ·
        exact sim_sub [0, 1, 2] rfl (s_X12_readText_74 k27 hk27 x1 r1 M1)
def f_X12_readText_27 (k260 : mm_M → Option (Int32 × mm_M)) : Nat → Int32 → mm_M → Option (Int32 × mm_M)
  | 0, _, _ => none
  | n + 1, x1, M =>
  if (mI M 0 36) = 0 then
    if x1 = 0 then
      if (mI M 0 34) ≤ (mI M 0 35) then
        k260 M
      else
        f_X12_readText_49 (f_X12_readText_27 k260 n) x1 M
    else
      f_X12_readText_49 (f_X12_readText_27 k260 n) x1 M
  else
    k260 M
theorem s_X12_readText_27 (k260 : mm_M → Option (Int32 × mm_M)) (hk260 : ∀  (M : mm_M), Sim sysR Y_X12_readText 5 260 [(0, .ref 0)] [] M mm_fI (k260 M)) (n : Nat) : ∀ (x1 : Int32) (M : mm_M), Sim sysR Y_X12_readText 5 27 [(0, .ref 0), (1, .int (x1))] [] M mm_fI (f_X12_readText_27 k260 n x1 M) := by
  induction n with
  | zero => intros; exact sim_none
  | succ n ih =>
    intro x1 M
    rw [f_X12_readText_27]
    refine sim_aload_n 0 d_X12_readText_27 rfl rfl ?_
    refine sim_getz d_X12_readText_28 fl_X12_275 ob_R_0 rfl ?_
    refine sim_if_ne d_X12_readText_31 ?_ ?_
    ·
      exact sim_sub [0] rfl (hk260 M)
    ·
      refine sim_iload_n 1 d_X12_readText_34 rfl rfl ?_
      refine sim_if_ne d_X12_readText_35 ?_ ?_
      ·
        exact sim_sub [0, 1] rfl (s_X12_readText_49 (f_X12_readText_27 k260 n) ih x1 M)
      ·
        refine sim_aload_n 0 d_X12_readText_38 rfl rfl ?_
        refine sim_geti d_X12_readText_39 fl_X12_263 ob_R_0 rfl ?_
        refine sim_aload_n 0 d_X12_readText_42 rfl rfl ?_
        refine sim_geti d_X12_readText_43 fl_X12_260 ob_R_0 rfl ?_
        refine sim_icmp_ge d_X12_readText_46 ?_ ?_
        ·
          exact sim_sub [0] rfl (hk260 M)
        ·
          exact sim_sub [0, 1] rfl (s_X12_readText_49 (f_X12_readText_27 k260 n) ih x1 M)
def f_X12_readText_288 (M : mm_M) : Option (Int32 × mm_M) :=
  if (mI M 0 36) = 0 then
    mm_ck (0 : Int32) 100 (
    if (mI M 27 (0 : Int32).toNatClampNeg) = 0 then
      some ((0 : Int32), M)
    else
      some ((1 : Int32), M))
  else
    some ((0 : Int32), M)
theorem s_X12_readText_288 (M : mm_M) : Sim sysR Y_X12_readText 5 288 [(0, .ref 0)] [] M mm_fI (f_X12_readText_288 M) := by
  unfold f_X12_readText_288
  refine sim_aload_n 0 d_X12_readText_288 rfl rfl ?_
  refine sim_getz d_X12_readText_289 fl_X12_275 ob_R_0 rfl ?_
  refine sim_if_ne d_X12_readText_292 ?_ ?_
  ·
    refine sim_iconst (0 : Int32) d_X12_readText_308 rfl ?_
    exact sim_zret d_X12_readText_309 rfl rfl
  ·
    refine sim_aload_n 0 d_X12_readText_295 rfl rfl ?_
    refine sim_geta d_X12_readText_296 fl_X12_89 ob_R_0 rfl ?_
    refine sim_iconst (0 : Int32) d_X12_readText_299 rfl ?_
    refine sim_zald d_X12_readText_300 ar_R_27 ?_
    refine sim_if_eq d_X12_readText_301 ?_ ?_
    ·
      refine sim_iconst (0 : Int32) d_X12_readText_308 rfl ?_
      exact sim_zret d_X12_readText_309 rfl rfl
    ·
      refine sim_iconst (1 : Int32) d_X12_readText_304 rfl ?_
      refine sim_goto d_X12_readText_305 ?_
      exact sim_zret d_X12_readText_309 rfl rfl
def f_X12_readText_285 (t1 : Int32) (M : mm_M) : Option (Int32 × mm_M) :=
  mm_bz t1 (
  mm_let (sI M 0 36 t1) (fun M1 =>
  f_X12_readText_288 M1))
theorem s_X12_readText_285 (t1 : Int32) (M : mm_M) : Sim sysR Y_X12_readText 5 285 [(0, .ref 0)] [.int (t1), .ref 0] M mm_fI (f_X12_readText_285 t1 M) := by
  unfold f_X12_readText_285
  refine sim_putzb d_X12_readText_285 fl_X12_275 ob_R_0 rfl ?_
  refine sim_nmM (fun M1 => ?_)
  exact sim_sub [0] rfl (s_X12_readText_288 M1)
def f_X12_readText_260 (M : mm_M) : Option (Int32 × mm_M) :=
  if (mI M 0 36) = 0 then
    mm_bv (f_X12_settle (1 : Int32) M) (fun M1 =>
    if (mI M1 0 39) ≤ 0 then
      f_X12_readText_285 (0 : Int32) M1
    else
      f_X12_readText_285 (1 : Int32) M1)
  else
    f_X12_readText_288 M
theorem s_X12_readText_260 (M : mm_M) : Sim sysR Y_X12_readText 5 260 [(0, .ref 0)] [] M mm_fI (f_X12_readText_260 M) := by
  unfold f_X12_readText_260
  refine sim_aload_n 0 d_X12_readText_260 rfl rfl ?_
  refine sim_getz d_X12_readText_261 fl_X12_275 ob_R_0 rfl ?_
  refine sim_if_ne d_X12_readText_264 ?_ ?_
  ·
    exact sim_sub [0] rfl (s_X12_readText_288 M)
  ·
    refine sim_aload_n 0 d_X12_readText_267 rfl rfl ?_
    refine sim_iconst (1 : Int32) d_X12_readText_268 rfl ?_
    refine sim_callVv Y_X12_settle 1 [.int ((1 : Int32))] [] d_X12_readText_269 lk_X12_309 cv_X12_settle ob_R_0 rfl (by omega) (Nat.le_of_ble_eq_true rfl) (ct_X12_settle (1 : Int32) M) (fun M1 => ?_)
    refine sim_aload_n 0 d_X12_readText_272 rfl rfl ?_
    refine sim_aload_n 0 d_X12_readText_273 rfl rfl ?_
    refine sim_geti d_X12_readText_274 fl_X12_287 ob_R_0 rfl ?_
    refine sim_if_le d_X12_readText_277 ?_ ?_
    ·
      refine sim_iconst (0 : Int32) d_X12_readText_284 rfl ?_
      exact sim_sub [0] rfl (s_X12_readText_285 (0 : Int32) M1)
    ·
      refine sim_iconst (1 : Int32) d_X12_readText_280 rfl ?_
      refine sim_goto d_X12_readText_281 ?_
      exact sim_sub [0] rfl (s_X12_readText_285 (1 : Int32) M1)
def f_X12_readText (M : mm_M) : Option (Int32 × mm_M) :=
  mm_let (sI M 0 35 (0 : Int32)) (fun M1 =>
  mm_let (sI M1 0 36 (0 : Int32)) (fun M2 =>
  mm_let (sI M2 0 39 (0 : Int32)) (fun M3 =>
  mm_let (sI M3 0 41 (0 : Int32)) (fun M4 =>
  mm_let (sI M4 0 42 (0 : Int32)) (fun M5 =>
  f_X12_readText_27 f_X12_readText_260 mm_fu (1 : Int32) M5)))))
theorem s_X12_readText (M : mm_M) : Sim sysR Y_X12_readText 5 0 [(0, .ref 0)] [] M mm_fI (f_X12_readText M) := by
  unfold f_X12_readText
  refine sim_aload_n 0 d_X12_readText_0 rfl rfl ?_
  refine sim_iconst (0 : Int32) d_X12_readText_1 rfl ?_
  refine sim_puti d_X12_readText_2 fl_X12_263 ob_R_0 rfl ?_
  refine sim_nmM (fun M1 => ?_)
  refine sim_aload_n 0 d_X12_readText_5 rfl rfl ?_
  refine sim_iconst (0 : Int32) d_X12_readText_6 rfl ?_
  refine sim_putz d_X12_readText_7 fl_X12_275 ob_R_0 rfl (Or.inl rfl) ?_
  refine sim_nmM (fun M2 => ?_)
  refine sim_aload_n 0 d_X12_readText_10 rfl rfl ?_
  refine sim_iconst (0 : Int32) d_X12_readText_11 rfl ?_
  refine sim_puti d_X12_readText_12 fl_X12_287 ob_R_0 rfl ?_
  refine sim_nmM (fun M3 => ?_)
  refine sim_aload_n 0 d_X12_readText_15 rfl rfl ?_
  refine sim_iconst (0 : Int32) d_X12_readText_16 rfl ?_
  refine sim_puti d_X12_readText_17 fl_X12_293 ob_R_0 rfl ?_
  refine sim_nmM (fun M4 => ?_)
  refine sim_aload_n 0 d_X12_readText_20 rfl rfl ?_
  refine sim_iconst (0 : Int32) d_X12_readText_21 rfl ?_
  refine sim_puti d_X12_readText_22 fl_X12_296 ob_R_0 rfl ?_
  refine sim_nmM (fun M5 => ?_)
  refine sim_iconst (1 : Int32) d_X12_readText_25 rfl ?_
  refine sim_istore_n (L' := [(0, .ref 0), (1, .int ((1 : Int32)))]) d_X12_readText_26 rfl (Nat.le_of_ble_eq_true rfl) rfl ?_
  exact sim_sub [0, 1] rfl (s_X12_readText_27 f_X12_readText_260 s_X12_readText_260 mm_fu (1 : Int32) M5)
theorem ct_X12_readText (M : mm_M) : Ct sysR Y_X12_readText 5 [.ref 0] M mm_fI (f_X12_readText M) :=
  ct_of_sim (by decide) rfl (Nat.le_of_ble_eq_true rfl) (s_X12_readText M)
def f_X12_holds_12 (k43 : mm_M → Option (Int32 × mm_M)) : Nat → Int32 → Int32 → mm_M → Option (Int32 × mm_M)
  | 0, _, _, _ => none
  | n + 1, x1, x2, M =>
  if (mI M 0 34) ≤ x2 then
    k43 M
  else
    mm_ck (((80 : Int32) * x1) + x2) 1600 (
    mm_ck x2 80 (
    mm_let (sI M 24 x2.toNatClampNeg (mI M 22 (((80 : Int32) * x1) + x2).toNatClampNeg)) (fun M1 =>
    f_X12_holds_12 k43 n x1 (x2 + (1 : Int32)) M1)))
theorem s_X12_holds_12 (k43 : mm_M → Option (Int32 × mm_M)) (hk43 : ∀  (M : mm_M), Sim sysR Y_X12_holds 6 43 [(0, .ref 0)] [] M mm_fI (k43 M)) (n : Nat) : ∀ (x1 : Int32) (x2 : Int32) (M : mm_M), Sim sysR Y_X12_holds 6 12 [(0, .ref 0), (1, .int (x1)), (2, .int (x2))] [] M mm_fI (f_X12_holds_12 k43 n x1 x2 M) := by
  induction n with
  | zero => intros; exact sim_none
  | succ n ih =>
    intro x1 x2 M
    rw [f_X12_holds_12]
    refine sim_iload_n 2 d_X12_holds_12 rfl rfl ?_
    refine sim_aload_n 0 d_X12_holds_13 rfl rfl ?_
    refine sim_geti d_X12_holds_14 fl_X12_260 ob_R_0 rfl ?_
    refine sim_icmp_ge d_X12_holds_17 ?_ ?_
    ·
      exact sim_sub [0] rfl (hk43 M)
    ·
      refine sim_aload_n 0 d_X12_holds_20 rfl rfl ?_
      refine sim_geta d_X12_holds_21 fl_X12_80 ob_R_0 rfl ?_
      refine sim_iload_n 2 d_X12_holds_24 rfl rfl ?_
      refine sim_aload_n 0 d_X12_holds_25 rfl rfl ?_
      refine sim_geta d_X12_holds_26 fl_X12_74 ob_R_0 rfl ?_
      refine sim_bipush (80 : Int32) d_X12_holds_29 rfl ?_
      refine sim_iload_n 1 d_X12_holds_31 rfl rfl ?_
      refine sim_imul d_X12_holds_32 ?_
      refine sim_iload_n 2 d_X12_holds_33 rfl rfl ?_
      refine sim_iadd d_X12_holds_34 ?_
      refine sim_iald d_X12_holds_35 ar_R_22 ?_
      refine sim_iast d_X12_holds_36 ar_R_24 ?_
      refine sim_nmM (fun M1 => ?_)
      refine sim_iinc (v := x2 + (1 : Int32)) (L' := [(0, .ref 0), (1, .int (x1)), (2, .int (x2 + (1 : Int32)))]) 2 d_X12_holds_37 (Nat.le_of_ble_eq_true rfl) rfl rfl rfl ?_
      refine sim_goto d_X12_holds_40 ?_
      exact sim_sub [0, 1, 2] rfl (ih x1 (x2 + (1 : Int32)) M1)
def f_X12_holds_43 (M : mm_M) : Option (Int32 × mm_M) :=
  mm_bi (f_X12_readText M) (fun r1 M1 =>
  mm_bz r1 (some (r1, M1)))
theorem s_X12_holds_43 (M : mm_M) : Sim sysR Y_X12_holds 6 43 [(0, .ref 0)] [] M mm_fI (f_X12_holds_43 M) := by
  unfold f_X12_holds_43
  refine sim_aload_n 0 d_X12_holds_43 rfl rfl ?_
  refine sim_callVi Y_X12_readText 5 [] [] d_X12_holds_44 lk_X12_316 cv_X12_readText ob_R_0 rfl (by omega) (Nat.le_of_ble_eq_true rfl) (ct_X12_readText M) (fun r1 M1 => ?_)
  exact sim_zretb d_X12_holds_47 rfl
def f_X12_holds (a1 : Int32) (M : mm_M) : Option (Int32 × mm_M) :=
  mm_ck a1 20 (
  mm_let (sI M 0 34 (mI M 23 a1.toNatClampNeg)) (fun M1 =>
  f_X12_holds_12 f_X12_holds_43 mm_fu a1 (0 : Int32) M1))
theorem s_X12_holds (a1 : Int32) (M : mm_M) : Sim sysR Y_X12_holds 6 0 [(0, .ref 0), (1, .int (a1))] [] M mm_fI (f_X12_holds a1 M) := by
  unfold f_X12_holds
  refine sim_aload_n 0 d_X12_holds_0 rfl rfl ?_
  refine sim_aload_n 0 d_X12_holds_1 rfl rfl ?_
  refine sim_geta d_X12_holds_2 fl_X12_77 ob_R_0 rfl ?_
  refine sim_iload_n 1 d_X12_holds_5 rfl rfl ?_
  refine sim_iald d_X12_holds_6 ar_R_23 ?_
  refine sim_puti d_X12_holds_7 fl_X12_260 ob_R_0 rfl ?_
  refine sim_nmM (fun M1 => ?_)
  refine sim_iconst (0 : Int32) d_X12_holds_10 rfl ?_
  refine sim_istore_n (L' := [(0, .ref 0), (1, .int (a1)), (2, .int ((0 : Int32)))]) d_X12_holds_11 rfl (Nat.le_of_ble_eq_true rfl) rfl ?_
  exact sim_sub [0, 1, 2] rfl (s_X12_holds_12 f_X12_holds_43 s_X12_holds_43 mm_fu a1 (0 : Int32) M1)
theorem ct_X12_holds (a1 : Int32) (M : mm_M) : Ct sysR Y_X12_holds 6 [.ref 0, .int (a1)] M mm_fI (f_X12_holds a1 M) :=
  ct_of_sim (by decide) rfl (Nat.le_of_ble_eq_true rfl) (s_X12_holds a1 M)
def f_X12_ruleOn_62 (k5 : Int32 → Int32 → Int32 → Int32 → mm_M → Option (Int32 × mm_M)) (x1 : Int32) (x2 : Int32) (x4 : Int32) (t0 : Int32) (M : mm_M) : Option (Int32 × mm_M) :=
  k5 x1 x2 t0 (x4 + (1 : Int32)) M
theorem s_X12_ruleOn_62 (k5 : Int32 → Int32 → Int32 → Int32 → mm_M → Option (Int32 × mm_M)) (hk5 : ∀ (x1 : Int32) (x2 : Int32) (x3 : Int32) (x4 : Int32) (M : mm_M), Sim sysR Y_X12_ruleOn 0 5 [(0, .ref 0), (1, .int (x1)), (2, .int (x2)), (3, .int (x3)), (4, .int (x4))] [] M mm_fI (k5 x1 x2 x3 x4 M)) (x1 : Int32) (x2 : Int32) (x4 : Int32) (t0 : Int32) (M : mm_M) : Sim sysR Y_X12_ruleOn 0 62 [(0, .ref 0), (1, .int (x1)), (2, .int (x2)), (4, .int (x4))] [.int (t0)] M mm_fI (f_X12_ruleOn_62 k5 x1 x2 x4 t0 M) := by
  unfold f_X12_ruleOn_62
  refine sim_istore_n (L' := [(0, .ref 0), (1, .int (x1)), (2, .int (x2)), (4, .int (x4)), (3, .int (t0))]) d_X12_ruleOn_62 rfl (Nat.le_of_ble_eq_true rfl) rfl ?_
  refine sim_iinc (v := x4 + (1 : Int32)) (L' := [(0, .ref 0), (1, .int (x1)), (2, .int (x2)), (3, .int (t0)), (4, .int (x4 + (1 : Int32)))]) 3 d_X12_ruleOn_63 (Nat.le_of_ble_eq_true rfl) rfl rfl rfl ?_
  refine sim_goto d_X12_ruleOn_66 ?_
  exact sim_sub [0, 1, 2, 3, 4] rfl (hk5 x1 x2 t0 (x4 + (1 : Int32)) M)
def f_X12_ruleOn_61 (k5 : Int32 → Int32 → Int32 → Int32 → mm_M → Option (Int32 × mm_M)) (x1 : Int32) (x2 : Int32) (x3 : Int32) (x4 : Int32) (M : mm_M) : Option (Int32 × mm_M) :=
  f_X12_ruleOn_62 k5 x1 x2 x4 x3 M
theorem s_X12_ruleOn_61 (k5 : Int32 → Int32 → Int32 → Int32 → mm_M → Option (Int32 × mm_M)) (hk5 : ∀ (x1 : Int32) (x2 : Int32) (x3 : Int32) (x4 : Int32) (M : mm_M), Sim sysR Y_X12_ruleOn 0 5 [(0, .ref 0), (1, .int (x1)), (2, .int (x2)), (3, .int (x3)), (4, .int (x4))] [] M mm_fI (k5 x1 x2 x3 x4 M)) (x1 : Int32) (x2 : Int32) (x3 : Int32) (x4 : Int32) (M : mm_M) : Sim sysR Y_X12_ruleOn 0 61 [(0, .ref 0), (1, .int (x1)), (2, .int (x2)), (3, .int (x3)), (4, .int (x4))] [] M mm_fI (f_X12_ruleOn_61 k5 x1 x2 x3 x4 M) := by
  unfold f_X12_ruleOn_61
  refine sim_iload_n 3 d_X12_ruleOn_61 rfl rfl ?_
  exact sim_sub [0, 1, 2, 4] rfl (s_X12_ruleOn_62 k5 hk5 x1 x2 x4 x3 M)
def f_X12_ruleOn_56 (k5 : Int32 → Int32 → Int32 → Int32 → mm_M → Option (Int32 × mm_M)) (x1 : Int32) (x2 : Int32) (x4 : Int32) (M : mm_M) : Option (Int32 × mm_M) :=
  f_X12_ruleOn_62 k5 x1 x2 x4 x4 M
theorem s_X12_ruleOn_56 (k5 : Int32 → Int32 → Int32 → Int32 → mm_M → Option (Int32 × mm_M)) (hk5 : ∀ (x1 : Int32) (x2 : Int32) (x3 : Int32) (x4 : Int32) (M : mm_M), Sim sysR Y_X12_ruleOn 0 5 [(0, .ref 0), (1, .int (x1)), (2, .int (x2)), (3, .int (x3)), (4, .int (x4))] [] M mm_fI (k5 x1 x2 x3 x4 M)) (x1 : Int32) (x2 : Int32) (x4 : Int32) (M : mm_M) : Sim sysR Y_X12_ruleOn 0 56 [(0, .ref 0), (1, .int (x1)), (2, .int (x2)), (4, .int (x4))] [] M mm_fI (f_X12_ruleOn_56 k5 x1 x2 x4 M) := by
  unfold f_X12_ruleOn_56
  refine sim_iload 3 d_X12_ruleOn_56 rfl ?_
  refine sim_goto d_X12_ruleOn_58 ?_
  exact sim_sub [0, 1, 2, 3] rfl (s_X12_ruleOn_62 k5 hk5 x1 x2 x4 x4 M)
def f_X12_ruleOn_5 : Nat → Int32 → Int32 → Int32 → Int32 → mm_M → Option (Int32 × mm_M)
  | 0, _, _, _, _, _ => none
  | n + 1, x1, x2, x3, x4, M =>
  if (mI M 0 28) ≤ x4 then
    some (x3, M)
  else
    mm_ck x4 20 (
    if (mI M 20 x4.toNatClampNeg) = x1 then
      mm_ck x4 20 (
      if x2 < (mI M 21 x4.toNatClampNeg) then
        f_X12_ruleOn_61 (f_X12_ruleOn_5 n) x1 x2 x3 x4 M
      else
        if x3 < 0 then
          f_X12_ruleOn_56 (f_X12_ruleOn_5 n) x1 x2 x4 M
        else
          mm_ck x4 20 (
          mm_ck x3 20 (
          if (mI M 21 x4.toNatClampNeg) < (mI M 21 x3.toNatClampNeg) then
            f_X12_ruleOn_61 (f_X12_ruleOn_5 n) x1 x2 x3 x4 M
          else
            f_X12_ruleOn_56 (f_X12_ruleOn_5 n) x1 x2 x4 M)))
    else
      f_X12_ruleOn_61 (f_X12_ruleOn_5 n) x1 x2 x3 x4 M)
theorem s_X12_ruleOn_5 (n : Nat) : ∀ (x1 : Int32) (x2 : Int32) (x3 : Int32) (x4 : Int32) (M : mm_M), Sim sysR Y_X12_ruleOn 0 5 [(0, .ref 0), (1, .int (x1)), (2, .int (x2)), (3, .int (x3)), (4, .int (x4))] [] M mm_fI (f_X12_ruleOn_5 n x1 x2 x3 x4 M) := by
  induction n with
  | zero => intros; exact sim_none
  | succ n ih =>
    intro x1 x2 x3 x4 M
    rw [f_X12_ruleOn_5]
    refine sim_iload 4 d_X12_ruleOn_5 rfl ?_
    refine sim_aload_n 0 d_X12_ruleOn_7 rfl rfl ?_
    refine sim_geti d_X12_ruleOn_8 fl_X12_313 ob_R_0 rfl ?_
    refine sim_icmp_ge d_X12_ruleOn_11 ?_ ?_
    ·
      refine sim_iload_n 3 d_X12_ruleOn_69 rfl rfl ?_
      exact sim_iret d_X12_ruleOn_70 rfl
    ·
      refine sim_aload_n 0 d_X12_ruleOn_14 rfl rfl ?_
      refine sim_geta d_X12_ruleOn_15 fl_X12_68 ob_R_0 rfl ?_
      refine sim_iload 4 d_X12_ruleOn_18 rfl ?_
      refine sim_iald d_X12_ruleOn_20 ar_R_20 ?_
      refine sim_iload_n 1 d_X12_ruleOn_21 rfl rfl ?_
      refine sim_icmp_ne d_X12_ruleOn_22 ?_ ?_
      ·
        exact sim_sub [0, 1, 2, 3, 4] rfl (s_X12_ruleOn_61 (f_X12_ruleOn_5 n) ih x1 x2 x3 x4 M)
      ·
        refine sim_aload_n 0 d_X12_ruleOn_25 rfl rfl ?_
        refine sim_geta d_X12_ruleOn_26 fl_X12_71 ob_R_0 rfl ?_
        refine sim_iload 4 d_X12_ruleOn_29 rfl ?_
        refine sim_iald d_X12_ruleOn_31 ar_R_21 ?_
        refine sim_iload_n 2 d_X12_ruleOn_32 rfl rfl ?_
        refine sim_icmp_gt d_X12_ruleOn_33 ?_ ?_
        ·
          exact sim_sub [0, 1, 2, 3, 4] rfl (s_X12_ruleOn_61 (f_X12_ruleOn_5 n) ih x1 x2 x3 x4 M)
        ·
          refine sim_iload_n 3 d_X12_ruleOn_36 rfl rfl ?_
          refine sim_if_lt d_X12_ruleOn_37 ?_ ?_
          ·
            exact sim_sub [0, 1, 2, 4] rfl (s_X12_ruleOn_56 (f_X12_ruleOn_5 n) ih x1 x2 x4 M)
          ·
            refine sim_aload_n 0 d_X12_ruleOn_40 rfl rfl ?_
            refine sim_geta d_X12_ruleOn_41 fl_X12_71 ob_R_0 rfl ?_
            refine sim_iload 4 d_X12_ruleOn_44 rfl ?_
            refine sim_iald d_X12_ruleOn_46 ar_R_21 ?_
            refine sim_aload_n 0 d_X12_ruleOn_47 rfl rfl ?_
            refine sim_geta d_X12_ruleOn_48 fl_X12_71 ob_R_0 rfl ?_
            refine sim_iload_n 3 d_X12_ruleOn_51 rfl rfl ?_
            refine sim_iald d_X12_ruleOn_52 ar_R_21 ?_
            refine sim_icmp_lt d_X12_ruleOn_53 ?_ ?_
            ·
              exact sim_sub [0, 1, 2, 3, 4] rfl (s_X12_ruleOn_61 (f_X12_ruleOn_5 n) ih x1 x2 x3 x4 M)
            ·
              exact sim_sub [0, 1, 2, 4] rfl (s_X12_ruleOn_56 (f_X12_ruleOn_5 n) ih x1 x2 x4 M)
def f_X12_ruleOn (a1 : Int32) (a2 : Int32) (M : mm_M) : Option (Int32 × mm_M) :=
  f_X12_ruleOn_5 mm_fu a1 a2 (-1 : Int32) (0 : Int32) M
theorem s_X12_ruleOn (a1 : Int32) (a2 : Int32) (M : mm_M) : Sim sysR Y_X12_ruleOn 0 0 [(0, .ref 0), (1, .int (a1)), (2, .int (a2))] [] M mm_fI (f_X12_ruleOn a1 a2 M) := by
  unfold f_X12_ruleOn
  refine sim_iconst (-1 : Int32) d_X12_ruleOn_0 rfl ?_
  refine sim_istore_n (L' := [(0, .ref 0), (1, .int (a1)), (2, .int (a2)), (3, .int ((-1 : Int32)))]) d_X12_ruleOn_1 rfl (Nat.le_of_ble_eq_true rfl) rfl ?_
  refine sim_iconst (0 : Int32) d_X12_ruleOn_2 rfl ?_
  refine sim_istore (L' := [(0, .ref 0), (1, .int (a1)), (2, .int (a2)), (3, .int ((-1 : Int32))), (4, .int ((0 : Int32)))]) d_X12_ruleOn_3 (Nat.le_of_ble_eq_true rfl) rfl ?_
  exact sim_sub [0, 1, 2, 3, 4] rfl (s_X12_ruleOn_5 mm_fu a1 a2 (-1 : Int32) (0 : Int32) M)
theorem ct_X12_ruleOn (a1 : Int32) (a2 : Int32) (M : mm_M) : Ct sysR Y_X12_ruleOn 0 [.ref 0, .int (a1), .int (a2)] M mm_fI (f_X12_ruleOn a1 a2 M) :=
  ct_of_sim (by decide) rfl (Nat.le_of_ble_eq_true rfl) (s_X12_ruleOn a1 a2 M)
def f_X12_findFacts_71 (k21 : Int32 → Int32 → Int32 → Int32 → Int32 → Int32 → mm_M → Option (mm_M)) (x1 : Int32) (x2 : Int32) (x3 : Int32) (x4 : Int32) (x6 : Int32) (t0 : Int32) (t1 : Int32) (M : mm_M) : Option (mm_M) :=
  mm_let (t0 + t1) (fun v1 =>
  k21 x1 x2 x3 x4 v1 (x6 + (1 : Int32)) M)
theorem s_X12_findFacts_71 (k21 : Int32 → Int32 → Int32 → Int32 → Int32 → Int32 → mm_M → Option (mm_M)) (hk21 : ∀ (x1 : Int32) (x2 : Int32) (x3 : Int32) (x4 : Int32) (x5 : Int32) (x6 : Int32) (M : mm_M), Sim sysR Y_X12_findFacts 2 21 [(0, .ref 0), (1, .int (x1)), (2, .int (x2)), (3, .int (x3)), (4, .int (x4)), (5, .int (x5)), (6, .int (x6))] [] M mm_fV (k21 x1 x2 x3 x4 x5 x6 M)) (x1 : Int32) (x2 : Int32) (x3 : Int32) (x4 : Int32) (x6 : Int32) (t0 : Int32) (t1 : Int32) (M : mm_M) : Sim sysR Y_X12_findFacts 2 71 [(0, .ref 0), (1, .int (x1)), (2, .int (x2)), (3, .int (x3)), (4, .int (x4)), (6, .int (x6))] [.int (t1), .int (t0)] M mm_fV (f_X12_findFacts_71 k21 x1 x2 x3 x4 x6 t0 t1 M) := by
  unfold f_X12_findFacts_71
  refine sim_iadd d_X12_findFacts_71 ?_
  refine sim_nmi (fun v1 => ?_)
  refine sim_istore (L' := [(0, .ref 0), (1, .int (x1)), (2, .int (x2)), (3, .int (x3)), (4, .int (x4)), (6, .int (x6)), (5, .int (v1))]) d_X12_findFacts_72 (Nat.le_of_ble_eq_true rfl) rfl ?_
  refine sim_iinc (v := x6 + (1 : Int32)) (L' := [(0, .ref 0), (1, .int (x1)), (2, .int (x2)), (3, .int (x3)), (4, .int (x4)), (5, .int (v1)), (6, .int (x6 + (1 : Int32)))]) 5 d_X12_findFacts_74 (Nat.le_of_ble_eq_true rfl) rfl rfl rfl ?_
  refine sim_goto d_X12_findFacts_77 ?_
  exact sim_sub [0, 1, 2, 3, 4, 5, 6] rfl (hk21 x1 x2 x3 x4 v1 (x6 + (1 : Int32)) M)
def f_X12_findFacts_70 (k21 : Int32 → Int32 → Int32 → Int32 → Int32 → Int32 → mm_M → Option (mm_M)) (x1 : Int32) (x2 : Int32) (x3 : Int32) (x4 : Int32) (x6 : Int32) (t0 : Int32) (M : mm_M) : Option (mm_M) :=
  f_X12_findFacts_71 k21 x1 x2 x3 x4 x6 t0 (0 : Int32) M
theorem s_X12_findFacts_70 (k21 : Int32 → Int32 → Int32 → Int32 → Int32 → Int32 → mm_M → Option (mm_M)) (hk21 : ∀ (x1 : Int32) (x2 : Int32) (x3 : Int32) (x4 : Int32) (x5 : Int32) (x6 : Int32) (M : mm_M), Sim sysR Y_X12_findFacts 2 21 [(0, .ref 0), (1, .int (x1)), (2, .int (x2)), (3, .int (x3)), (4, .int (x4)), (5, .int (x5)), (6, .int (x6))] [] M mm_fV (k21 x1 x2 x3 x4 x5 x6 M)) (x1 : Int32) (x2 : Int32) (x3 : Int32) (x4 : Int32) (x6 : Int32) (t0 : Int32) (M : mm_M) : Sim sysR Y_X12_findFacts 2 70 [(0, .ref 0), (1, .int (x1)), (2, .int (x2)), (3, .int (x3)), (4, .int (x4)), (6, .int (x6))] [.int (t0)] M mm_fV (f_X12_findFacts_70 k21 x1 x2 x3 x4 x6 t0 M) := by
  unfold f_X12_findFacts_70
  refine sim_iconst (0 : Int32) d_X12_findFacts_70 rfl ?_
  exact sim_sub [0, 1, 2, 3, 4, 5] rfl (s_X12_findFacts_71 k21 hk21 x1 x2 x3 x4 x6 t0 (0 : Int32) M)
def f_X12_findFacts_21 (k80 : Int32 → Int32 → Int32 → Int32 → Int32 → mm_M → Option (mm_M)) : Nat → Int32 → Int32 → Int32 → Int32 → Int32 → Int32 → mm_M → Option (mm_M)
  | 0, _, _, _, _, _, _, _ => none
  | n + 1, x1, x2, x3, x4, x5, x6, M =>
  if x1 ≤ x6 then
    k80 x1 x2 x3 x4 x5 M
  else
    mm_ck x6 100 (
    if (mI M 35 x6.toNatClampNeg) = 0 then
      f_X12_findFacts_70 (f_X12_findFacts_21 k80 n) x1 x2 x3 x4 x6 x5 M
    else
      mm_ck x6 100 (
      if (mI M 29 x6.toNatClampNeg) = x3 then
        mm_ck x6 100 (
        mm_ck x1 100 (
        if (mI M 28 x6.toNatClampNeg) = (mI M 28 x1.toNatClampNeg) then
          f_X12_findFacts_71 (f_X12_findFacts_21 k80 n) x1 x2 x3 x4 x6 x5 (1 : Int32) M
        else
          f_X12_findFacts_70 (f_X12_findFacts_21 k80 n) x1 x2 x3 x4 x6 x5 M))
      else
        f_X12_findFacts_70 (f_X12_findFacts_21 k80 n) x1 x2 x3 x4 x6 x5 M))
theorem s_X12_findFacts_21 (k80 : Int32 → Int32 → Int32 → Int32 → Int32 → mm_M → Option (mm_M)) (hk80 : ∀ (x1 : Int32) (x2 : Int32) (x3 : Int32) (x4 : Int32) (x5 : Int32) (M : mm_M), Sim sysR Y_X12_findFacts 2 80 [(0, .ref 0), (1, .int (x1)), (2, .int (x2)), (3, .int (x3)), (4, .int (x4)), (5, .int (x5))] [] M mm_fV (k80 x1 x2 x3 x4 x5 M)) (n : Nat) : ∀ (x1 : Int32) (x2 : Int32) (x3 : Int32) (x4 : Int32) (x5 : Int32) (x6 : Int32) (M : mm_M), Sim sysR Y_X12_findFacts 2 21 [(0, .ref 0), (1, .int (x1)), (2, .int (x2)), (3, .int (x3)), (4, .int (x4)), (5, .int (x5)), (6, .int (x6))] [] M mm_fV (f_X12_findFacts_21 k80 n x1 x2 x3 x4 x5 x6 M) := by
  induction n with
  | zero => intros; exact sim_none
  | succ n ih =>
    intro x1 x2 x3 x4 x5 x6 M
    rw [f_X12_findFacts_21]
    refine sim_iload 6 d_X12_findFacts_21 rfl ?_
    refine sim_iload_n 1 d_X12_findFacts_23 rfl rfl ?_
    refine sim_icmp_ge d_X12_findFacts_24 ?_ ?_
    ·
      exact sim_sub [0, 1, 2, 3, 4, 5] rfl (hk80 x1 x2 x3 x4 x5 M)
    ·
      refine sim_iload 5 d_X12_findFacts_27 rfl ?_
      refine sim_aload_n 0 d_X12_findFacts_29 rfl rfl ?_
      refine sim_geta d_X12_findFacts_30 fl_X12_113 ob_R_0 rfl ?_
      refine sim_iload 6 d_X12_findFacts_33 rfl ?_
      refine sim_zald d_X12_findFacts_35 ar_R_35 ?_
      refine sim_if_eq d_X12_findFacts_36 ?_ ?_
      ·
        exact sim_sub [0, 1, 2, 3, 4, 6] rfl (s_X12_findFacts_70 (f_X12_findFacts_21 k80 n) ih x1 x2 x3 x4 x6 x5 M)
      ·
        refine sim_aload_n 0 d_X12_findFacts_39 rfl rfl ?_
        refine sim_geta d_X12_findFacts_40 fl_X12_95 ob_R_0 rfl ?_
        refine sim_iload 6 d_X12_findFacts_43 rfl ?_
        refine sim_iald d_X12_findFacts_45 ar_R_29 ?_
        refine sim_iload_n 3 d_X12_findFacts_46 rfl rfl ?_
        refine sim_icmp_ne d_X12_findFacts_47 ?_ ?_
        ·
          exact sim_sub [0, 1, 2, 3, 4, 6] rfl (s_X12_findFacts_70 (f_X12_findFacts_21 k80 n) ih x1 x2 x3 x4 x6 x5 M)
        ·
          refine sim_aload_n 0 d_X12_findFacts_50 rfl rfl ?_
          refine sim_geta d_X12_findFacts_51 fl_X12_92 ob_R_0 rfl ?_
          refine sim_iload 6 d_X12_findFacts_54 rfl ?_
          refine sim_iald d_X12_findFacts_56 ar_R_28 ?_
          refine sim_aload_n 0 d_X12_findFacts_57 rfl rfl ?_
          refine sim_geta d_X12_findFacts_58 fl_X12_92 ob_R_0 rfl ?_
          refine sim_iload_n 1 d_X12_findFacts_61 rfl rfl ?_
          refine sim_iald d_X12_findFacts_62 ar_R_28 ?_
          refine sim_icmp_ne d_X12_findFacts_63 ?_ ?_
          ·
            exact sim_sub [0, 1, 2, 3, 4, 6] rfl (s_X12_findFacts_70 (f_X12_findFacts_21 k80 n) ih x1 x2 x3 x4 x6 x5 M)
          ·
            refine sim_iconst (1 : Int32) d_X12_findFacts_66 rfl ?_
            refine sim_goto d_X12_findFacts_67 ?_
            exact sim_sub [0, 1, 2, 3, 4, 6] rfl (s_X12_findFacts_71 (f_X12_findFacts_21 k80 n) ih x1 x2 x3 x4 x6 x5 (1 : Int32) M)
def f_X12_findFacts_351 : Nat → Int32 → Int32 → mm_M → Option (mm_M)
  | 0, _, _, _ => none
  | n + 1, x6, x7, M =>
  if (13 : Int32) ≤ x7 then
    some M
  else
    mm_ck (x6 + x7) 1300 (
    mm_ck x7 13 (
    mm_let (sI M 25 x7.toNatClampNeg (mI M 38 (x6 + x7).toNatClampNeg)) (fun M1 =>
    f_X12_findFacts_351 n x6 (x7 + (1 : Int32)) M1)))
theorem s_X12_findFacts_351 (n : Nat) : ∀ (x6 : Int32) (x7 : Int32) (M : mm_M), Sim sysR Y_X12_findFacts 2 351 [(0, .ref 0), (6, .int (x6)), (7, .int (x7))] [] M mm_fV (f_X12_findFacts_351 n x6 x7 M) := by
  induction n with
  | zero => intros; exact sim_none
  | succ n ih =>
    intro x6 x7 M
    rw [f_X12_findFacts_351]
    refine sim_iload 2 d_X12_findFacts_351 rfl ?_
    refine sim_bipush (13 : Int32) d_X12_findFacts_353 rfl ?_
    refine sim_icmp_ge d_X12_findFacts_355 ?_ ?_
    ·
      exact sim_vret d_X12_findFacts_381 rfl
    ·
      refine sim_aload_n 0 d_X12_findFacts_358 rfl rfl ?_
      refine sim_geta d_X12_findFacts_359 fl_X12_83 ob_R_0 rfl ?_
      refine sim_iload 2 d_X12_findFacts_362 rfl ?_
      refine sim_aload_n 0 d_X12_findFacts_364 rfl rfl ?_
      refine sim_geta d_X12_findFacts_365 fl_X12_122 ob_R_0 rfl ?_
      refine sim_iload 1 d_X12_findFacts_368 rfl ?_
      refine sim_iload 2 d_X12_findFacts_370 rfl ?_
      refine sim_iadd d_X12_findFacts_372 ?_
      refine sim_iald d_X12_findFacts_373 ar_R_38 ?_
      refine sim_iast d_X12_findFacts_374 ar_R_25 ?_
      refine sim_nmM (fun M1 => ?_)
      refine sim_iinc (v := x7 + (1 : Int32)) (L' := [(0, .ref 0), (6, .int (x6)), (7, .int (x7 + (1 : Int32)))]) 2 d_X12_findFacts_375 (Nat.le_of_ble_eq_true rfl) rfl rfl rfl ?_
      refine sim_goto d_X12_findFacts_378 ?_
      exact sim_sub [0, 1, 2] rfl (ih x6 (x7 + (1 : Int32)) M1)
def f_X12_findFacts_347 (x6 : Int32) (t1 : Int32) (t2 : Int32) (M : mm_M) : Option (mm_M) :=
  mm_ck t1 1300 (
  mm_let (sI M 38 t1.toNatClampNeg t2) (fun M1 =>
  f_X12_findFacts_351 mm_fu x6 (0 : Int32) M1))
theorem s_X12_findFacts_347 (x6 : Int32) (t1 : Int32) (t2 : Int32) (M : mm_M) : Sim sysR Y_X12_findFacts 2 347 [(0, .ref 0), (6, .int (x6))] [.int (t2), .int (t1), .ref 38] M mm_fV (f_X12_findFacts_347 x6 t1 t2 M) := by
  unfold f_X12_findFacts_347
  refine sim_iast d_X12_findFacts_347 ar_R_38 ?_
  refine sim_nmM (fun M1 => ?_)
  refine sim_iconst (0 : Int32) d_X12_findFacts_348 rfl ?_
  refine sim_istore (L' := [(0, .ref 0), (6, .int (x6)), (7, .int ((0 : Int32)))]) d_X12_findFacts_349 (Nat.le_of_ble_eq_true rfl) rfl ?_
  exact sim_sub [0, 1, 2] rfl (s_X12_findFacts_351 mm_fu x6 (0 : Int32) M1)
def f_X12_findFacts_277 (x1 : Int32) (x2 : Int32) (x4 : Int32) (x6 : Int32) (t1 : Int32) (t2 : Int32) (M : mm_M) : Option (mm_M) :=
  mm_ck t1 1300 (
  mm_let (sI M 38 t1.toNatClampNeg t2) (fun M1 =>
  mm_ck x1 100 (
  mm_ck (x6 + (10 : Int32)) 1300 (
  mm_let (sI M1 38 (x6 + (10 : Int32)).toNatClampNeg ((mI M1 32 x1.toNatClampNeg) / (4 : Int32))) (fun M2 =>
  mm_ck x2 240 (
  mm_ck (x6 + (11 : Int32)) 1300 (
  mm_let (sI M2 38 (x6 + (11 : Int32)).toNatClampNeg (mI M2 39 x2.toNatClampNeg)) (fun M3 =>
  mm_ck x2 240 (
  if (mI M3 39 x2.toNatClampNeg) = 0 then
    f_X12_findFacts_347 x6 (x6 + (12 : Int32)) (99 : Int32) M3
  else
    mm_ck x2 240 (
    f_X12_findFacts_347 x6 (x6 + (12 : Int32)) ((x4 - (mI M3 40 x2.toNatClampNeg)) / (30 : Int32)) M3))))))))))
theorem s_X12_findFacts_277 (x1 : Int32) (x2 : Int32) (x4 : Int32) (x6 : Int32) (t1 : Int32) (t2 : Int32) (M : mm_M) : Sim sysR Y_X12_findFacts 2 277 [(0, .ref 0), (1, .int (x1)), (2, .int (x2)), (4, .int (x4)), (6, .int (x6))] [.int (t2), .int (t1), .ref 38] M mm_fV (f_X12_findFacts_277 x1 x2 x4 x6 t1 t2 M) := by
  unfold f_X12_findFacts_277
  refine sim_iast d_X12_findFacts_277 ar_R_38 ?_
  refine sim_nmM (fun M1 => ?_)
  refine sim_aload_n 0 d_X12_findFacts_278 rfl rfl ?_
  refine sim_geta d_X12_findFacts_279 fl_X12_122 ob_R_0 rfl ?_
  refine sim_iload 4 d_X12_findFacts_282 rfl ?_
  refine sim_bipush (10 : Int32) d_X12_findFacts_284 rfl ?_
  refine sim_iadd d_X12_findFacts_286 ?_
  refine sim_aload_n 0 d_X12_findFacts_287 rfl rfl ?_
  refine sim_geta d_X12_findFacts_288 fl_X12_104 ob_R_0 rfl ?_
  refine sim_iload_n 1 d_X12_findFacts_291 rfl rfl ?_
  refine sim_iald d_X12_findFacts_292 ar_R_32 ?_
  refine sim_iconst (4 : Int32) d_X12_findFacts_293 rfl ?_
  refine sim_idivc d_X12_findFacts_294 (by decide) ?_
  refine sim_iast d_X12_findFacts_295 ar_R_38 ?_
  refine sim_nmM (fun M2 => ?_)
  refine sim_aload_n 0 d_X12_findFacts_296 rfl rfl ?_
  refine sim_geta d_X12_findFacts_297 fl_X12_122 ob_R_0 rfl ?_
  refine sim_iload 4 d_X12_findFacts_300 rfl ?_
  refine sim_bipush (11 : Int32) d_X12_findFacts_302 rfl ?_
  refine sim_iadd d_X12_findFacts_304 ?_
  refine sim_aload_n 0 d_X12_findFacts_305 rfl rfl ?_
  refine sim_geta d_X12_findFacts_306 fl_X12_125 ob_R_0 rfl ?_
  refine sim_iload_n 2 d_X12_findFacts_309 rfl rfl ?_
  refine sim_iald d_X12_findFacts_310 ar_R_39 ?_
  refine sim_iast d_X12_findFacts_311 ar_R_38 ?_
  refine sim_nmM (fun M3 => ?_)
  refine sim_aload_n 0 d_X12_findFacts_312 rfl rfl ?_
  refine sim_geta d_X12_findFacts_313 fl_X12_122 ob_R_0 rfl ?_
  refine sim_iload 4 d_X12_findFacts_316 rfl ?_
  refine sim_bipush (12 : Int32) d_X12_findFacts_318 rfl ?_
  refine sim_iadd d_X12_findFacts_320 ?_
  refine sim_aload_n 0 d_X12_findFacts_321 rfl rfl ?_
  refine sim_geta d_X12_findFacts_322 fl_X12_125 ob_R_0 rfl ?_
  refine sim_iload_n 2 d_X12_findFacts_325 rfl rfl ?_
  refine sim_iald d_X12_findFacts_326 ar_R_39 ?_
  refine sim_if_ne d_X12_findFacts_327 ?_ ?_
  ·
    refine sim_iload 3 d_X12_findFacts_335 rfl ?_
    refine sim_aload_n 0 d_X12_findFacts_337 rfl rfl ?_
    refine sim_geta d_X12_findFacts_338 fl_X12_128 ob_R_0 rfl ?_
    refine sim_iload_n 2 d_X12_findFacts_341 rfl rfl ?_
    refine sim_iald d_X12_findFacts_342 ar_R_40 ?_
    refine sim_isub d_X12_findFacts_343 ?_
    refine sim_bipush (30 : Int32) d_X12_findFacts_344 rfl ?_
    refine sim_idivc d_X12_findFacts_346 (by decide) ?_
    exact sim_sub [0, 4] rfl (s_X12_findFacts_347 x6 (x6 + (12 : Int32)) ((x4 - (mI M3 40 x2.toNatClampNeg)) / (30 : Int32)) M3)
  ·
    refine sim_bipush (99 : Int32) d_X12_findFacts_330 rfl ?_
    refine sim_goto d_X12_findFacts_332 ?_
    exact sim_sub [0, 4] rfl (s_X12_findFacts_347 x6 (x6 + (12 : Int32)) (99 : Int32) M3)
def f_X12_findFacts_211 (x1 : Int32) (x2 : Int32) (x4 : Int32) (x6 : Int32) (t1 : Int32) (t2 : Int32) (M : mm_M) : Option (mm_M) :=
  mm_ck t1 1300 (
  mm_let (sI M 38 t1.toNatClampNeg t2) (fun M1 =>
  mm_ck x2 240 (
  mm_ck (x6 + (7 : Int32)) 1300 (
  mm_let (sI M1 38 (x6 + (7 : Int32)).toNatClampNeg (mI M1 41 x2.toNatClampNeg)) (fun M2 =>
  mm_ck x2 240 (
  mm_ck (x6 + (8 : Int32)) 1300 (
  mm_let (sI M2 38 (x6 + (8 : Int32)).toNatClampNeg (mI M2 42 x2.toNatClampNeg)) (fun M3 =>
  mm_ck x2 240 (
  if (mI M3 41 x2.toNatClampNeg) = 0 then
    f_X12_findFacts_277 x1 x2 x4 x6 (x6 + (9 : Int32)) (999 : Int32) M3
  else
    mm_ck x2 240 (
    f_X12_findFacts_277 x1 x2 x4 x6 (x6 + (9 : Int32)) (x4 - (mI M3 43 x2.toNatClampNeg)) M3))))))))))
theorem s_X12_findFacts_211 (x1 : Int32) (x2 : Int32) (x4 : Int32) (x6 : Int32) (t1 : Int32) (t2 : Int32) (M : mm_M) : Sim sysR Y_X12_findFacts 2 211 [(0, .ref 0), (1, .int (x1)), (2, .int (x2)), (4, .int (x4)), (6, .int (x6))] [.int (t2), .int (t1), .ref 38] M mm_fV (f_X12_findFacts_211 x1 x2 x4 x6 t1 t2 M) := by
  unfold f_X12_findFacts_211
  refine sim_iast d_X12_findFacts_211 ar_R_38 ?_
  refine sim_nmM (fun M1 => ?_)
  refine sim_aload_n 0 d_X12_findFacts_212 rfl rfl ?_
  refine sim_geta d_X12_findFacts_213 fl_X12_122 ob_R_0 rfl ?_
  refine sim_iload 4 d_X12_findFacts_216 rfl ?_
  refine sim_bipush (7 : Int32) d_X12_findFacts_218 rfl ?_
  refine sim_iadd d_X12_findFacts_220 ?_
  refine sim_aload_n 0 d_X12_findFacts_221 rfl rfl ?_
  refine sim_geta d_X12_findFacts_222 fl_X12_131 ob_R_0 rfl ?_
  refine sim_iload_n 2 d_X12_findFacts_225 rfl rfl ?_
  refine sim_iald d_X12_findFacts_226 ar_R_41 ?_
  refine sim_iast d_X12_findFacts_227 ar_R_38 ?_
  refine sim_nmM (fun M2 => ?_)
  refine sim_aload_n 0 d_X12_findFacts_228 rfl rfl ?_
  refine sim_geta d_X12_findFacts_229 fl_X12_122 ob_R_0 rfl ?_
  refine sim_iload 4 d_X12_findFacts_232 rfl ?_
  refine sim_bipush (8 : Int32) d_X12_findFacts_234 rfl ?_
  refine sim_iadd d_X12_findFacts_236 ?_
  refine sim_aload_n 0 d_X12_findFacts_237 rfl rfl ?_
  refine sim_geta d_X12_findFacts_238 fl_X12_134 ob_R_0 rfl ?_
  refine sim_iload_n 2 d_X12_findFacts_241 rfl rfl ?_
  refine sim_iald d_X12_findFacts_242 ar_R_42 ?_
  refine sim_iast d_X12_findFacts_243 ar_R_38 ?_
  refine sim_nmM (fun M3 => ?_)
  refine sim_aload_n 0 d_X12_findFacts_244 rfl rfl ?_
  refine sim_geta d_X12_findFacts_245 fl_X12_122 ob_R_0 rfl ?_
  refine sim_iload 4 d_X12_findFacts_248 rfl ?_
  refine sim_bipush (9 : Int32) d_X12_findFacts_250 rfl ?_
  refine sim_iadd d_X12_findFacts_252 ?_
  refine sim_aload_n 0 d_X12_findFacts_253 rfl rfl ?_
  refine sim_geta d_X12_findFacts_254 fl_X12_131 ob_R_0 rfl ?_
  refine sim_iload_n 2 d_X12_findFacts_257 rfl rfl ?_
  refine sim_iald d_X12_findFacts_258 ar_R_41 ?_
  refine sim_if_ne d_X12_findFacts_259 ?_ ?_
  ·
    refine sim_iload 3 d_X12_findFacts_268 rfl ?_
    refine sim_aload_n 0 d_X12_findFacts_270 rfl rfl ?_
    refine sim_geta d_X12_findFacts_271 fl_X12_137 ob_R_0 rfl ?_
    refine sim_iload_n 2 d_X12_findFacts_274 rfl rfl ?_
    refine sim_iald d_X12_findFacts_275 ar_R_43 ?_
    refine sim_isub d_X12_findFacts_276 ?_
    exact sim_sub [0, 1, 2, 3, 4] rfl (s_X12_findFacts_277 x1 x2 x4 x6 (x6 + (9 : Int32)) (x4 - (mI M3 43 x2.toNatClampNeg)) M3)
  ·
    refine sim_sipush (999 : Int32) d_X12_findFacts_262 rfl ?_
    refine sim_goto d_X12_findFacts_265 ?_
    exact sim_sub [0, 1, 2, 3, 4] rfl (s_X12_findFacts_277 x1 x2 x4 x6 (x6 + (9 : Int32)) (999 : Int32) M3)
def f_X12_findFacts_80 (x1 : Int32) (x2 : Int32) (x3 : Int32) (x4 : Int32) (x5 : Int32) (M : mm_M) : Option (mm_M) :=
  mm_let ((13 : Int32) * x1) (fun v1 =>
  mm_bi (f_X12_ageOn x3 x4 M) (fun r1 M1 =>
  mm_ck v1 1300 (
  mm_let (sI M1 38 v1.toNatClampNeg r1) (fun M2 =>
  mm_bi (f_X12_looksOn x3 x4 M2) (fun r2 M3 =>
  mm_ck (v1 + (1 : Int32)) 1300 (
  mm_let (sI M3 38 (v1 + (1 : Int32)).toNatClampNeg r2) (fun M4 =>
  mm_ck x1 100 (
  mm_ck (v1 + (2 : Int32)) 1300 (
  mm_let (sI M4 38 (v1 + (2 : Int32)).toNatClampNeg (((mI M4 32 x1.toNatClampNeg) &&& (2 : Int32)) / (2 : Int32))) (fun M5 =>
  mm_ck x1 100 (
  mm_ck (v1 + (3 : Int32)) 1300 (
  mm_let (sI M5 38 (v1 + (3 : Int32)).toNatClampNeg ((mI M5 32 x1.toNatClampNeg) &&& (1 : Int32))) (fun M6 =>
  mm_ck x1 100 (
  mm_ck (v1 + (4 : Int32)) 1300 (
  mm_let (sI M6 38 (v1 + (4 : Int32)).toNatClampNeg (mI M6 31 x1.toNatClampNeg)) (fun M7 =>
  mm_ck (v1 + (5 : Int32)) 1300 (
  mm_let (sI M7 38 (v1 + (5 : Int32)).toNatClampNeg x5) (fun M8 =>
  mm_ck x1 100 (
  mm_ck (((40 : Int32) * x3) + (mI M8 28 x1.toNatClampNeg)) 320 (
  if (mI M8 13 (((40 : Int32) * x3) + (mI M8 28 x1.toNatClampNeg)).toNatClampNeg) = 0 then
    f_X12_findFacts_211 x1 x2 x4 v1 (v1 + (6 : Int32)) (0 : Int32) M8
  else
    f_X12_findFacts_211 x1 x2 x4 v1 (v1 + (6 : Int32)) (1 : Int32) M8))))))))))))))))))))
theorem s_X12_findFacts_80 (x1 : Int32) (x2 : Int32) (x3 : Int32) (x4 : Int32) (x5 : Int32) (M : mm_M) : Sim sysR Y_X12_findFacts 2 80 [(0, .ref 0), (1, .int (x1)), (2, .int (x2)), (3, .int (x3)), (4, .int (x4)), (5, .int (x5))] [] M mm_fV (f_X12_findFacts_80 x1 x2 x3 x4 x5 M) := by
  unfold f_X12_findFacts_80
  refine sim_bipush (13 : Int32) d_X12_findFacts_80 rfl ?_
  refine sim_iload_n 1 d_X12_findFacts_82 rfl rfl ?_
  refine sim_imul d_X12_findFacts_83 ?_
  refine sim_nmi (fun v1 => ?_)
  refine sim_istore (L' := [(0, .ref 0), (1, .int (x1)), (2, .int (x2)), (3, .int (x3)), (4, .int (x4)), (5, .int (x5)), (6, .int (v1))]) d_X12_findFacts_84 (Nat.le_of_ble_eq_true rfl) rfl ?_
  refine sim_aload_n 0 d_X12_findFacts_86 rfl rfl ?_
  refine sim_geta d_X12_findFacts_87 fl_X12_122 ob_R_0 rfl ?_
  refine sim_iload 6 d_X12_findFacts_90 rfl ?_
  refine sim_aload_n 0 d_X12_findFacts_92 rfl rfl ?_
  refine sim_iload_n 3 d_X12_findFacts_93 rfl rfl ?_
  refine sim_iload 4 d_X12_findFacts_94 rfl ?_
  refine sim_callVi Y_X12_ageOn 0 [.int (x3), .int (x4)] [.int (v1), .ref 38] d_X12_findFacts_96 lk_X12_201 cv_X12_ageOn ob_R_0 rfl (by omega) (Nat.le_of_ble_eq_true rfl) (ct_X12_ageOn x3 x4 M) (fun r1 M1 => ?_)
  refine sim_iast d_X12_findFacts_99 ar_R_38 ?_
  refine sim_nmM (fun M2 => ?_)
  refine sim_aload_n 0 d_X12_findFacts_100 rfl rfl ?_
  refine sim_geta d_X12_findFacts_101 fl_X12_122 ob_R_0 rfl ?_
  refine sim_iload 6 d_X12_findFacts_104 rfl ?_
  refine sim_iconst (1 : Int32) d_X12_findFacts_106 rfl ?_
  refine sim_iadd d_X12_findFacts_107 ?_
  refine sim_aload_n 0 d_X12_findFacts_108 rfl rfl ?_
  refine sim_iload_n 3 d_X12_findFacts_109 rfl rfl ?_
  refine sim_iload 4 d_X12_findFacts_110 rfl ?_
  refine sim_callVi Y_X12_looksOn 1 [.int (x3), .int (x4)] [.int (v1 + (1 : Int32)), .ref 38] d_X12_findFacts_112 lk_X12_205 cv_X12_looksOn ob_R_0 rfl (by omega) (Nat.le_of_ble_eq_true rfl) (ct_X12_looksOn x3 x4 M2) (fun r2 M3 => ?_)
  refine sim_iast d_X12_findFacts_115 ar_R_38 ?_
  refine sim_nmM (fun M4 => ?_)
  refine sim_aload_n 0 d_X12_findFacts_116 rfl rfl ?_
  refine sim_geta d_X12_findFacts_117 fl_X12_122 ob_R_0 rfl ?_
  refine sim_iload 6 d_X12_findFacts_120 rfl ?_
  refine sim_iconst (2 : Int32) d_X12_findFacts_122 rfl ?_
  refine sim_iadd d_X12_findFacts_123 ?_
  refine sim_aload_n 0 d_X12_findFacts_124 rfl rfl ?_
  refine sim_geta d_X12_findFacts_125 fl_X12_104 ob_R_0 rfl ?_
  refine sim_iload_n 1 d_X12_findFacts_128 rfl rfl ?_
  refine sim_iald d_X12_findFacts_129 ar_R_32 ?_
  refine sim_iconst (2 : Int32) d_X12_findFacts_130 rfl ?_
  refine sim_iand d_X12_findFacts_131 ?_
  refine sim_iconst (2 : Int32) d_X12_findFacts_132 rfl ?_
  refine sim_idivc d_X12_findFacts_133 (by decide) ?_
  refine sim_iast d_X12_findFacts_134 ar_R_38 ?_
  refine sim_nmM (fun M5 => ?_)
  refine sim_aload_n 0 d_X12_findFacts_135 rfl rfl ?_
  refine sim_geta d_X12_findFacts_136 fl_X12_122 ob_R_0 rfl ?_
  refine sim_iload 6 d_X12_findFacts_139 rfl ?_
  refine sim_iconst (3 : Int32) d_X12_findFacts_141 rfl ?_
  refine sim_iadd d_X12_findFacts_142 ?_
  refine sim_aload_n 0 d_X12_findFacts_143 rfl rfl ?_
  refine sim_geta d_X12_findFacts_144 fl_X12_104 ob_R_0 rfl ?_
  refine sim_iload_n 1 d_X12_findFacts_147 rfl rfl ?_
  refine sim_iald d_X12_findFacts_148 ar_R_32 ?_
  refine sim_iconst (1 : Int32) d_X12_findFacts_149 rfl ?_
  refine sim_iand d_X12_findFacts_150 ?_
  refine sim_iast d_X12_findFacts_151 ar_R_38 ?_
  refine sim_nmM (fun M6 => ?_)
  refine sim_aload_n 0 d_X12_findFacts_152 rfl rfl ?_
  refine sim_geta d_X12_findFacts_153 fl_X12_122 ob_R_0 rfl ?_
  refine sim_iload 6 d_X12_findFacts_156 rfl ?_
  refine sim_iconst (4 : Int32) d_X12_findFacts_158 rfl ?_
  refine sim_iadd d_X12_findFacts_159 ?_
  refine sim_aload_n 0 d_X12_findFacts_160 rfl rfl ?_
  refine sim_geta d_X12_findFacts_161 fl_X12_101 ob_R_0 rfl ?_
  refine sim_iload_n 1 d_X12_findFacts_164 rfl rfl ?_
  refine sim_iald d_X12_findFacts_165 ar_R_31 ?_
  refine sim_iast d_X12_findFacts_166 ar_R_38 ?_
  refine sim_nmM (fun M7 => ?_)
  refine sim_aload_n 0 d_X12_findFacts_167 rfl rfl ?_
  refine sim_geta d_X12_findFacts_168 fl_X12_122 ob_R_0 rfl ?_
  refine sim_iload 6 d_X12_findFacts_171 rfl ?_
  refine sim_iconst (5 : Int32) d_X12_findFacts_173 rfl ?_
  refine sim_iadd d_X12_findFacts_174 ?_
  refine sim_iload 5 d_X12_findFacts_175 rfl ?_
  refine sim_iast d_X12_findFacts_177 ar_R_38 ?_
  refine sim_nmM (fun M8 => ?_)
  refine sim_aload_n 0 d_X12_findFacts_178 rfl rfl ?_
  refine sim_geta d_X12_findFacts_179 fl_X12_122 ob_R_0 rfl ?_
  refine sim_iload 6 d_X12_findFacts_182 rfl ?_
  refine sim_bipush (6 : Int32) d_X12_findFacts_184 rfl ?_
  refine sim_iadd d_X12_findFacts_186 ?_
  refine sim_aload_n 0 d_X12_findFacts_187 rfl rfl ?_
  refine sim_geta d_X12_findFacts_188 fl_X12_47 ob_R_0 rfl ?_
  refine sim_bipush (40 : Int32) d_X12_findFacts_191 rfl ?_
  refine sim_iload_n 3 d_X12_findFacts_193 rfl rfl ?_
  refine sim_imul d_X12_findFacts_194 ?_
  refine sim_aload_n 0 d_X12_findFacts_195 rfl rfl ?_
  refine sim_geta d_X12_findFacts_196 fl_X12_92 ob_R_0 rfl ?_
  refine sim_iload_n 1 d_X12_findFacts_199 rfl rfl ?_
  refine sim_iald d_X12_findFacts_200 ar_R_28 ?_
  refine sim_iadd d_X12_findFacts_201 ?_
  refine sim_zald d_X12_findFacts_202 ar_R_13 ?_
  refine sim_if_eq d_X12_findFacts_203 ?_ ?_
  ·
    refine sim_iconst (0 : Int32) d_X12_findFacts_210 rfl ?_
    exact sim_sub [0, 1, 2, 4, 6] rfl (s_X12_findFacts_211 x1 x2 x4 v1 (v1 + (6 : Int32)) (0 : Int32) M8)
  ·
    refine sim_iconst (1 : Int32) d_X12_findFacts_206 rfl ?_
    refine sim_goto d_X12_findFacts_207 ?_
    exact sim_sub [0, 1, 2, 4, 6] rfl (s_X12_findFacts_211 x1 x2 x4 v1 (v1 + (6 : Int32)) (1 : Int32) M8)
def f_X12_findFacts (a1 : Int32) (a2 : Int32) (M : mm_M) : Option (mm_M) :=
  mm_ck a1 100 (
  mm_let (mI M 29 a1.toNatClampNeg) (fun v1 =>
  mm_ck a1 100 (
  mm_let (mI M 30 a1.toNatClampNeg) (fun v2 =>
  f_X12_findFacts_21 f_X12_findFacts_80 mm_fu a1 a2 v1 v2 (0 : Int32) (0 : Int32) M))))
theorem s_X12_findFacts (a1 : Int32) (a2 : Int32) (M : mm_M) : Sim sysR Y_X12_findFacts 2 0 [(0, .ref 0), (1, .int (a1)), (2, .int (a2))] [] M mm_fV (f_X12_findFacts a1 a2 M) := by
  unfold f_X12_findFacts
  refine sim_aload_n 0 d_X12_findFacts_0 rfl rfl ?_
  refine sim_geta d_X12_findFacts_1 fl_X12_95 ob_R_0 rfl ?_
  refine sim_iload_n 1 d_X12_findFacts_4 rfl rfl ?_
  refine sim_iald d_X12_findFacts_5 ar_R_29 ?_
  refine sim_nmi (fun v1 => ?_)
  refine sim_istore_n (L' := [(0, .ref 0), (1, .int (a1)), (2, .int (a2)), (3, .int (v1))]) d_X12_findFacts_6 rfl (Nat.le_of_ble_eq_true rfl) rfl ?_
  refine sim_aload_n 0 d_X12_findFacts_7 rfl rfl ?_
  refine sim_geta d_X12_findFacts_8 fl_X12_98 ob_R_0 rfl ?_
  refine sim_iload_n 1 d_X12_findFacts_11 rfl rfl ?_
  refine sim_iald d_X12_findFacts_12 ar_R_30 ?_
  refine sim_nmi (fun v2 => ?_)
  refine sim_istore (L' := [(0, .ref 0), (1, .int (a1)), (2, .int (a2)), (3, .int (v1)), (4, .int (v2))]) d_X12_findFacts_13 (Nat.le_of_ble_eq_true rfl) rfl ?_
  refine sim_iconst (0 : Int32) d_X12_findFacts_15 rfl ?_
  refine sim_istore (L' := [(0, .ref 0), (1, .int (a1)), (2, .int (a2)), (3, .int (v1)), (4, .int (v2)), (5, .int ((0 : Int32)))]) d_X12_findFacts_16 (Nat.le_of_ble_eq_true rfl) rfl ?_
  refine sim_iconst (0 : Int32) d_X12_findFacts_18 rfl ?_
  refine sim_istore (L' := [(0, .ref 0), (1, .int (a1)), (2, .int (a2)), (3, .int (v1)), (4, .int (v2)), (5, .int ((0 : Int32))), (6, .int ((0 : Int32)))]) d_X12_findFacts_19 (Nat.le_of_ble_eq_true rfl) rfl ?_
  exact sim_sub [0, 1, 2, 3, 4, 5, 6] rfl (s_X12_findFacts_21 f_X12_findFacts_80 s_X12_findFacts_80 mm_fu a1 a2 v1 v2 (0 : Int32) (0 : Int32) M)
theorem ct_X12_findFacts (a1 : Int32) (a2 : Int32) (M : mm_M) : Ct sysR Y_X12_findFacts 2 [.ref 0, .int (a1), .int (a2)] M mm_fV (f_X12_findFacts a1 a2 M) :=
  ct_of_sim (by decide) rfl (Nat.le_of_ble_eq_true rfl) (s_X12_findFacts a1 a2 M)
def f_X12_weighOne_191 (x2 : Int32) (x3 : Int32) (t1 : Int32) (t2 : Int32) (t3 : Int32) (M : mm_M) : Option (mm_M) :=
  mm_ck t1 240 (
  mm_let (sI M 42 t1.toNatClampNeg (t2 + t3)) (fun M1 =>
  mm_ck x3 240 (
  mm_let (sI M1 43 x3.toNatClampNeg x2) (fun M2 =>
  some M2))))
theorem s_X12_weighOne_191 (x2 : Int32) (x3 : Int32) (t1 : Int32) (t2 : Int32) (t3 : Int32) (M : mm_M) : Sim sysR Y_X12_weighOne 7 191 [(0, .ref 0), (2, .int (x2)), (3, .int (x3))] [.int (t3), .int (t2), .int (t1), .ref 42] M mm_fV (f_X12_weighOne_191 x2 x3 t1 t2 t3 M) := by
  unfold f_X12_weighOne_191
  refine sim_iadd d_X12_weighOne_191 ?_
  refine sim_iast d_X12_weighOne_192 ar_R_42 ?_
  refine sim_nmM (fun M1 => ?_)
  refine sim_aload_n 0 d_X12_weighOne_193 rfl rfl ?_
  refine sim_geta d_X12_weighOne_194 fl_X12_137 ob_R_0 rfl ?_
  refine sim_iload_n 2 d_X12_weighOne_197 rfl rfl ?_
  refine sim_iload_n 1 d_X12_weighOne_198 rfl rfl ?_
  refine sim_iast d_X12_weighOne_199 ar_R_43 ?_
  refine sim_nmM (fun M2 => ?_)
  exact sim_vret d_X12_weighOne_200 rfl
def f_X12_weighOne_164 (x2 : Int32) (x3 : Int32) (x5 : Int32) (M : mm_M) : Option (mm_M) :=
  mm_ck x3 240 (
  mm_ck x3 240 (
  mm_let (sI M 41 x3.toNatClampNeg ((mI M 41 x3.toNatClampNeg) + (1 : Int32))) (fun M1 =>
  mm_ck x3 240 (
  if x5 = 0 then
    f_X12_weighOne_191 x2 x3 x3 (mI M1 42 x3.toNatClampNeg) (0 : Int32) M1
  else
    f_X12_weighOne_191 x2 x3 x3 (mI M1 42 x3.toNatClampNeg) (1 : Int32) M1))))
theorem s_X12_weighOne_164 (x2 : Int32) (x3 : Int32) (x5 : Int32) (M : mm_M) : Sim sysR Y_X12_weighOne 7 164 [(0, .ref 0), (2, .int (x2)), (3, .int (x3)), (5, .int (x5))] [] M mm_fV (f_X12_weighOne_164 x2 x3 x5 M) := by
  unfold f_X12_weighOne_164
  refine sim_aload_n 0 d_X12_weighOne_164 rfl rfl ?_
  refine sim_geta d_X12_weighOne_165 fl_X12_131 ob_R_0 rfl ?_
  refine sim_iload_n 2 d_X12_weighOne_168 rfl rfl ?_
  refine sim_dup2_11 d_X12_weighOne_169 rfl rfl ?_
  refine sim_iald d_X12_weighOne_170 ar_R_41 ?_
  refine sim_iconst (1 : Int32) d_X12_weighOne_171 rfl ?_
  refine sim_iadd d_X12_weighOne_172 ?_
  refine sim_iast d_X12_weighOne_173 ar_R_41 ?_
  refine sim_nmM (fun M1 => ?_)
  refine sim_aload_n 0 d_X12_weighOne_174 rfl rfl ?_
  refine sim_geta d_X12_weighOne_175 fl_X12_134 ob_R_0 rfl ?_
  refine sim_iload_n 2 d_X12_weighOne_178 rfl rfl ?_
  refine sim_dup2_11 d_X12_weighOne_179 rfl rfl ?_
  refine sim_iald d_X12_weighOne_180 ar_R_42 ?_
  refine sim_iload 3 d_X12_weighOne_181 rfl ?_
  refine sim_if_eq d_X12_weighOne_183 ?_ ?_
  ·
    refine sim_iconst (0 : Int32) d_X12_weighOne_190 rfl ?_
    exact sim_sub [0, 1, 2] rfl (s_X12_weighOne_191 x2 x3 x3 (mI M1 42 x3.toNatClampNeg) (0 : Int32) M1)
  ·
    refine sim_iconst (1 : Int32) d_X12_weighOne_186 rfl ?_
    refine sim_goto d_X12_weighOne_187 ?_
    exact sim_sub [0, 1, 2] rfl (s_X12_weighOne_191 x2 x3 x3 (mI M1 42 x3.toNatClampNeg) (1 : Int32) M1)
def f_X12_weighOne_119 (x1 : Int32) (x2 : Int32) (x3 : Int32) (x5 : Int32) (t0 : Int32) (M : mm_M) : Option (mm_M) :=
  if t0 < 0 then
    f_X12_weighOne_164 x2 x3 x5 M
  else
    mm_bi (f_X12_holds t0 M) (fun r1 M1 =>
    if r1 = 0 then
      f_X12_weighOne_164 x2 x3 x5 M1
    else
      mm_ck x3 240 (
      mm_ck x3 240 (
      mm_let (sI M1 39 x3.toNatClampNeg ((mI M1 39 x3.toNatClampNeg) + (1 : Int32))) (fun M2 =>
      mm_ck x3 240 (
      mm_let (sI M2 40 x3.toNatClampNeg x2) (fun M3 =>
      mm_ck x3 240 (
      mm_ck x1 100 (
      mm_let (sI M3 37 x1.toNatClampNeg (mI M3 39 x3.toNatClampNeg)) (fun M4 =>
      f_X12_weighOne_164 x2 x3 x5 M4)))))))))
theorem s_X12_weighOne_119 (x1 : Int32) (x2 : Int32) (x3 : Int32) (x5 : Int32) (t0 : Int32) (M : mm_M) : Sim sysR Y_X12_weighOne 7 119 [(0, .ref 0), (1, .int (x1)), (2, .int (x2)), (3, .int (x3)), (5, .int (x5))] [.int (t0)] M mm_fV (f_X12_weighOne_119 x1 x2 x3 x5 t0 M) := by
  unfold f_X12_weighOne_119
  refine sim_istore (L' := [(0, .ref 0), (1, .int (x1)), (2, .int (x2)), (3, .int (x3)), (5, .int (x5)), (6, .int (t0))]) d_X12_weighOne_119 (Nat.le_of_ble_eq_true rfl) rfl ?_
  refine sim_iload 5 d_X12_weighOne_121 rfl ?_
  refine sim_if_lt d_X12_weighOne_123 ?_ ?_
  ·
    exact sim_sub [0, 2, 3, 4] rfl (s_X12_weighOne_164 x2 x3 x5 M)
  ·
    refine sim_aload_n 0 d_X12_weighOne_126 rfl rfl ?_
    refine sim_iload 5 d_X12_weighOne_127 rfl ?_
    refine sim_callVi Y_X12_holds 6 [.int (t0)] [] d_X12_weighOne_129 lk_X12_339 cv_X12_holds ob_R_0 rfl (by omega) (Nat.le_of_ble_eq_true rfl) (ct_X12_holds t0 M) (fun r1 M1 => ?_)
    refine sim_if_eq d_X12_weighOne_132 ?_ ?_
    ·
      exact sim_sub [0, 2, 3, 4] rfl (s_X12_weighOne_164 x2 x3 x5 M1)
    ·
      refine sim_aload_n 0 d_X12_weighOne_135 rfl rfl ?_
      refine sim_geta d_X12_weighOne_136 fl_X12_125 ob_R_0 rfl ?_
      refine sim_iload_n 3 d_X12_weighOne_139 rfl rfl ?_
      refine sim_dup2_11 d_X12_weighOne_140 rfl rfl ?_
      refine sim_iald d_X12_weighOne_141 ar_R_39 ?_
      refine sim_iconst (1 : Int32) d_X12_weighOne_142 rfl ?_
      refine sim_iadd d_X12_weighOne_143 ?_
      refine sim_iast d_X12_weighOne_144 ar_R_39 ?_
      refine sim_nmM (fun M2 => ?_)
      refine sim_aload_n 0 d_X12_weighOne_145 rfl rfl ?_
      refine sim_geta d_X12_weighOne_146 fl_X12_128 ob_R_0 rfl ?_
      refine sim_iload_n 3 d_X12_weighOne_149 rfl rfl ?_
      refine sim_iload_n 2 d_X12_weighOne_150 rfl rfl ?_
      refine sim_iast d_X12_weighOne_151 ar_R_40 ?_
      refine sim_nmM (fun M3 => ?_)
      refine sim_aload_n 0 d_X12_weighOne_152 rfl rfl ?_
      refine sim_geta d_X12_weighOne_153 fl_X12_119 ob_R_0 rfl ?_
      refine sim_iload_n 1 d_X12_weighOne_156 rfl rfl ?_
      refine sim_aload_n 0 d_X12_weighOne_157 rfl rfl ?_
      refine sim_geta d_X12_weighOne_158 fl_X12_125 ob_R_0 rfl ?_
      refine sim_iload_n 3 d_X12_weighOne_161 rfl rfl ?_
      refine sim_iald d_X12_weighOne_162 ar_R_39 ?_
      refine sim_iast d_X12_weighOne_163 ar_R_37 ?_
      refine sim_nmM (fun M4 => ?_)
      exact sim_sub [0, 2, 3, 4] rfl (s_X12_weighOne_164 x2 x3 x5 M4)
def f_X12_weighOne_118 (x1 : Int32) (x2 : Int32) (x3 : Int32) (x5 : Int32) (M : mm_M) : Option (mm_M) :=
  f_X12_weighOne_119 x1 x2 x3 x5 (-1 : Int32) M
theorem s_X12_weighOne_118 (x1 : Int32) (x2 : Int32) (x3 : Int32) (x5 : Int32) (M : mm_M) : Sim sysR Y_X12_weighOne 7 118 [(0, .ref 0), (1, .int (x1)), (2, .int (x2)), (3, .int (x3)), (5, .int (x5))] [] M mm_fV (f_X12_weighOne_118 x1 x2 x3 x5 M) := by
  unfold f_X12_weighOne_118
  refine sim_iconst (-1 : Int32) d_X12_weighOne_118 rfl ?_
  exact sim_sub [0, 1, 2, 3, 4] rfl (s_X12_weighOne_119 x1 x2 x3 x5 (-1 : Int32) M)
def f_X12_weighOne_85 (x1 : Int32) (x2 : Int32) (x3 : Int32) (t0 : Int32) (M : mm_M) : Option (mm_M) :=
  mm_ck x3 240 (
  if (4 : Int32) ≤ (mI M 39 x3.toNatClampNeg) then
    f_X12_weighOne_118 x1 x2 x3 t0 M
  else
    if t0 = 0 then
      f_X12_weighOne_118 x1 x2 x3 t0 M
    else
      mm_ck x3 240 (
      mm_bi (f_X12_ruleOn ((mI M 39 x3.toNatClampNeg) + (1 : Int32)) x2 M) (fun r1 M1 =>
      f_X12_weighOne_119 x1 x2 x3 t0 r1 M1)))
theorem s_X12_weighOne_85 (x1 : Int32) (x2 : Int32) (x3 : Int32) (t0 : Int32) (M : mm_M) : Sim sysR Y_X12_weighOne 7 85 [(0, .ref 0), (1, .int (x1)), (2, .int (x2)), (3, .int (x3))] [.int (t0)] M mm_fV (f_X12_weighOne_85 x1 x2 x3 t0 M) := by
  unfold f_X12_weighOne_85
  refine sim_istore (L' := [(0, .ref 0), (1, .int (x1)), (2, .int (x2)), (3, .int (x3)), (5, .int (t0))]) d_X12_weighOne_85 (Nat.le_of_ble_eq_true rfl) rfl ?_
  refine sim_aload_n 0 d_X12_weighOne_87 rfl rfl ?_
  refine sim_geta d_X12_weighOne_88 fl_X12_125 ob_R_0 rfl ?_
  refine sim_iload_n 3 d_X12_weighOne_91 rfl rfl ?_
  refine sim_iald d_X12_weighOne_92 ar_R_39 ?_
  refine sim_iconst (4 : Int32) d_X12_weighOne_93 rfl ?_
  refine sim_icmp_ge d_X12_weighOne_94 ?_ ?_
  ·
    exact sim_sub [0, 1, 2, 3, 4] rfl (s_X12_weighOne_118 x1 x2 x3 t0 M)
  ·
    refine sim_iload 4 d_X12_weighOne_97 rfl ?_
    refine sim_if_eq d_X12_weighOne_99 ?_ ?_
    ·
      exact sim_sub [0, 1, 2, 3, 4] rfl (s_X12_weighOne_118 x1 x2 x3 t0 M)
    ·
      refine sim_aload_n 0 d_X12_weighOne_102 rfl rfl ?_
      refine sim_aload_n 0 d_X12_weighOne_103 rfl rfl ?_
      refine sim_geta d_X12_weighOne_104 fl_X12_125 ob_R_0 rfl ?_
      refine sim_iload_n 3 d_X12_weighOne_107 rfl rfl ?_
      refine sim_iald d_X12_weighOne_108 ar_R_39 ?_
      refine sim_iconst (1 : Int32) d_X12_weighOne_109 rfl ?_
      refine sim_iadd d_X12_weighOne_110 ?_
      refine sim_iload_n 2 d_X12_weighOne_111 rfl rfl ?_
      refine sim_callVi Y_X12_ruleOn 0 [.int ((mI M 39 x3.toNatClampNeg) + (1 : Int32)), .int (x2)] [] d_X12_weighOne_112 lk_X12_319 cv_X12_ruleOn ob_R_0 rfl (by omega) (Nat.le_of_ble_eq_true rfl) (ct_X12_ruleOn ((mI M 39 x3.toNatClampNeg) + (1 : Int32)) x2 M) (fun r1 M1 => ?_)
      refine sim_goto d_X12_weighOne_115 ?_
      exact sim_sub [0, 1, 2, 3, 4] rfl (s_X12_weighOne_119 x1 x2 x3 t0 r1 M1)
def f_X12_weighOne_57 (x1 : Int32) (x2 : Int32) (x3 : Int32) (t1 : Int32) (t2 : Int32) (M : mm_M) : Option (mm_M) :=
  mm_ck t1 100 (
  mm_let (sI M 36 t1.toNatClampNeg (t2 &&& 1)) (fun M1 =>
  mm_ck x1 100 (
  if (mI M1 36 x1.toNatClampNeg) = 0 then
    some M1
  else
    mm_ck x1 100 (
    if ((mI M1 32 x1.toNatClampNeg) / (4 : Int32)) = (1 : Int32) then
      f_X12_weighOne_85 x1 x2 x3 (1 : Int32) M1
    else
      f_X12_weighOne_85 x1 x2 x3 (0 : Int32) M1))))
theorem s_X12_weighOne_57 (x1 : Int32) (x2 : Int32) (x3 : Int32) (t1 : Int32) (t2 : Int32) (M : mm_M) : Sim sysR Y_X12_weighOne 7 57 [(0, .ref 0), (1, .int (x1)), (2, .int (x2)), (3, .int (x3))] [.int (t2), .int (t1), .ref 36] M mm_fV (f_X12_weighOne_57 x1 x2 x3 t1 t2 M) := by
  unfold f_X12_weighOne_57
  refine sim_zast d_X12_weighOne_57 ar_R_36 ?_
  refine sim_nmM (fun M1 => ?_)
  refine sim_aload_n 0 d_X12_weighOne_58 rfl rfl ?_
  refine sim_geta d_X12_weighOne_59 fl_X12_116 ob_R_0 rfl ?_
  refine sim_iload_n 1 d_X12_weighOne_62 rfl rfl ?_
  refine sim_zald d_X12_weighOne_63 ar_R_36 ?_
  refine sim_if_ne d_X12_weighOne_64 ?_ ?_
  ·
    refine sim_aload_n 0 d_X12_weighOne_68 rfl rfl ?_
    refine sim_geta d_X12_weighOne_69 fl_X12_104 ob_R_0 rfl ?_
    refine sim_iload_n 1 d_X12_weighOne_72 rfl rfl ?_
    refine sim_iald d_X12_weighOne_73 ar_R_32 ?_
    refine sim_iconst (4 : Int32) d_X12_weighOne_74 rfl ?_
    refine sim_idivc d_X12_weighOne_75 (by decide) ?_
    refine sim_iconst (1 : Int32) d_X12_weighOne_76 rfl ?_
    refine sim_icmp_ne d_X12_weighOne_77 ?_ ?_
    ·
      refine sim_iconst (0 : Int32) d_X12_weighOne_84 rfl ?_
      exact sim_sub [0, 1, 2, 3] rfl (s_X12_weighOne_85 x1 x2 x3 (0 : Int32) M1)
    ·
      refine sim_iconst (1 : Int32) d_X12_weighOne_80 rfl ?_
      refine sim_goto d_X12_weighOne_81 ?_
      exact sim_sub [0, 1, 2, 3] rfl (s_X12_weighOne_85 x1 x2 x3 (1 : Int32) M1)
  ·
    exact sim_vret d_X12_weighOne_67 rfl
def f_X12_weighOne_52 (x1 : Int32) (x2 : Int32) (x3 : Int32) (t1 : Int32) (M : mm_M) : Option (mm_M) :=
  f_X12_weighOne_57 x1 x2 x3 t1 (1 : Int32) M
theorem s_X12_weighOne_52 (x1 : Int32) (x2 : Int32) (x3 : Int32) (t1 : Int32) (M : mm_M) : Sim sysR Y_X12_weighOne 7 52 [(0, .ref 0), (1, .int (x1)), (2, .int (x2)), (3, .int (x3))] [.int (t1), .ref 36] M mm_fV (f_X12_weighOne_52 x1 x2 x3 t1 M) := by
  unfold f_X12_weighOne_52
  refine sim_iconst (1 : Int32) d_X12_weighOne_52 rfl ?_
  refine sim_goto d_X12_weighOne_53 ?_
  exact sim_sub [0, 1, 2, 3] rfl (s_X12_weighOne_57 x1 x2 x3 t1 (1 : Int32) M)
def f_X12_weighOne (a1 : Int32) (M : mm_M) : Option (mm_M) :=
  mm_ck a1 100 (
  mm_let (mI M 30 a1.toNatClampNeg) (fun v1 =>
  mm_ck a1 100 (
  mm_bi (f_X12_ownerOn (mI M 28 a1.toNatClampNeg) v1 M) (fun r1 M1 =>
  mm_bv (f_X12_findFacts a1 r1 M1) (fun M2 =>
  mm_bi (f_X12_ruleOn (0 : Int32) v1 M2) (fun r2 M3 =>
  if r2 < 0 then
    f_X12_weighOne_52 a1 v1 r1 a1 M3
  else
    mm_bi (f_X12_holds r2 M3) (fun r3 M4 =>
    if r3 = 0 then
      f_X12_weighOne_57 a1 v1 r1 a1 (0 : Int32) M4
    else
      f_X12_weighOne_52 a1 v1 r1 a1 M4)))))))
theorem s_X12_weighOne (a1 : Int32) (M : mm_M) : Sim sysR Y_X12_weighOne 7 0 [(0, .ref 0), (1, .int (a1))] [] M mm_fV (f_X12_weighOne a1 M) := by
  unfold f_X12_weighOne
  refine sim_aload_n 0 d_X12_weighOne_0 rfl rfl ?_
  refine sim_geta d_X12_weighOne_1 fl_X12_98 ob_R_0 rfl ?_
  refine sim_iload_n 1 d_X12_weighOne_4 rfl rfl ?_
  refine sim_iald d_X12_weighOne_5 ar_R_30 ?_
  refine sim_nmi (fun v1 => ?_)
  refine sim_istore_n (L' := [(0, .ref 0), (1, .int (a1)), (2, .int (v1))]) d_X12_weighOne_6 rfl (Nat.le_of_ble_eq_true rfl) rfl ?_
  refine sim_aload_n 0 d_X12_weighOne_7 rfl rfl ?_
  refine sim_aload_n 0 d_X12_weighOne_8 rfl rfl ?_
  refine sim_geta d_X12_weighOne_9 fl_X12_92 ob_R_0 rfl ?_
  refine sim_iload_n 1 d_X12_weighOne_12 rfl rfl ?_
  refine sim_iald d_X12_weighOne_13 ar_R_28 ?_
  refine sim_iload_n 2 d_X12_weighOne_14 rfl rfl ?_
  refine sim_callVi Y_X12_ownerOn 0 [.int (mI M 28 a1.toNatClampNeg), .int (v1)] [] d_X12_weighOne_15 lk_X12_322 cv_X12_ownerOn ob_R_0 rfl (by omega) (Nat.le_of_ble_eq_true rfl) (ct_X12_ownerOn (mI M 28 a1.toNatClampNeg) v1 M) (fun r1 M1 => ?_)
  refine sim_istore_n (L' := [(0, .ref 0), (1, .int (a1)), (2, .int (v1)), (3, .int (r1))]) d_X12_weighOne_18 rfl (Nat.le_of_ble_eq_true rfl) rfl ?_
  refine sim_aload_n 0 d_X12_weighOne_19 rfl rfl ?_
  refine sim_iload_n 1 d_X12_weighOne_20 rfl rfl ?_
  refine sim_iload_n 3 d_X12_weighOne_21 rfl rfl ?_
  refine sim_callVv Y_X12_findFacts 2 [.int (a1), .int (r1)] [] d_X12_weighOne_22 lk_X12_335 cv_X12_findFacts ob_R_0 rfl (by omega) (Nat.le_of_ble_eq_true rfl) (ct_X12_findFacts a1 r1 M1) (fun M2 => ?_)
  refine sim_aload_n 0 d_X12_weighOne_25 rfl rfl ?_
  refine sim_iconst (0 : Int32) d_X12_weighOne_26 rfl ?_
  refine sim_iload_n 2 d_X12_weighOne_27 rfl rfl ?_
  refine sim_callVi Y_X12_ruleOn 0 [.int ((0 : Int32)), .int (v1)] [] d_X12_weighOne_28 lk_X12_319 cv_X12_ruleOn ob_R_0 rfl (by omega) (Nat.le_of_ble_eq_true rfl) (ct_X12_ruleOn (0 : Int32) v1 M2) (fun r2 M3 => ?_)
  refine sim_istore (L' := [(0, .ref 0), (1, .int (a1)), (2, .int (v1)), (3, .int (r1)), (4, .int (r2))]) d_X12_weighOne_31 (Nat.le_of_ble_eq_true rfl) rfl ?_
  refine sim_aload_n 0 d_X12_weighOne_33 rfl rfl ?_
  refine sim_geta d_X12_weighOne_34 fl_X12_116 ob_R_0 rfl ?_
  refine sim_iload_n 1 d_X12_weighOne_37 rfl rfl ?_
  refine sim_iload 4 d_X12_weighOne_38 rfl ?_
  refine sim_if_lt d_X12_weighOne_40 ?_ ?_
  ·
    exact sim_sub [0, 1, 2, 3] rfl (s_X12_weighOne_52 a1 v1 r1 a1 M3)
  ·
    refine sim_aload_n 0 d_X12_weighOne_43 rfl rfl ?_
    refine sim_iload 4 d_X12_weighOne_44 rfl ?_
    refine sim_callVi Y_X12_holds 6 [.int (r2)] [.int (a1), .ref 36] d_X12_weighOne_46 lk_X12_339 cv_X12_holds ob_R_0 rfl (by omega) (Nat.le_of_ble_eq_true rfl) (ct_X12_holds r2 M3) (fun r3 M4 => ?_)
    refine sim_if_eq d_X12_weighOne_49 ?_ ?_
    ·
      refine sim_iconst (0 : Int32) d_X12_weighOne_56 rfl ?_
      exact sim_sub [0, 1, 2, 3] rfl (s_X12_weighOne_57 a1 v1 r1 a1 (0 : Int32) M4)
    ·
      exact sim_sub [0, 1, 2, 3] rfl (s_X12_weighOne_52 a1 v1 r1 a1 M4)
theorem ct_X12_weighOne (a1 : Int32) (M : mm_M) : Ct sysR Y_X12_weighOne 7 [.ref 0, .int (a1)] M mm_fV (f_X12_weighOne a1 M) :=
  ct_of_sim (by decide) rfl (Nat.le_of_ble_eq_true rfl) (s_X12_weighOne a1 M)
def f_X12_weigh_2 (k36 : Int32 → mm_M → Option (mm_M)) : Nat → Int32 → Int32 → mm_M → Option (mm_M)
  | 0, _, _, _ => none
  | n + 1, x1, x2, M =>
  if (240 : Int32) ≤ x2 then
    k36 x1 M
  else
    mm_ck x2 240 (
    mm_let (sI M 39 x2.toNatClampNeg (0 : Int32)) (fun M1 =>
    mm_ck x2 240 (
    mm_let (sI M1 41 x2.toNatClampNeg (0 : Int32)) (fun M2 =>
    mm_ck x2 240 (
    mm_let (sI M2 42 x2.toNatClampNeg (0 : Int32)) (fun M3 =>
    f_X12_weigh_2 k36 n x1 (x2 + (1 : Int32)) M3))))))
theorem s_X12_weigh_2 (k36 : Int32 → mm_M → Option (mm_M)) (hk36 : ∀ (x1 : Int32) (M : mm_M), Sim sysR Y_X12_weigh 8 36 [(0, .ref 0), (1, .int (x1))] [] M mm_fV (k36 x1 M)) (n : Nat) : ∀ (x1 : Int32) (x2 : Int32) (M : mm_M), Sim sysR Y_X12_weigh 8 2 [(0, .ref 0), (1, .int (x1)), (2, .int (x2))] [] M mm_fV (f_X12_weigh_2 k36 n x1 x2 M) := by
  induction n with
  | zero => intros; exact sim_none
  | succ n ih =>
    intro x1 x2 M
    rw [f_X12_weigh_2]
    refine sim_iload_n 2 d_X12_weigh_2 rfl rfl ?_
    refine sim_sipush (240 : Int32) d_X12_weigh_3 rfl ?_
    refine sim_icmp_ge d_X12_weigh_6 ?_ ?_
    ·
      exact sim_sub [0, 1] rfl (hk36 x1 M)
    ·
      refine sim_aload_n 0 d_X12_weigh_9 rfl rfl ?_
      refine sim_geta d_X12_weigh_10 fl_X12_125 ob_R_0 rfl ?_
      refine sim_iload_n 2 d_X12_weigh_13 rfl rfl ?_
      refine sim_iconst (0 : Int32) d_X12_weigh_14 rfl ?_
      refine sim_iast d_X12_weigh_15 ar_R_39 ?_
      refine sim_nmM (fun M1 => ?_)
      refine sim_aload_n 0 d_X12_weigh_16 rfl rfl ?_
      refine sim_geta d_X12_weigh_17 fl_X12_131 ob_R_0 rfl ?_
      refine sim_iload_n 2 d_X12_weigh_20 rfl rfl ?_
      refine sim_iconst (0 : Int32) d_X12_weigh_21 rfl ?_
      refine sim_iast d_X12_weigh_22 ar_R_41 ?_
      refine sim_nmM (fun M2 => ?_)
      refine sim_aload_n 0 d_X12_weigh_23 rfl rfl ?_
      refine sim_geta d_X12_weigh_24 fl_X12_134 ob_R_0 rfl ?_
      refine sim_iload_n 2 d_X12_weigh_27 rfl rfl ?_
      refine sim_iconst (0 : Int32) d_X12_weigh_28 rfl ?_
      refine sim_iast d_X12_weigh_29 ar_R_42 ?_
      refine sim_nmM (fun M3 => ?_)
      refine sim_iinc (v := x2 + (1 : Int32)) (L' := [(0, .ref 0), (1, .int (x1)), (2, .int (x2 + (1 : Int32)))]) 2 d_X12_weigh_30 (Nat.le_of_ble_eq_true rfl) rfl rfl rfl ?_
      refine sim_goto d_X12_weigh_33 ?_
      exact sim_sub [0, 1, 2] rfl (ih x1 (x2 + (1 : Int32)) M3)
def f_X12_weigh_86 (k38 : Int32 → Int32 → mm_M → Option (mm_M)) (x1 : Int32) (x2 : Int32) (M : mm_M) : Option (mm_M) :=
  k38 x1 (x2 + (1 : Int32)) M
theorem s_X12_weigh_86 (k38 : Int32 → Int32 → mm_M → Option (mm_M)) (hk38 : ∀ (x1 : Int32) (x2 : Int32) (M : mm_M), Sim sysR Y_X12_weigh 8 38 [(0, .ref 0), (1, .int (x1)), (2, .int (x2))] [] M mm_fV (k38 x1 x2 M)) (x1 : Int32) (x2 : Int32) (M : mm_M) : Sim sysR Y_X12_weigh 8 86 [(0, .ref 0), (1, .int (x1)), (2, .int (x2))] [] M mm_fV (f_X12_weigh_86 k38 x1 x2 M) := by
  unfold f_X12_weigh_86
  refine sim_iinc (v := x2 + (1 : Int32)) (L' := [(0, .ref 0), (1, .int (x1)), (2, .int (x2 + (1 : Int32)))]) 2 d_X12_weigh_86 (Nat.le_of_ble_eq_true rfl) rfl rfl rfl ?_
  refine sim_goto d_X12_weigh_89 ?_
  exact sim_sub [0, 1, 2] rfl (hk38 x1 (x2 + (1 : Int32)) M)
def f_X12_weigh_38 : Nat → Int32 → Int32 → mm_M → Option (mm_M)
  | 0, _, _, _ => none
  | n + 1, x1, x2, M =>
  if (mI M 0 43) ≤ x2 then
    some M
  else
    mm_bi (f_X12_countsBy x2 x1 M) (fun r1 M1 =>
    mm_ck x2 100 (
    mm_let (sI M1 35 x2.toNatClampNeg (r1 &&& 1)) (fun M2 =>
    mm_ck x2 100 (
    mm_let (sI M2 36 x2.toNatClampNeg ((0 : Int32) &&& 1)) (fun M3 =>
    mm_ck x2 100 (
    mm_let (sI M3 37 x2.toNatClampNeg (0 : Int32)) (fun M4 =>
    mm_ck x2 100 (
    if (mI M4 35 x2.toNatClampNeg) = 0 then
      f_X12_weigh_86 (f_X12_weigh_38 n) x1 x2 M4
    else
      mm_bv (f_X12_weighOne x2 M4) (fun M5 =>
      f_X12_weigh_86 (f_X12_weigh_38 n) x1 x2 M5)))))))))
theorem s_X12_weigh_38 (n : Nat) : ∀ (x1 : Int32) (x2 : Int32) (M : mm_M), Sim sysR Y_X12_weigh 8 38 [(0, .ref 0), (1, .int (x1)), (2, .int (x2))] [] M mm_fV (f_X12_weigh_38 n x1 x2 M) := by
  induction n with
  | zero => intros; exact sim_none
  | succ n ih =>
    intro x1 x2 M
    rw [f_X12_weigh_38]
    refine sim_iload_n 2 d_X12_weigh_38 rfl rfl ?_
    refine sim_aload_n 0 d_X12_weigh_39 rfl rfl ?_
    refine sim_geti d_X12_weigh_40 fl_X12_249 ob_R_0 rfl ?_
    refine sim_icmp_ge d_X12_weigh_43 ?_ ?_
    ·
      exact sim_vret d_X12_weigh_92 rfl
    ·
      refine sim_aload_n 0 d_X12_weigh_46 rfl rfl ?_
      refine sim_geta d_X12_weigh_47 fl_X12_113 ob_R_0 rfl ?_
      refine sim_iload_n 2 d_X12_weigh_50 rfl rfl ?_
      refine sim_aload_n 0 d_X12_weigh_51 rfl rfl ?_
      refine sim_iload_n 2 d_X12_weigh_52 rfl rfl ?_
      refine sim_iload_n 1 d_X12_weigh_53 rfl rfl ?_
      refine sim_callVi Y_X12_countsBy 0 [.int (x2), .int (x1)] [.int (x2), .ref 35] d_X12_weigh_54 lk_X12_328 cv_X12_countsBy ob_R_0 rfl (by omega) (Nat.le_of_ble_eq_true rfl) (ct_X12_countsBy x2 x1 M) (fun r1 M1 => ?_)
      refine sim_zast d_X12_weigh_57 ar_R_35 ?_
      refine sim_nmM (fun M2 => ?_)
      refine sim_aload_n 0 d_X12_weigh_58 rfl rfl ?_
      refine sim_geta d_X12_weigh_59 fl_X12_116 ob_R_0 rfl ?_
      refine sim_iload_n 2 d_X12_weigh_62 rfl rfl ?_
      refine sim_iconst (0 : Int32) d_X12_weigh_63 rfl ?_
      refine sim_zast d_X12_weigh_64 ar_R_36 ?_
      refine sim_nmM (fun M3 => ?_)
      refine sim_aload_n 0 d_X12_weigh_65 rfl rfl ?_
      refine sim_geta d_X12_weigh_66 fl_X12_119 ob_R_0 rfl ?_
      refine sim_iload_n 2 d_X12_weigh_69 rfl rfl ?_
      refine sim_iconst (0 : Int32) d_X12_weigh_70 rfl ?_
      refine sim_iast d_X12_weigh_71 ar_R_37 ?_
      refine sim_nmM (fun M4 => ?_)
      refine sim_aload_n 0 d_X12_weigh_72 rfl rfl ?_
      refine sim_geta d_X12_weigh_73 fl_X12_113 ob_R_0 rfl ?_
      refine sim_iload_n 2 d_X12_weigh_76 rfl rfl ?_
      refine sim_zald d_X12_weigh_77 ar_R_35 ?_
      refine sim_if_eq d_X12_weigh_78 ?_ ?_
      ·
        exact sim_sub [0, 1, 2] rfl (s_X12_weigh_86 (f_X12_weigh_38 n) ih x1 x2 M4)
      ·
        refine sim_aload_n 0 d_X12_weigh_81 rfl rfl ?_
        refine sim_iload_n 2 d_X12_weigh_82 rfl rfl ?_
        refine sim_callVv Y_X12_weighOne 7 [.int (x2)] [] d_X12_weigh_83 lk_X12_332 cv_X12_weighOne ob_R_0 rfl (by omega) (Nat.le_of_ble_eq_true rfl) (ct_X12_weighOne x2 M4) (fun M5 => ?_)
        exact sim_sub [0, 1, 2] rfl (s_X12_weigh_86 (f_X12_weigh_38 n) ih x1 x2 M5)
def f_X12_weigh_36 (x1 : Int32) (M : mm_M) : Option (mm_M) :=
  f_X12_weigh_38 mm_fu x1 (0 : Int32) M
theorem s_X12_weigh_36 (x1 : Int32) (M : mm_M) : Sim sysR Y_X12_weigh 8 36 [(0, .ref 0), (1, .int (x1))] [] M mm_fV (f_X12_weigh_36 x1 M) := by
  unfold f_X12_weigh_36
  refine sim_iconst (0 : Int32) d_X12_weigh_36 rfl ?_
  refine sim_istore_n (L' := [(0, .ref 0), (1, .int (x1)), (2, .int ((0 : Int32)))]) d_X12_weigh_37 rfl (Nat.le_of_ble_eq_true rfl) rfl ?_
  exact sim_sub [0, 1, 2] rfl (s_X12_weigh_38 mm_fu x1 (0 : Int32) M)
def f_X12_weigh (a1 : Int32) (M : mm_M) : Option (mm_M) :=
  f_X12_weigh_2 f_X12_weigh_36 mm_fu a1 (0 : Int32) M
theorem s_X12_weigh (a1 : Int32) (M : mm_M) : Sim sysR Y_X12_weigh 8 0 [(0, .ref 0), (1, .int (a1))] [] M mm_fV (f_X12_weigh a1 M) := by
  unfold f_X12_weigh
  refine sim_iconst (0 : Int32) d_X12_weigh_0 rfl ?_
  refine sim_istore_n (L' := [(0, .ref 0), (1, .int (a1)), (2, .int ((0 : Int32)))]) d_X12_weigh_1 rfl (Nat.le_of_ble_eq_true rfl) rfl ?_
  exact sim_sub [0, 1, 2] rfl (s_X12_weigh_2 f_X12_weigh_36 s_X12_weigh_36 mm_fu a1 (0 : Int32) M)
theorem ct_X12_weigh (a1 : Int32) (M : mm_M) : Ct sysR Y_X12_weigh 8 [.ref 0, .int (a1)] M mm_fV (f_X12_weigh a1 M) :=
  ct_of_sim (by decide) rfl (Nat.le_of_ble_eq_true rfl) (s_X12_weigh a1 M)
def f_X12_back_107 (k71 : Int32 → Int32 → Int32 → Int32 → mm_M → Option (Int64 × mm_M)) (x1 : Int32) (x2 : Int32) (x4 : Int32) (t0 : Int32) (M : mm_M) : Option (Int64 × mm_M) :=
  k71 x1 x2 t0 (x4 + (1 : Int32)) M
theorem s_X12_back_107 (k71 : Int32 → Int32 → Int32 → Int32 → mm_M → Option (Int64 × mm_M)) (hk71 : ∀ (x1 : Int32) (x2 : Int32) (x3 : Int32) (x4 : Int32) (M : mm_M), Sim sysR Y_X12_back 9 71 [(0, .ref 0), (1, .int (x1)), (2, .int (x2)), (3, .int (x3)), (4, .int (x4))] [] M mm_fL (k71 x1 x2 x3 x4 M)) (x1 : Int32) (x2 : Int32) (x4 : Int32) (t0 : Int32) (M : mm_M) : Sim sysR Y_X12_back 9 107 [(0, .ref 0), (1, .int (x1)), (2, .int (x2)), (4, .int (x4))] [.int (t0)] M mm_fL (f_X12_back_107 k71 x1 x2 x4 t0 M) := by
  unfold f_X12_back_107
  refine sim_istore_n (L' := [(0, .ref 0), (1, .int (x1)), (2, .int (x2)), (4, .int (x4)), (3, .int (t0))]) d_X12_back_107 rfl (Nat.le_of_ble_eq_true rfl) rfl ?_
  refine sim_iinc (v := x4 + (1 : Int32)) (L' := [(0, .ref 0), (1, .int (x1)), (2, .int (x2)), (3, .int (t0)), (4, .int (x4 + (1 : Int32)))]) 3 d_X12_back_108 (Nat.le_of_ble_eq_true rfl) rfl rfl rfl ?_
  refine sim_goto d_X12_back_111 ?_
  exact sim_sub [0, 1, 2, 3, 4] rfl (hk71 x1 x2 t0 (x4 + (1 : Int32)) M)
def f_X12_back_106 (k71 : Int32 → Int32 → Int32 → Int32 → mm_M → Option (Int64 × mm_M)) (x1 : Int32) (x2 : Int32) (x3 : Int32) (x4 : Int32) (M : mm_M) : Option (Int64 × mm_M) :=
  f_X12_back_107 k71 x1 x2 x4 x3 M
theorem s_X12_back_106 (k71 : Int32 → Int32 → Int32 → Int32 → mm_M → Option (Int64 × mm_M)) (hk71 : ∀ (x1 : Int32) (x2 : Int32) (x3 : Int32) (x4 : Int32) (M : mm_M), Sim sysR Y_X12_back 9 71 [(0, .ref 0), (1, .int (x1)), (2, .int (x2)), (3, .int (x3)), (4, .int (x4))] [] M mm_fL (k71 x1 x2 x3 x4 M)) (x1 : Int32) (x2 : Int32) (x3 : Int32) (x4 : Int32) (M : mm_M) : Sim sysR Y_X12_back 9 106 [(0, .ref 0), (1, .int (x1)), (2, .int (x2)), (3, .int (x3)), (4, .int (x4))] [] M mm_fL (f_X12_back_106 k71 x1 x2 x3 x4 M) := by
  unfold f_X12_back_106
  refine sim_iload_n 3 d_X12_back_106 rfl rfl ?_
  exact sim_sub [0, 1, 2, 4] rfl (s_X12_back_107 k71 hk71 x1 x2 x4 x3 M)
def f_X12_back_71 (k114 : Int32 → Int32 → Int32 → mm_M → Option (Int64 × mm_M)) : Nat → Int32 → Int32 → Int32 → Int32 → mm_M → Option (Int64 × mm_M)
  | 0, _, _, _, _, _ => none
  | n + 1, x1, x2, x3, x4, M =>
  if (mI M 0 43) ≤ x4 then
    k114 x1 x2 x3 M
  else
    mm_ck x4 100 (
    if (mI M 28 x4.toNatClampNeg) = x2 then
      mm_ck x4 100 (
      if (mI M 36 x4.toNatClampNeg) = 0 then
        f_X12_back_106 (f_X12_back_71 k114 n) x1 x2 x3 x4 M
      else
        f_X12_back_107 (f_X12_back_71 k114 n) x1 x2 x4 x4 M)
    else
      f_X12_back_106 (f_X12_back_71 k114 n) x1 x2 x3 x4 M)
theorem s_X12_back_71 (k114 : Int32 → Int32 → Int32 → mm_M → Option (Int64 × mm_M)) (hk114 : ∀ (x1 : Int32) (x2 : Int32) (x3 : Int32) (M : mm_M), Sim sysR Y_X12_back 9 114 [(0, .ref 0), (1, .int (x1)), (2, .int (x2)), (3, .int (x3))] [] M mm_fL (k114 x1 x2 x3 M)) (n : Nat) : ∀ (x1 : Int32) (x2 : Int32) (x3 : Int32) (x4 : Int32) (M : mm_M), Sim sysR Y_X12_back 9 71 [(0, .ref 0), (1, .int (x1)), (2, .int (x2)), (3, .int (x3)), (4, .int (x4))] [] M mm_fL (f_X12_back_71 k114 n x1 x2 x3 x4 M) := by
  induction n with
  | zero => intros; exact sim_none
  | succ n ih =>
    intro x1 x2 x3 x4 M
    rw [f_X12_back_71]
    refine sim_iload 4 d_X12_back_71 rfl ?_
    refine sim_aload_n 0 d_X12_back_73 rfl rfl ?_
    refine sim_geti d_X12_back_74 fl_X12_249 ob_R_0 rfl ?_
    refine sim_icmp_ge d_X12_back_77 ?_ ?_
    ·
      exact sim_sub [0, 1, 2, 3] rfl (hk114 x1 x2 x3 M)
    ·
      refine sim_aload_n 0 d_X12_back_80 rfl rfl ?_
      refine sim_geta d_X12_back_81 fl_X12_92 ob_R_0 rfl ?_
      refine sim_iload 4 d_X12_back_84 rfl ?_
      refine sim_iald d_X12_back_86 ar_R_28 ?_
      refine sim_iload_n 2 d_X12_back_87 rfl rfl ?_
      refine sim_icmp_ne d_X12_back_88 ?_ ?_
      ·
        exact sim_sub [0, 1, 2, 3, 4] rfl (s_X12_back_106 (f_X12_back_71 k114 n) ih x1 x2 x3 x4 M)
      ·
        refine sim_aload_n 0 d_X12_back_91 rfl rfl ?_
        refine sim_geta d_X12_back_92 fl_X12_116 ob_R_0 rfl ?_
        refine sim_iload 4 d_X12_back_95 rfl ?_
        refine sim_zald d_X12_back_97 ar_R_36 ?_
        refine sim_if_eq d_X12_back_98 ?_ ?_
        ·
          exact sim_sub [0, 1, 2, 3, 4] rfl (s_X12_back_106 (f_X12_back_71 k114 n) ih x1 x2 x3 x4 M)
        ·
          refine sim_iload 4 d_X12_back_101 rfl ?_
          refine sim_goto d_X12_back_103 ?_
          exact sim_sub [0, 1, 2, 4] rfl (s_X12_back_107 (f_X12_back_71 k114 n) ih x1 x2 x4 x4 M)
def f_X12_back_160 (k58 : Int32 → Int32 → mm_M → Option (Int64 × mm_M)) (x1 : Int32) (x2 : Int32) (M : mm_M) : Option (Int64 × mm_M) :=
  k58 x1 (x2 + (1 : Int32)) M
theorem s_X12_back_160 (k58 : Int32 → Int32 → mm_M → Option (Int64 × mm_M)) (hk58 : ∀ (x1 : Int32) (x2 : Int32) (M : mm_M), Sim sysR Y_X12_back 9 58 [(0, .ref 0), (1, .int (x1)), (2, .int (x2))] [] M mm_fL (k58 x1 x2 M)) (x1 : Int32) (x2 : Int32) (M : mm_M) : Sim sysR Y_X12_back 9 160 [(0, .ref 0), (1, .int (x1)), (2, .int (x2))] [] M mm_fL (f_X12_back_160 k58 x1 x2 M) := by
  unfold f_X12_back_160
  refine sim_iinc (v := x2 + (1 : Int32)) (L' := [(0, .ref 0), (1, .int (x1)), (2, .int (x2 + (1 : Int32)))]) 2 d_X12_back_160 (Nat.le_of_ble_eq_true rfl) rfl rfl rfl ?_
  refine sim_goto d_X12_back_163 ?_
  exact sim_sub [0, 1, 2] rfl (hk58 x1 (x2 + (1 : Int32)) M)
def f_X12_back_155 (k58 : Int32 → Int32 → mm_M → Option (Int64 × mm_M)) (x1 : Int32) (x2 : Int32) (M : mm_M) : Option (Int64 × mm_M) :=
  mm_bv (f_X12_addBack x2 M) (fun M1 =>
  f_X12_back_160 k58 x1 x2 M1)
theorem s_X12_back_155 (k58 : Int32 → Int32 → mm_M → Option (Int64 × mm_M)) (hk58 : ∀ (x1 : Int32) (x2 : Int32) (M : mm_M), Sim sysR Y_X12_back 9 58 [(0, .ref 0), (1, .int (x1)), (2, .int (x2))] [] M mm_fL (k58 x1 x2 M)) (x1 : Int32) (x2 : Int32) (M : mm_M) : Sim sysR Y_X12_back 9 155 [(0, .ref 0), (1, .int (x1)), (2, .int (x2))] [] M mm_fL (f_X12_back_155 k58 x1 x2 M) := by
  unfold f_X12_back_155
  refine sim_aload_n 0 d_X12_back_155 rfl rfl ?_
  refine sim_iload_n 2 d_X12_back_156 rfl rfl ?_
  refine sim_callVv Y_X12_addBack 1 [.int (x2)] [] d_X12_back_157 lk_X12_252 cv_X12_addBack ob_R_0 rfl (by omega) (Nat.le_of_ble_eq_true rfl) (ct_X12_addBack x2 M) (fun M1 => ?_)
  exact sim_sub [0, 1, 2] rfl (s_X12_back_160 k58 hk58 x1 x2 M1)
def f_X12_back_134 (k58 : Int32 → Int32 → mm_M → Option (Int64 × mm_M)) (x1 : Int32) (x2 : Int32) (t0 : Int32) (M : mm_M) : Option (Int64 × mm_M) :=
  mm_ck x2 40 (
  if (mI M 15 x2.toNatClampNeg) = 0 then
    f_X12_back_160 k58 x1 x2 M
  else
    if (1 : Int32) < x1 then
      f_X12_back_155 k58 x1 x2 M
    else
      if t0 = 0 then
        f_X12_back_160 k58 x1 x2 M
      else
        f_X12_back_155 k58 x1 x2 M)
theorem s_X12_back_134 (k58 : Int32 → Int32 → mm_M → Option (Int64 × mm_M)) (hk58 : ∀ (x1 : Int32) (x2 : Int32) (M : mm_M), Sim sysR Y_X12_back 9 58 [(0, .ref 0), (1, .int (x1)), (2, .int (x2))] [] M mm_fL (k58 x1 x2 M)) (x1 : Int32) (x2 : Int32) (t0 : Int32) (M : mm_M) : Sim sysR Y_X12_back 9 134 [(0, .ref 0), (1, .int (x1)), (2, .int (x2))] [.int (t0)] M mm_fL (f_X12_back_134 k58 x1 x2 t0 M) := by
  unfold f_X12_back_134
  refine sim_istore (L' := [(0, .ref 0), (1, .int (x1)), (2, .int (x2)), (4, .int (t0))]) d_X12_back_134 (Nat.le_of_ble_eq_true rfl) rfl ?_
  refine sim_aload_n 0 d_X12_back_136 rfl rfl ?_
  refine sim_geta d_X12_back_137 fl_X12_53 ob_R_0 rfl ?_
  refine sim_iload_n 2 d_X12_back_140 rfl rfl ?_
  refine sim_zald d_X12_back_141 ar_R_15 ?_
  refine sim_if_eq d_X12_back_142 ?_ ?_
  ·
    exact sim_sub [0, 1, 2] rfl (s_X12_back_160 k58 hk58 x1 x2 M)
  ·
    refine sim_iload_n 1 d_X12_back_145 rfl rfl ?_
    refine sim_iconst (1 : Int32) d_X12_back_146 rfl ?_
    refine sim_icmp_gt d_X12_back_147 ?_ ?_
    ·
      exact sim_sub [0, 1, 2] rfl (s_X12_back_155 k58 hk58 x1 x2 M)
    ·
      refine sim_iload 3 d_X12_back_150 rfl ?_
      refine sim_if_eq d_X12_back_152 ?_ ?_
      ·
        exact sim_sub [0, 1, 2] rfl (s_X12_back_160 k58 hk58 x1 x2 M)
      ·
        exact sim_sub [0, 1, 2] rfl (s_X12_back_155 k58 hk58 x1 x2 M)
def f_X12_back_133 (k58 : Int32 → Int32 → mm_M → Option (Int64 × mm_M)) (x1 : Int32) (x2 : Int32) (M : mm_M) : Option (Int64 × mm_M) :=
  f_X12_back_134 k58 x1 x2 (0 : Int32) M
theorem s_X12_back_133 (k58 : Int32 → Int32 → mm_M → Option (Int64 × mm_M)) (hk58 : ∀ (x1 : Int32) (x2 : Int32) (M : mm_M), Sim sysR Y_X12_back 9 58 [(0, .ref 0), (1, .int (x1)), (2, .int (x2))] [] M mm_fL (k58 x1 x2 M)) (x1 : Int32) (x2 : Int32) (M : mm_M) : Sim sysR Y_X12_back 9 133 [(0, .ref 0), (1, .int (x1)), (2, .int (x2))] [] M mm_fL (f_X12_back_133 k58 x1 x2 M) := by
  unfold f_X12_back_133
  refine sim_iconst (0 : Int32) d_X12_back_133 rfl ?_
  exact sim_sub [0, 1, 2] rfl (s_X12_back_134 k58 hk58 x1 x2 (0 : Int32) M)
def f_X12_back_114 (k58 : Int32 → Int32 → mm_M → Option (Int64 × mm_M)) (x1 : Int32) (x2 : Int32) (x3 : Int32) (M : mm_M) : Option (Int64 × mm_M) :=
  if x3 < 0 then
    f_X12_back_133 k58 x1 x2 M
  else
    mm_ck x3 100 (
    if ((mI M 32 x3.toNatClampNeg) &&& (4 : Int32)) = 0 then
      f_X12_back_133 k58 x1 x2 M
    else
      f_X12_back_134 k58 x1 x2 (1 : Int32) M)
theorem s_X12_back_114 (k58 : Int32 → Int32 → mm_M → Option (Int64 × mm_M)) (hk58 : ∀ (x1 : Int32) (x2 : Int32) (M : mm_M), Sim sysR Y_X12_back 9 58 [(0, .ref 0), (1, .int (x1)), (2, .int (x2))] [] M mm_fL (k58 x1 x2 M)) (x1 : Int32) (x2 : Int32) (x3 : Int32) (M : mm_M) : Sim sysR Y_X12_back 9 114 [(0, .ref 0), (1, .int (x1)), (2, .int (x2)), (3, .int (x3))] [] M mm_fL (f_X12_back_114 k58 x1 x2 x3 M) := by
  unfold f_X12_back_114
  refine sim_iload_n 3 d_X12_back_114 rfl rfl ?_
  refine sim_if_lt d_X12_back_115 ?_ ?_
  ·
    exact sim_sub [0, 1, 2] rfl (s_X12_back_133 k58 hk58 x1 x2 M)
  ·
    refine sim_aload_n 0 d_X12_back_118 rfl rfl ?_
    refine sim_geta d_X12_back_119 fl_X12_104 ob_R_0 rfl ?_
    refine sim_iload_n 3 d_X12_back_122 rfl rfl ?_
    refine sim_iald d_X12_back_123 ar_R_32 ?_
    refine sim_iconst (4 : Int32) d_X12_back_124 rfl ?_
    refine sim_iand d_X12_back_125 ?_
    refine sim_if_eq d_X12_back_126 ?_ ?_
    ·
      exact sim_sub [0, 1, 2] rfl (s_X12_back_133 k58 hk58 x1 x2 M)
    ·
      refine sim_iconst (1 : Int32) d_X12_back_129 rfl ?_
      refine sim_goto d_X12_back_130 ?_
      exact sim_sub [0, 1, 2] rfl (s_X12_back_134 k58 hk58 x1 x2 (1 : Int32) M)
def f_X12_back_58 (k166 : Int32 → mm_M → Option (Int64 × mm_M)) : Nat → Int32 → Int32 → mm_M → Option (Int64 × mm_M)
  | 0, _, _, _ => none
  | n + 1, x1, x2, M =>
  if (mI M 0 2) ≤ x2 then
    k166 x1 M
  else
    f_X12_back_71 (f_X12_back_114 (f_X12_back_58 k166 n)) mm_fu x1 x2 (-1 : Int32) (0 : Int32) M
theorem s_X12_back_58 (k166 : Int32 → mm_M → Option (Int64 × mm_M)) (hk166 : ∀ (x1 : Int32) (M : mm_M), Sim sysR Y_X12_back 9 166 [(0, .ref 0), (1, .int (x1))] [] M mm_fL (k166 x1 M)) (n : Nat) : ∀ (x1 : Int32) (x2 : Int32) (M : mm_M), Sim sysR Y_X12_back 9 58 [(0, .ref 0), (1, .int (x1)), (2, .int (x2))] [] M mm_fL (f_X12_back_58 k166 n x1 x2 M) := by
  induction n with
  | zero => intros; exact sim_none
  | succ n ih =>
    intro x1 x2 M
    rw [f_X12_back_58]
    refine sim_iload_n 2 d_X12_back_58 rfl rfl ?_
    refine sim_aload_n 0 d_X12_back_59 rfl rfl ?_
    refine sim_geti d_X12_back_60 fl_X12_180 ob_R_0 rfl ?_
    refine sim_icmp_ge d_X12_back_63 ?_ ?_
    ·
      exact sim_sub [0, 1] rfl (hk166 x1 M)
    ·
      refine sim_iconst (-1 : Int32) d_X12_back_66 rfl ?_
      refine sim_istore_n (L' := [(0, .ref 0), (1, .int (x1)), (2, .int (x2)), (3, .int ((-1 : Int32)))]) d_X12_back_67 rfl (Nat.le_of_ble_eq_true rfl) rfl ?_
      refine sim_iconst (0 : Int32) d_X12_back_68 rfl ?_
      refine sim_istore (L' := [(0, .ref 0), (1, .int (x1)), (2, .int (x2)), (3, .int ((-1 : Int32))), (4, .int ((0 : Int32)))]) d_X12_back_69 (Nat.le_of_ble_eq_true rfl) rfl ?_
      exact sim_sub [0, 1, 2, 3, 4] rfl (s_X12_back_71 (f_X12_back_114 (f_X12_back_58 k166 n)) (s_X12_back_114 (f_X12_back_58 k166 n) ih) mm_fu x1 x2 (-1 : Int32) (0 : Int32) M)
def f_X12_back_166 (x1 : Int32) (M : mm_M) : Option (Int64 × mm_M) :=
  if (x1 - x1 / (2 : Int32) * (2 : Int32)) = 0 then
    some (mL M 0 24, M)
  else
    some (mL M 0 25, M)
theorem s_X12_back_166 (x1 : Int32) (M : mm_M) : Sim sysR Y_X12_back 9 166 [(0, .ref 0), (1, .int (x1))] [] M mm_fL (f_X12_back_166 x1 M) := by
  unfold f_X12_back_166
  refine sim_iload_n 1 d_X12_back_166 rfl rfl ?_
  refine sim_iconst (2 : Int32) d_X12_back_167 rfl ?_
  refine sim_iremc d_X12_back_168 (by decide) ?_
  refine sim_if_ne d_X12_back_169 ?_ ?_
  ·
    refine sim_aload_n 0 d_X12_back_179 rfl rfl ?_
    refine sim_getl d_X12_back_180 fl_X12_243 ob_R_0 rfl ?_
    exact sim_lret d_X12_back_183 rfl
  ·
    refine sim_aload_n 0 d_X12_back_172 rfl rfl ?_
    refine sim_getl d_X12_back_173 fl_X12_239 ob_R_0 rfl ?_
    refine sim_goto d_X12_back_176 ?_
    exact sim_lret d_X12_back_183 rfl
def f_X12_back_26 (x1 : Int32) (t1 : Int32) (M : mm_M) : Option (Int64 × mm_M) :=
  mm_let (sI M 0 0 t1) (fun M1 =>
  if (mI M1 0 0) ≤ 0 then
    mm_bv (f_X12_weigh (mI M1 0 1) M1) (fun M2 =>
    mm_let (sL M2 0 24 (0 : Int64)) (fun M3 =>
    mm_let (sL M3 0 25 (1 : Int64)) (fun M4 =>
    f_X12_back_58 f_X12_back_166 mm_fu x1 (0 : Int32) M4)))
  else
    some ((0 : Int64), M1))
theorem s_X12_back_26 (x1 : Int32) (t1 : Int32) (M : mm_M) : Sim sysR Y_X12_back 9 26 [(0, .ref 0), (1, .int (x1))] [.int (t1), .ref 0] M mm_fL (f_X12_back_26 x1 t1 M) := by
  unfold f_X12_back_26
  refine sim_puti d_X12_back_26 fl_X12_177 ob_R_0 rfl ?_
  refine sim_nmM (fun M1 => ?_)
  refine sim_aload_n 0 d_X12_back_29 rfl rfl ?_
  refine sim_geti d_X12_back_30 fl_X12_177 ob_R_0 rfl ?_
  refine sim_if_le d_X12_back_33 ?_ ?_
  ·
    refine sim_aload_n 0 d_X12_back_38 rfl rfl ?_
    refine sim_aload_n 0 d_X12_back_39 rfl rfl ?_
    refine sim_geti d_X12_back_40 fl_X12_191 ob_R_0 rfl ?_
    refine sim_callVv Y_X12_weigh 8 [.int (mI M1 0 1)] [] d_X12_back_43 lk_X12_246 cv_X12_weigh ob_R_0 rfl (by omega) (Nat.le_of_ble_eq_true rfl) (ct_X12_weigh (mI M1 0 1) M1) (fun M2 => ?_)
    refine sim_aload_n 0 d_X12_back_46 rfl rfl ?_
    refine sim_lconst (0 : Int64) d_X12_back_47 rfl ?_
    refine sim_putl d_X12_back_48 fl_X12_239 ob_R_0 rfl ?_
    refine sim_nmM (fun M3 => ?_)
    refine sim_aload_n 0 d_X12_back_51 rfl rfl ?_
    refine sim_lconst (1 : Int64) d_X12_back_52 rfl ?_
    refine sim_putl d_X12_back_53 fl_X12_243 ob_R_0 rfl ?_
    refine sim_nmM (fun M4 => ?_)
    refine sim_iconst (0 : Int32) d_X12_back_56 rfl ?_
    refine sim_istore_n (L' := [(0, .ref 0), (1, .int (x1)), (2, .int ((0 : Int32)))]) d_X12_back_57 rfl (Nat.le_of_ble_eq_true rfl) rfl ?_
    exact sim_sub [0, 1, 2] rfl (s_X12_back_58 f_X12_back_166 s_X12_back_166 mm_fu x1 (0 : Int32) M4)
  ·
    refine sim_lconst (0 : Int64) d_X12_back_36 rfl ?_
    exact sim_lret d_X12_back_37 rfl
def f_X12_back (a1 : Int32) (M : mm_M) : Option (Int64 × mm_M) :=
  if (mI M 0 17) = 0 then
    f_X12_back_26 a1 (1 : Int32) M
  else
    mm_bi (f_X12_in a1 (0 : Int32) (3 : Int32) M) (fun r1 M1 =>
    if r1 = 0 then
      f_X12_back_26 a1 (2 : Int32) M1
    else
      f_X12_back_26 a1 (0 : Int32) M1)
theorem s_X12_back (a1 : Int32) (M : mm_M) : Sim sysR Y_X12_back 9 0 [(0, .ref 0), (1, .int (a1))] [] M mm_fL (f_X12_back a1 M) := by
  unfold f_X12_back
  refine sim_aload_n 0 d_X12_back_0 rfl rfl ?_
  refine sim_aload_n 0 d_X12_back_1 rfl rfl ?_
  refine sim_getz d_X12_back_2 fl_X12_222 ob_R_0 rfl ?_
  refine sim_if_ne d_X12_back_5 ?_ ?_
  ·
    refine sim_iload_n 1 d_X12_back_12 rfl rfl ?_
    refine sim_iconst (0 : Int32) d_X12_back_13 rfl ?_
    refine sim_iconst (3 : Int32) d_X12_back_14 rfl ?_
    refine sim_callSi Y_X12_in 0 [.int (a1), .int ((0 : Int32)), .int ((3 : Int32))] [.ref 0] d_X12_back_15 lk_X12_183 cs_X12_in rfl (by omega) (Nat.le_of_ble_eq_true rfl) (ct_X12_in a1 (0 : Int32) (3 : Int32) M) (fun r1 M1 => ?_)
    refine sim_if_eq d_X12_back_18 ?_ ?_
    ·
      refine sim_iconst (2 : Int32) d_X12_back_25 rfl ?_
      exact sim_sub [0, 1] rfl (s_X12_back_26 a1 (2 : Int32) M1)
    ·
      refine sim_iconst (0 : Int32) d_X12_back_21 rfl ?_
      refine sim_goto d_X12_back_22 ?_
      exact sim_sub [0, 1] rfl (s_X12_back_26 a1 (0 : Int32) M1)
  ·
    refine sim_iconst (1 : Int32) d_X12_back_8 rfl ?_
    refine sim_goto d_X12_back_9 ?_
    exact sim_sub [0, 1] rfl (s_X12_back_26 a1 (1 : Int32) M)
theorem ct_X12_back (a1 : Int32) (M : mm_M) : Ct sysR Y_X12_back 9 [.ref 0, .int (a1)] M mm_fL (f_X12_back a1 M) :=
  ct_of_sim (by decide) rfl (Nat.le_of_ble_eq_true rfl) (s_X12_back a1 M)
def f_X12_feed_44 : Nat → Int32 → Int64 → Int32 → mm_M → Option (Int32 × mm_M)
  | 0, _, _, _, _ => none
  | n + 1, x1, x2, x4, M =>
  if x1 ≤ x4 then
    some (mI M 0 27, M)
  else
    mm_ck (mI M 0 27) 80 (
    mm_let (sI M 19 (mI M 0 27).toNatClampNeg (((x2 >>> ((((8 : Int32) * x4)).toInt64 &&& 63)) &&& (255 : Int64)).toInt32)) (fun M1 =>
    mm_let (sI M1 0 27 ((mI M1 0 27) + (1 : Int32))) (fun M2 =>
    f_X12_feed_44 n x1 x2 (x4 + (1 : Int32)) M2)))
theorem s_X12_feed_44 (n : Nat) : ∀ (x1 : Int32) (x2 : Int64) (x4 : Int32) (M : mm_M), Sim sysR Y_X12_feed 1 44 [(0, .ref 0), (1, .int (x1)), (2, .long (x2)), (4, .int (x4))] [] M mm_fI (f_X12_feed_44 n x1 x2 x4 M) := by
  induction n with
  | zero => intros; exact sim_none
  | succ n ih =>
    intro x1 x2 x4 M
    rw [f_X12_feed_44]
    refine sim_iload 3 d_X12_feed_44 rfl ?_
    refine sim_iload_n 1 d_X12_feed_46 rfl rfl ?_
    refine sim_icmp_ge d_X12_feed_47 ?_ ?_
    ·
      refine sim_aload_n 0 d_X12_feed_87 rfl rfl ?_
      refine sim_geti d_X12_feed_88 fl_X12_255 ob_R_0 rfl ?_
      exact sim_iret d_X12_feed_91 rfl
    ·
      refine sim_aload_n 0 d_X12_feed_50 rfl rfl ?_
      refine sim_geta d_X12_feed_51 fl_X12_65 ob_R_0 rfl ?_
      refine sim_aload_n 0 d_X12_feed_54 rfl rfl ?_
      refine sim_geti d_X12_feed_55 fl_X12_255 ob_R_0 rfl ?_
      refine sim_lload_n 2 d_X12_feed_58 rfl rfl ?_
      refine sim_bipush (8 : Int32) d_X12_feed_59 rfl ?_
      refine sim_iload 3 d_X12_feed_61 rfl ?_
      refine sim_imul d_X12_feed_63 ?_
      refine sim_lshr d_X12_feed_64 ?_
      refine sim_ldc2 (255 : Int64) d_X12_feed_65 kn_X12_258 ?_
      refine sim_land d_X12_feed_68 ?_
      refine sim_l2i d_X12_feed_69 ?_
      refine sim_iast d_X12_feed_70 ar_R_19 ?_
      refine sim_nmM (fun M1 => ?_)
      refine sim_aload_n 0 d_X12_feed_71 rfl rfl ?_
      refine sim_dup d_X12_feed_72 rfl ?_
      refine sim_geti d_X12_feed_73 fl_X12_255 ob_R_0 rfl ?_
      refine sim_iconst (1 : Int32) d_X12_feed_76 rfl ?_
      refine sim_iadd d_X12_feed_77 ?_
      refine sim_puti d_X12_feed_78 fl_X12_255 ob_R_0 rfl ?_
      refine sim_nmM (fun M2 => ?_)
      refine sim_iinc (v := x4 + (1 : Int32)) (L' := [(0, .ref 0), (1, .int (x1)), (2, .long (x2)), (4, .int (x4 + (1 : Int32)))]) 3 d_X12_feed_81 (Nat.le_of_ble_eq_true rfl) rfl rfl rfl ?_
      refine sim_goto d_X12_feed_84 ?_
      exact sim_sub [0, 1, 2, 3] rfl (ih x1 x2 (x4 + (1 : Int32)) M2)
def f_X12_feed_34 (M : mm_M) : Option (Int32 × mm_M) :=
  mm_bi (f_X12_refuse (-6 : Int32) M) (fun r1 M1 =>
  some (r1, M1))
theorem s_X12_feed_34 (M : mm_M) : Sim sysR Y_X12_feed 1 34 [(0, .ref 0)] [] M mm_fI (f_X12_feed_34 M) := by
  unfold f_X12_feed_34
  refine sim_aload_n 0 d_X12_feed_34 rfl rfl ?_
  refine sim_bipush (-6 : Int32) d_X12_feed_35 rfl ?_
  refine sim_callVi Y_X12_refuse 0 [.int ((-6 : Int32))] [] d_X12_feed_37 lk_X12_187 cv_X12_refuse ob_R_0 rfl (by omega) (Nat.le_of_ble_eq_true rfl) (ct_X12_refuse (-6 : Int32) M) (fun r1 M1 => ?_)
  exact sim_iret d_X12_feed_40 rfl
def f_X12_feed (a1 : Int32) (a2 : Int64) (M : mm_M) : Option (Int32 × mm_M) :=
  mm_let (sI M 0 0 (0 : Int32)) (fun M1 =>
  if (1 : Int32) ≤ a1 then
    if (8 : Int32) < a1 then
      f_X12_feed_34 M1
    else
      if ((mI M1 0 27) + a1) ≤ (80 : Int32) then
        f_X12_feed_44 mm_fu a1 a2 (0 : Int32) M1
      else
        f_X12_feed_34 M1
  else
    mm_bi (f_X12_refuse (-4 : Int32) M1) (fun r1 M2 =>
    some (r1, M2)))
theorem s_X12_feed (a1 : Int32) (a2 : Int64) (M : mm_M) : Sim sysR Y_X12_feed 1 0 [(0, .ref 0), (1, .int (a1)), (2, .long (a2))] [] M mm_fI (f_X12_feed a1 a2 M) := by
  unfold f_X12_feed
  refine sim_aload_n 0 d_X12_feed_0 rfl rfl ?_
  refine sim_iconst (0 : Int32) d_X12_feed_1 rfl ?_
  refine sim_puti d_X12_feed_2 fl_X12_177 ob_R_0 rfl ?_
  refine sim_nmM (fun M1 => ?_)
  refine sim_iload_n 1 d_X12_feed_5 rfl rfl ?_
  refine sim_iconst (1 : Int32) d_X12_feed_6 rfl ?_
  refine sim_icmp_ge d_X12_feed_7 ?_ ?_
  ·
    refine sim_iload_n 1 d_X12_feed_17 rfl rfl ?_
    refine sim_bipush (8 : Int32) d_X12_feed_18 rfl ?_
    refine sim_icmp_gt d_X12_feed_20 ?_ ?_
    ·
      exact sim_sub [0] rfl (s_X12_feed_34 M1)
    ·
      refine sim_aload_n 0 d_X12_feed_23 rfl rfl ?_
      refine sim_geti d_X12_feed_24 fl_X12_255 ob_R_0 rfl ?_
      refine sim_iload_n 1 d_X12_feed_27 rfl rfl ?_
      refine sim_iadd d_X12_feed_28 ?_
      refine sim_bipush (80 : Int32) d_X12_feed_29 rfl ?_
      refine sim_icmp_le d_X12_feed_31 ?_ ?_
      ·
        refine sim_iconst (0 : Int32) d_X12_feed_41 rfl ?_
        refine sim_istore (L' := [(0, .ref 0), (1, .int (a1)), (2, .long (a2)), (4, .int ((0 : Int32)))]) d_X12_feed_42 (Nat.le_of_ble_eq_true rfl) rfl ?_
        exact sim_sub [0, 1, 2, 3] rfl (s_X12_feed_44 mm_fu a1 a2 (0 : Int32) M1)
      ·
        exact sim_sub [0] rfl (s_X12_feed_34 M1)
  ·
    refine sim_aload_n 0 d_X12_feed_10 rfl rfl ?_
    refine sim_bipush (-4 : Int32) d_X12_feed_11 rfl ?_
    refine sim_callVi Y_X12_refuse 0 [.int ((-4 : Int32))] [] d_X12_feed_13 lk_X12_187 cv_X12_refuse ob_R_0 rfl (by omega) (Nat.le_of_ble_eq_true rfl) (ct_X12_refuse (-4 : Int32) M1) (fun r1 M2 => ?_)
    exact sim_iret d_X12_feed_16 rfl
theorem ct_X12_feed (a1 : Int32) (a2 : Int64) (M : mm_M) : Ct sysR Y_X12_feed 1 [.ref 0, .int (a1), .long (a2)] M mm_fI (f_X12_feed a1 a2 M) :=
  ct_of_sim (by decide) rfl (Nat.le_of_ble_eq_true rfl) (s_X12_feed a1 a2 M)
def f_X12_rule_69 (k115 : Int32 → Int32 → mm_M → Option (Int32 × mm_M)) : Nat → Int32 → Int32 → Int32 → mm_M → Option (Int32 × mm_M)
  | 0, _, _, _, _ => none
  | n + 1, x1, x2, x3, M =>
  if (mI M 0 27) ≤ x3 then
    k115 x1 x2 M
  else
    mm_ck x3 80 (
    mm_ck x3 80 (
    mm_let (sI M 24 x3.toNatClampNeg (mI M 19 x3.toNatClampNeg)) (fun M1 =>
    mm_ck x3 80 (
    mm_ck (((80 : Int32) * (mI M1 0 28)) + x3) 1600 (
    mm_let (sI M1 22 (((80 : Int32) * (mI M1 0 28)) + x3).toNatClampNeg (mI M1 19 x3.toNatClampNeg)) (fun M2 =>
    f_X12_rule_69 k115 n x1 x2 (x3 + (1 : Int32)) M2))))))
theorem s_X12_rule_69 (k115 : Int32 → Int32 → mm_M → Option (Int32 × mm_M)) (hk115 : ∀ (x1 : Int32) (x2 : Int32) (M : mm_M), Sim sysR Y_X12_rule 6 115 [(0, .ref 0), (1, .int (x1)), (2, .int (x2))] [] M mm_fI (k115 x1 x2 M)) (n : Nat) : ∀ (x1 : Int32) (x2 : Int32) (x3 : Int32) (M : mm_M), Sim sysR Y_X12_rule 6 69 [(0, .ref 0), (1, .int (x1)), (2, .int (x2)), (3, .int (x3))] [] M mm_fI (f_X12_rule_69 k115 n x1 x2 x3 M) := by
  induction n with
  | zero => intros; exact sim_none
  | succ n ih =>
    intro x1 x2 x3 M
    rw [f_X12_rule_69]
    refine sim_iload_n 3 d_X12_rule_69 rfl rfl ?_
    refine sim_aload_n 0 d_X12_rule_70 rfl rfl ?_
    refine sim_geti d_X12_rule_71 fl_X12_255 ob_R_0 rfl ?_
    refine sim_icmp_ge d_X12_rule_74 ?_ ?_
    ·
      exact sim_sub [0, 1, 2] rfl (hk115 x1 x2 M)
    ·
      refine sim_aload_n 0 d_X12_rule_77 rfl rfl ?_
      refine sim_geta d_X12_rule_78 fl_X12_80 ob_R_0 rfl ?_
      refine sim_iload_n 3 d_X12_rule_81 rfl rfl ?_
      refine sim_aload_n 0 d_X12_rule_82 rfl rfl ?_
      refine sim_geta d_X12_rule_83 fl_X12_65 ob_R_0 rfl ?_
      refine sim_iload_n 3 d_X12_rule_86 rfl rfl ?_
      refine sim_iald d_X12_rule_87 ar_R_19 ?_
      refine sim_iast d_X12_rule_88 ar_R_24 ?_
      refine sim_nmM (fun M1 => ?_)
      refine sim_aload_n 0 d_X12_rule_89 rfl rfl ?_
      refine sim_geta d_X12_rule_90 fl_X12_74 ob_R_0 rfl ?_
      refine sim_bipush (80 : Int32) d_X12_rule_93 rfl ?_
      refine sim_aload_n 0 d_X12_rule_95 rfl rfl ?_
      refine sim_geti d_X12_rule_96 fl_X12_313 ob_R_0 rfl ?_
      refine sim_imul d_X12_rule_99 ?_
      refine sim_iload_n 3 d_X12_rule_100 rfl rfl ?_
      refine sim_iadd d_X12_rule_101 ?_
      refine sim_aload_n 0 d_X12_rule_102 rfl rfl ?_
      refine sim_geta d_X12_rule_103 fl_X12_65 ob_R_0 rfl ?_
      refine sim_iload_n 3 d_X12_rule_106 rfl rfl ?_
      refine sim_iald d_X12_rule_107 ar_R_19 ?_
      refine sim_iast d_X12_rule_108 ar_R_22 ?_
      refine sim_nmM (fun M2 => ?_)
      refine sim_iinc (v := x3 + (1 : Int32)) (L' := [(0, .ref 0), (1, .int (x1)), (2, .int (x2)), (3, .int (x3 + (1 : Int32)))]) 3 d_X12_rule_109 (Nat.le_of_ble_eq_true rfl) rfl rfl rfl ?_
      refine sim_goto d_X12_rule_112 ?_
      exact sim_sub [0, 1, 2, 3] rfl (ih x1 x2 (x3 + (1 : Int32)) M2)
def f_X12_rule_115 (x1 : Int32) (x2 : Int32) (M : mm_M) : Option (Int32 × mm_M) :=
  mm_let (sI M 0 27 (0 : Int32)) (fun M1 =>
  mm_bi (f_X12_readText M1) (fun r1 M2 =>
  if (mI M2 0 36) = 0 then
    mm_ck (mI M2 0 28) 20 (
    mm_let (sI M2 23 (mI M2 0 28).toNatClampNeg (mI M2 0 34)) (fun M3 =>
    mm_ck (mI M3 0 28) 20 (
    mm_let (sI M3 20 (mI M3 0 28).toNatClampNeg x1) (fun M4 =>
    mm_ck (mI M4 0 28) 20 (
    mm_let (sI M4 21 (mI M4 0 28).toNatClampNeg x2) (fun M5 =>
    mm_let (sI M5 0 28 ((mI M5 0 28) + (1 : Int32))) (fun M6 =>
    some ((mI M6 0 28) - (1 : Int32), M6))))))))
  else
    some ((-20 : Int32) - (mI M2 0 35), M2)))
theorem s_X12_rule_115 (x1 : Int32) (x2 : Int32) (M : mm_M) : Sim sysR Y_X12_rule 6 115 [(0, .ref 0), (1, .int (x1)), (2, .int (x2))] [] M mm_fI (f_X12_rule_115 x1 x2 M) := by
  unfold f_X12_rule_115
  refine sim_aload_n 0 d_X12_rule_115 rfl rfl ?_
  refine sim_iconst (0 : Int32) d_X12_rule_116 rfl ?_
  refine sim_puti d_X12_rule_117 fl_X12_255 ob_R_0 rfl ?_
  refine sim_nmM (fun M1 => ?_)
  refine sim_aload_n 0 d_X12_rule_120 rfl rfl ?_
  refine sim_callVi Y_X12_readText 5 [] [] d_X12_rule_121 lk_X12_316 cv_X12_readText ob_R_0 rfl (by omega) (Nat.le_of_ble_eq_true rfl) (ct_X12_readText M1) (fun r1 M2 => ?_)
  refine sim_istore_n (L' := [(0, .ref 0), (1, .int (x1)), (2, .int (x2)), (3, .int (r1))]) d_X12_rule_124 rfl (Nat.le_of_ble_eq_true rfl) rfl ?_
  refine sim_aload_n 0 d_X12_rule_125 rfl rfl ?_
  refine sim_getz d_X12_rule_126 fl_X12_275 ob_R_0 rfl ?_
  refine sim_if_eq d_X12_rule_129 ?_ ?_
  ·
    refine sim_aload_n 0 d_X12_rule_140 rfl rfl ?_
    refine sim_geta d_X12_rule_141 fl_X12_77 ob_R_0 rfl ?_
    refine sim_aload_n 0 d_X12_rule_144 rfl rfl ?_
    refine sim_geti d_X12_rule_145 fl_X12_313 ob_R_0 rfl ?_
    refine sim_aload_n 0 d_X12_rule_148 rfl rfl ?_
    refine sim_geti d_X12_rule_149 fl_X12_260 ob_R_0 rfl ?_
    refine sim_iast d_X12_rule_152 ar_R_23 ?_
    refine sim_nmM (fun M3 => ?_)
    refine sim_aload_n 0 d_X12_rule_153 rfl rfl ?_
    refine sim_geta d_X12_rule_154 fl_X12_68 ob_R_0 rfl ?_
    refine sim_aload_n 0 d_X12_rule_157 rfl rfl ?_
    refine sim_geti d_X12_rule_158 fl_X12_313 ob_R_0 rfl ?_
    refine sim_iload_n 1 d_X12_rule_161 rfl rfl ?_
    refine sim_iast d_X12_rule_162 ar_R_20 ?_
    refine sim_nmM (fun M4 => ?_)
    refine sim_aload_n 0 d_X12_rule_163 rfl rfl ?_
    refine sim_geta d_X12_rule_164 fl_X12_71 ob_R_0 rfl ?_
    refine sim_aload_n 0 d_X12_rule_167 rfl rfl ?_
    refine sim_geti d_X12_rule_168 fl_X12_313 ob_R_0 rfl ?_
    refine sim_iload_n 2 d_X12_rule_171 rfl rfl ?_
    refine sim_iast d_X12_rule_172 ar_R_21 ?_
    refine sim_nmM (fun M5 => ?_)
    refine sim_aload_n 0 d_X12_rule_173 rfl rfl ?_
    refine sim_dup d_X12_rule_174 rfl ?_
    refine sim_geti d_X12_rule_175 fl_X12_313 ob_R_0 rfl ?_
    refine sim_iconst (1 : Int32) d_X12_rule_178 rfl ?_
    refine sim_iadd d_X12_rule_179 ?_
    refine sim_puti d_X12_rule_180 fl_X12_313 ob_R_0 rfl ?_
    refine sim_nmM (fun M6 => ?_)
    refine sim_aload_n 0 d_X12_rule_183 rfl rfl ?_
    refine sim_geti d_X12_rule_184 fl_X12_313 ob_R_0 rfl ?_
    refine sim_iconst (1 : Int32) d_X12_rule_187 rfl ?_
    refine sim_isub d_X12_rule_188 ?_
    exact sim_iret d_X12_rule_189 rfl
  ·
    refine sim_bipush (-20 : Int32) d_X12_rule_132 rfl ?_
    refine sim_aload_n 0 d_X12_rule_134 rfl rfl ?_
    refine sim_geti d_X12_rule_135 fl_X12_263 ob_R_0 rfl ?_
    refine sim_isub d_X12_rule_138 ?_
    exact sim_iret d_X12_rule_139 rfl
def f_X12_rule_52 (M : mm_M) : Option (Int32 × mm_M) :=
  mm_bi (f_X12_refuse (-6 : Int32) M) (fun r1 M1 =>
  some (r1, M1))
theorem s_X12_rule_52 (M : mm_M) : Sim sysR Y_X12_rule 6 52 [(0, .ref 0)] [] M mm_fI (f_X12_rule_52 M) := by
  unfold f_X12_rule_52
  refine sim_aload_n 0 d_X12_rule_52 rfl rfl ?_
  refine sim_bipush (-6 : Int32) d_X12_rule_53 rfl ?_
  refine sim_callVi Y_X12_refuse 0 [.int ((-6 : Int32))] [] d_X12_rule_55 lk_X12_187 cv_X12_refuse ob_R_0 rfl (by omega) (Nat.le_of_ble_eq_true rfl) (ct_X12_refuse (-6 : Int32) M) (fun r1 M1 => ?_)
  exact sim_iret d_X12_rule_58 rfl
def f_X12_rule (a1 : Int32) (a2 : Int32) (M : mm_M) : Option (Int32 × mm_M) :=
  mm_let (sI M 0 0 (0 : Int32)) (fun M1 =>
  mm_bi (f_X12_in a1 (0 : Int32) (4 : Int32) M1) (fun r1 M2 =>
  if r1 = 0 then
    mm_bi (f_X12_refuse (-2 : Int32) M2) (fun r3 M5 =>
    some (r3, M5))
  else
    if (mI M2 0 1) ≤ a2 then
      if (2000 : Int32) < a2 then
        f_X12_rule_52 M2
      else
        if (mI M2 0 28) = (20 : Int32) then
          f_X12_rule_52 M2
        else
          mm_let (sI M2 0 34 (mI M2 0 27)) (fun M3 =>
          f_X12_rule_69 f_X12_rule_115 mm_fu a1 a2 (0 : Int32) M3)
    else
      mm_bi (f_X12_refuse (-4 : Int32) M2) (fun r2 M4 =>
      some (r2, M4))))
theorem s_X12_rule (a1 : Int32) (a2 : Int32) (M : mm_M) : Sim sysR Y_X12_rule 6 0 [(0, .ref 0), (1, .int (a1)), (2, .int (a2))] [] M mm_fI (f_X12_rule a1 a2 M) := by
  unfold f_X12_rule
  refine sim_aload_n 0 d_X12_rule_0 rfl rfl ?_
  refine sim_iconst (0 : Int32) d_X12_rule_1 rfl ?_
  refine sim_puti d_X12_rule_2 fl_X12_177 ob_R_0 rfl ?_
  refine sim_nmM (fun M1 => ?_)
  refine sim_iload_n 1 d_X12_rule_5 rfl rfl ?_
  refine sim_iconst (0 : Int32) d_X12_rule_6 rfl ?_
  refine sim_iconst (4 : Int32) d_X12_rule_7 rfl ?_
  refine sim_callSi Y_X12_in 0 [.int (a1), .int ((0 : Int32)), .int ((4 : Int32))] [] d_X12_rule_8 lk_X12_183 cs_X12_in rfl (by omega) (Nat.le_of_ble_eq_true rfl) (ct_X12_in a1 (0 : Int32) (4 : Int32) M1) (fun r1 M2 => ?_)
  refine sim_if_ne d_X12_rule_11 ?_ ?_
  ·
    refine sim_iload_n 2 d_X12_rule_21 rfl rfl ?_
    refine sim_aload_n 0 d_X12_rule_22 rfl rfl ?_
    refine sim_geti d_X12_rule_23 fl_X12_191 ob_R_0 rfl ?_
    refine sim_icmp_ge d_X12_rule_26 ?_ ?_
    ·
      refine sim_iload_n 2 d_X12_rule_36 rfl rfl ?_
      refine sim_sipush (2000 : Int32) d_X12_rule_37 rfl ?_
      refine sim_icmp_gt d_X12_rule_40 ?_ ?_
      ·
        exact sim_sub [0] rfl (s_X12_rule_52 M2)
      ·
        refine sim_aload_n 0 d_X12_rule_43 rfl rfl ?_
        refine sim_geti d_X12_rule_44 fl_X12_313 ob_R_0 rfl ?_
        refine sim_bipush (20 : Int32) d_X12_rule_47 rfl ?_
        refine sim_icmp_ne d_X12_rule_49 ?_ ?_
        ·
          refine sim_aload_n 0 d_X12_rule_59 rfl rfl ?_
          refine sim_aload_n 0 d_X12_rule_60 rfl rfl ?_
          refine sim_geti d_X12_rule_61 fl_X12_255 ob_R_0 rfl ?_
          refine sim_puti d_X12_rule_64 fl_X12_260 ob_R_0 rfl ?_
          refine sim_nmM (fun M3 => ?_)
          refine sim_iconst (0 : Int32) d_X12_rule_67 rfl ?_
          refine sim_istore_n (L' := [(0, .ref 0), (1, .int (a1)), (2, .int (a2)), (3, .int ((0 : Int32)))]) d_X12_rule_68 rfl (Nat.le_of_ble_eq_true rfl) rfl ?_
          exact sim_sub [0, 1, 2, 3] rfl (s_X12_rule_69 f_X12_rule_115 s_X12_rule_115 mm_fu a1 a2 (0 : Int32) M3)
        ·
          exact sim_sub [0] rfl (s_X12_rule_52 M2)
    ·
      refine sim_aload_n 0 d_X12_rule_29 rfl rfl ?_
      refine sim_bipush (-4 : Int32) d_X12_rule_30 rfl ?_
      refine sim_callVi Y_X12_refuse 0 [.int ((-4 : Int32))] [] d_X12_rule_32 lk_X12_187 cv_X12_refuse ob_R_0 rfl (by omega) (Nat.le_of_ble_eq_true rfl) (ct_X12_refuse (-4 : Int32) M2) (fun r2 M4 => ?_)
      exact sim_iret d_X12_rule_35 rfl
  ·
    refine sim_aload_n 0 d_X12_rule_14 rfl rfl ?_
    refine sim_bipush (-2 : Int32) d_X12_rule_15 rfl ?_
    refine sim_callVi Y_X12_refuse 0 [.int ((-2 : Int32))] [] d_X12_rule_17 lk_X12_187 cv_X12_refuse ob_R_0 rfl (by omega) (Nat.le_of_ble_eq_true rfl) (ct_X12_refuse (-2 : Int32) M2) (fun r3 M5 => ?_)
    exact sim_iret d_X12_rule_20 rfl
theorem ct_X12_rule (a1 : Int32) (a2 : Int32) (M : mm_M) : Ct sysR Y_X12_rule 6 [.ref 0, .int (a1), .int (a2)] M mm_fI (f_X12_rule a1 a2 M) :=
  ct_of_sim (by decide) rfl (Nat.le_of_ble_eq_true rfl) (s_X12_rule a1 a2 M)
def f_X12_force (a1 : Int32) (a2 : Int32) (M : mm_M) : Option (Int32 × mm_M) :=
  mm_let (sI M 0 0 (0 : Int32)) (fun M1 =>
  mm_bi (f_X12_in a1 (0 : Int32) (4 : Int32) M1) (fun r1 M2 =>
  if r1 = 0 then
    mm_bi (f_X12_refuse (-2 : Int32) M2) (fun r5 M6 =>
    some (r5, M6))
  else
    if 0 ≤ a2 then
      if a2 ≤ (2000 : Int32) then
        mm_bi (f_X12_ruleOn a1 a2 M2) (fun r2 M3 =>
        if 0 ≤ r2 then
          some (r2, M3)
        else
          some ((-9 : Int32), M3))
      else
        mm_bi (f_X12_refuse (-6 : Int32) M2) (fun r3 M4 =>
        some (r3, M4))
    else
      mm_bi (f_X12_refuse (-4 : Int32) M2) (fun r4 M5 =>
      some (r4, M5))))
theorem s_X12_force (a1 : Int32) (a2 : Int32) (M : mm_M) : Sim sysR Y_X12_force 1 0 [(0, .ref 0), (1, .int (a1)), (2, .int (a2))] [] M mm_fI (f_X12_force a1 a2 M) := by
  unfold f_X12_force
  refine sim_aload_n 0 d_X12_force_0 rfl rfl ?_
  refine sim_iconst (0 : Int32) d_X12_force_1 rfl ?_
  refine sim_puti d_X12_force_2 fl_X12_177 ob_R_0 rfl ?_
  refine sim_nmM (fun M1 => ?_)
  refine sim_iload_n 1 d_X12_force_5 rfl rfl ?_
  refine sim_iconst (0 : Int32) d_X12_force_6 rfl ?_
  refine sim_iconst (4 : Int32) d_X12_force_7 rfl ?_
  refine sim_callSi Y_X12_in 0 [.int (a1), .int ((0 : Int32)), .int ((4 : Int32))] [] d_X12_force_8 lk_X12_183 cs_X12_in rfl (by omega) (Nat.le_of_ble_eq_true rfl) (ct_X12_in a1 (0 : Int32) (4 : Int32) M1) (fun r1 M2 => ?_)
  refine sim_if_ne d_X12_force_11 ?_ ?_
  ·
    refine sim_iload_n 2 d_X12_force_21 rfl rfl ?_
    refine sim_if_ge d_X12_force_22 ?_ ?_
    ·
      refine sim_iload_n 2 d_X12_force_32 rfl rfl ?_
      refine sim_sipush (2000 : Int32) d_X12_force_33 rfl ?_
      refine sim_icmp_le d_X12_force_36 ?_ ?_
      ·
        refine sim_aload_n 0 d_X12_force_46 rfl rfl ?_
        refine sim_iload_n 1 d_X12_force_47 rfl rfl ?_
        refine sim_iload_n 2 d_X12_force_48 rfl rfl ?_
        refine sim_callVi Y_X12_ruleOn 0 [.int (a1), .int (a2)] [] d_X12_force_49 lk_X12_319 cv_X12_ruleOn ob_R_0 rfl (by omega) (Nat.le_of_ble_eq_true rfl) (ct_X12_ruleOn a1 a2 M2) (fun r2 M3 => ?_)
        refine sim_istore_n (L' := [(0, .ref 0), (1, .int (a1)), (2, .int (a2)), (3, .int (r2))]) d_X12_force_52 rfl (Nat.le_of_ble_eq_true rfl) rfl ?_
        refine sim_iload_n 3 d_X12_force_53 rfl rfl ?_
        refine sim_if_ge d_X12_force_54 ?_ ?_
        ·
          refine sim_iload_n 3 d_X12_force_62 rfl rfl ?_
          exact sim_iret d_X12_force_63 rfl
        ·
          refine sim_bipush (-9 : Int32) d_X12_force_57 rfl ?_
          refine sim_goto d_X12_force_59 ?_
          exact sim_iret d_X12_force_63 rfl
      ·
        refine sim_aload_n 0 d_X12_force_39 rfl rfl ?_
        refine sim_bipush (-6 : Int32) d_X12_force_40 rfl ?_
        refine sim_callVi Y_X12_refuse 0 [.int ((-6 : Int32))] [] d_X12_force_42 lk_X12_187 cv_X12_refuse ob_R_0 rfl (by omega) (Nat.le_of_ble_eq_true rfl) (ct_X12_refuse (-6 : Int32) M2) (fun r3 M4 => ?_)
        exact sim_iret d_X12_force_45 rfl
    ·
      refine sim_aload_n 0 d_X12_force_25 rfl rfl ?_
      refine sim_bipush (-4 : Int32) d_X12_force_26 rfl ?_
      refine sim_callVi Y_X12_refuse 0 [.int ((-4 : Int32))] [] d_X12_force_28 lk_X12_187 cv_X12_refuse ob_R_0 rfl (by omega) (Nat.le_of_ble_eq_true rfl) (ct_X12_refuse (-4 : Int32) M2) (fun r4 M5 => ?_)
      exact sim_iret d_X12_force_31 rfl
  ·
    refine sim_aload_n 0 d_X12_force_14 rfl rfl ?_
    refine sim_bipush (-2 : Int32) d_X12_force_15 rfl ?_
    refine sim_callVi Y_X12_refuse 0 [.int ((-2 : Int32))] [] d_X12_force_17 lk_X12_187 cv_X12_refuse ob_R_0 rfl (by omega) (Nat.le_of_ble_eq_true rfl) (ct_X12_refuse (-2 : Int32) M2) (fun r5 M6 => ?_)
    exact sim_iret d_X12_force_20 rfl
theorem ct_X12_force (a1 : Int32) (a2 : Int32) (M : mm_M) : Ct sysR Y_X12_force 1 [.ref 0, .int (a1), .int (a2)] M mm_fI (f_X12_force a1 a2 M) :=
  ct_of_sim (by decide) rfl (Nat.le_of_ble_eq_true rfl) (s_X12_force a1 a2 M)
def f_X12_test_123 (M : mm_M) : Option (Int32 × mm_M) :=
  mm_bi (f_X12_refuse (-3 : Int32) M) (fun r1 M1 =>
  some (r1, M1))
theorem s_X12_test_123 (M : mm_M) : Sim sysR Y_X12_test 2 123 [(0, .ref 0)] [] M mm_fI (f_X12_test_123 M) := by
  unfold f_X12_test_123
  refine sim_aload_n 0 d_X12_test_123 rfl rfl ?_
  refine sim_bipush (-3 : Int32) d_X12_test_124 rfl ?_
  refine sim_callVi Y_X12_refuse 0 [.int ((-3 : Int32))] [] d_X12_test_126 lk_X12_187 cv_X12_refuse ob_R_0 rfl (by omega) (Nat.le_of_ble_eq_true rfl) (ct_X12_refuse (-3 : Int32) M) (fun r1 M1 => ?_)
  exact sim_iret d_X12_test_129 rfl
def f_X12_test_158 (M : mm_M) : Option (Int32 × mm_M) :=
  mm_bi (f_X12_refuse (-6 : Int32) M) (fun r1 M1 =>
  some (r1, M1))
theorem s_X12_test_158 (M : mm_M) : Sim sysR Y_X12_test 2 158 [(0, .ref 0)] [] M mm_fI (f_X12_test_158 M) := by
  unfold f_X12_test_158
  refine sim_aload_n 0 d_X12_test_158 rfl rfl ?_
  refine sim_bipush (-6 : Int32) d_X12_test_159 rfl ?_
  refine sim_callVi Y_X12_refuse 0 [.int ((-6 : Int32))] [] d_X12_test_161 lk_X12_187 cv_X12_refuse ob_R_0 rfl (by omega) (Nat.le_of_ble_eq_true rfl) (ct_X12_refuse (-6 : Int32) M) (fun r1 M1 => ?_)
  exact sim_iret d_X12_test_164 rfl
def f_X12_test_113 (x1 : Int32) (x2 : Int32) (x4 : Int32) (x5 : Int32) (x6 : Int32) (M : mm_M) : Option (Int32 × mm_M) :=
  mm_bi (f_X12_ownerOn x1 x4 M) (fun r1 M1 =>
  if 0 ≤ r1 then
    if 0 ≤ x5 then
      if (23 : Int32) < x5 then
        f_X12_test_158 M1
      else
        if (mI M1 0 43) = (100 : Int32) then
          f_X12_test_158 M1
        else
          mm_ck (mI M1 0 43) 100 (
          mm_let (sI M1 28 (mI M1 0 43).toNatClampNeg x1) (fun M2 =>
          mm_ck (mI M2 0 43) 100 (
          mm_let (sI M2 29 (mI M2 0 43).toNatClampNeg x2) (fun M3 =>
          mm_ck (mI M3 0 43) 100 (
          mm_let (sI M3 30 (mI M3 0 43).toNatClampNeg x4) (fun M4 =>
          mm_ck (mI M4 0 43) 100 (
          mm_let (sI M4 31 (mI M4 0 43).toNatClampNeg x5) (fun M5 =>
          mm_ck (mI M5 0 43) 100 (
          mm_let (sI M5 32 (mI M5 0 43).toNatClampNeg x6) (fun M6 =>
          mm_ck (mI M6 0 43) 100 (
          mm_let (sI M6 33 (mI M6 0 43).toNatClampNeg (mI M6 0 1)) (fun M7 =>
          mm_ck (mI M7 0 43) 100 (
          mm_let (sI M7 34 (mI M7 0 43).toNatClampNeg (-1 : Int32)) (fun M8 =>
          mm_let (sI M8 0 43 ((mI M8 0 43) + (1 : Int32))) (fun M9 =>
          some ((mI M9 0 43) - (1 : Int32), M9))))))))))))))))
    else
      mm_bi (f_X12_refuse (-4 : Int32) M1) (fun r2 M10 =>
      some (r2, M10))
  else
    f_X12_test_123 M1)
theorem s_X12_test_113 (x1 : Int32) (x2 : Int32) (x4 : Int32) (x5 : Int32) (x6 : Int32) (M : mm_M) : Sim sysR Y_X12_test 2 113 [(0, .ref 0), (1, .int (x1)), (2, .int (x2)), (4, .int (x4)), (5, .int (x5)), (6, .int (x6))] [] M mm_fI (f_X12_test_113 x1 x2 x4 x5 x6 M) := by
  unfold f_X12_test_113
  refine sim_aload_n 0 d_X12_test_113 rfl rfl ?_
  refine sim_iload_n 1 d_X12_test_114 rfl rfl ?_
  refine sim_iload 3 d_X12_test_115 rfl ?_
  refine sim_callVi Y_X12_ownerOn 0 [.int (x1), .int (x4)] [] d_X12_test_117 lk_X12_322 cv_X12_ownerOn ob_R_0 rfl (by omega) (Nat.le_of_ble_eq_true rfl) (ct_X12_ownerOn x1 x4 M) (fun r1 M1 => ?_)
  refine sim_if_ge d_X12_test_120 ?_ ?_
  ·
    refine sim_iload 4 d_X12_test_130 rfl ?_
    refine sim_if_ge d_X12_test_132 ?_ ?_
    ·
      refine sim_iload 4 d_X12_test_142 rfl ?_
      refine sim_bipush (23 : Int32) d_X12_test_144 rfl ?_
      refine sim_icmp_gt d_X12_test_146 ?_ ?_
      ·
        exact sim_sub [0] rfl (s_X12_test_158 M1)
      ·
        refine sim_aload_n 0 d_X12_test_149 rfl rfl ?_
        refine sim_geti d_X12_test_150 fl_X12_249 ob_R_0 rfl ?_
        refine sim_bipush (100 : Int32) d_X12_test_153 rfl ?_
        refine sim_icmp_ne d_X12_test_155 ?_ ?_
        ·
          refine sim_aload_n 0 d_X12_test_165 rfl rfl ?_
          refine sim_geta d_X12_test_166 fl_X12_92 ob_R_0 rfl ?_
          refine sim_aload_n 0 d_X12_test_169 rfl rfl ?_
          refine sim_geti d_X12_test_170 fl_X12_249 ob_R_0 rfl ?_
          refine sim_iload_n 1 d_X12_test_173 rfl rfl ?_
          refine sim_iast d_X12_test_174 ar_R_28 ?_
          refine sim_nmM (fun M2 => ?_)
          refine sim_aload_n 0 d_X12_test_175 rfl rfl ?_
          refine sim_geta d_X12_test_176 fl_X12_95 ob_R_0 rfl ?_
          refine sim_aload_n 0 d_X12_test_179 rfl rfl ?_
          refine sim_geti d_X12_test_180 fl_X12_249 ob_R_0 rfl ?_
          refine sim_iload_n 2 d_X12_test_183 rfl rfl ?_
          refine sim_iast d_X12_test_184 ar_R_29 ?_
          refine sim_nmM (fun M3 => ?_)
          refine sim_aload_n 0 d_X12_test_185 rfl rfl ?_
          refine sim_geta d_X12_test_186 fl_X12_98 ob_R_0 rfl ?_
          refine sim_aload_n 0 d_X12_test_189 rfl rfl ?_
          refine sim_geti d_X12_test_190 fl_X12_249 ob_R_0 rfl ?_
          refine sim_iload 3 d_X12_test_193 rfl ?_
          refine sim_iast d_X12_test_195 ar_R_30 ?_
          refine sim_nmM (fun M4 => ?_)
          refine sim_aload_n 0 d_X12_test_196 rfl rfl ?_
          refine sim_geta d_X12_test_197 fl_X12_101 ob_R_0 rfl ?_
          refine sim_aload_n 0 d_X12_test_200 rfl rfl ?_
          refine sim_geti d_X12_test_201 fl_X12_249 ob_R_0 rfl ?_
          refine sim_iload 4 d_X12_test_204 rfl ?_
          refine sim_iast d_X12_test_206 ar_R_31 ?_
          refine sim_nmM (fun M5 => ?_)
          refine sim_aload_n 0 d_X12_test_207 rfl rfl ?_
          refine sim_geta d_X12_test_208 fl_X12_104 ob_R_0 rfl ?_
          refine sim_aload_n 0 d_X12_test_211 rfl rfl ?_
          refine sim_geti d_X12_test_212 fl_X12_249 ob_R_0 rfl ?_
          refine sim_iload 5 d_X12_test_215 rfl ?_
          refine sim_iast d_X12_test_217 ar_R_32 ?_
          refine sim_nmM (fun M6 => ?_)
          refine sim_aload_n 0 d_X12_test_218 rfl rfl ?_
          refine sim_geta d_X12_test_219 fl_X12_107 ob_R_0 rfl ?_
          refine sim_aload_n 0 d_X12_test_222 rfl rfl ?_
          refine sim_geti d_X12_test_223 fl_X12_249 ob_R_0 rfl ?_
          refine sim_aload_n 0 d_X12_test_226 rfl rfl ?_
          refine sim_geti d_X12_test_227 fl_X12_191 ob_R_0 rfl ?_
          refine sim_iast d_X12_test_230 ar_R_33 ?_
          refine sim_nmM (fun M7 => ?_)
          refine sim_aload_n 0 d_X12_test_231 rfl rfl ?_
          refine sim_geta d_X12_test_232 fl_X12_110 ob_R_0 rfl ?_
          refine sim_aload_n 0 d_X12_test_235 rfl rfl ?_
          refine sim_geti d_X12_test_236 fl_X12_249 ob_R_0 rfl ?_
          refine sim_iconst (-1 : Int32) d_X12_test_239 rfl ?_
          refine sim_iast d_X12_test_240 ar_R_34 ?_
          refine sim_nmM (fun M8 => ?_)
          refine sim_aload_n 0 d_X12_test_241 rfl rfl ?_
          refine sim_dup d_X12_test_242 rfl ?_
          refine sim_geti d_X12_test_243 fl_X12_249 ob_R_0 rfl ?_
          refine sim_iconst (1 : Int32) d_X12_test_246 rfl ?_
          refine sim_iadd d_X12_test_247 ?_
          refine sim_puti d_X12_test_248 fl_X12_249 ob_R_0 rfl ?_
          refine sim_nmM (fun M9 => ?_)
          refine sim_aload_n 0 d_X12_test_251 rfl rfl ?_
          refine sim_geti d_X12_test_252 fl_X12_249 ob_R_0 rfl ?_
          refine sim_iconst (1 : Int32) d_X12_test_255 rfl ?_
          refine sim_isub d_X12_test_256 ?_
          exact sim_iret d_X12_test_257 rfl
        ·
          exact sim_sub [0] rfl (s_X12_test_158 M1)
    ·
      refine sim_aload_n 0 d_X12_test_135 rfl rfl ?_
      refine sim_bipush (-4 : Int32) d_X12_test_136 rfl ?_
      refine sim_callVi Y_X12_refuse 0 [.int ((-4 : Int32))] [] d_X12_test_138 lk_X12_187 cv_X12_refuse ob_R_0 rfl (by omega) (Nat.le_of_ble_eq_true rfl) (ct_X12_refuse (-4 : Int32) M1) (fun r2 M10 => ?_)
      exact sim_iret d_X12_test_141 rfl
  ·
    exact sim_sub [0] rfl (s_X12_test_123 M1)
def f_X12_test_32 (M : mm_M) : Option (Int32 × mm_M) :=
  mm_bi (f_X12_refuse (-1 : Int32) M) (fun r1 M1 =>
  some (r1, M1))
theorem s_X12_test_32 (M : mm_M) : Sim sysR Y_X12_test 2 32 [(0, .ref 0)] [] M mm_fI (f_X12_test_32 M) := by
  unfold f_X12_test_32
  refine sim_aload_n 0 d_X12_test_32 rfl rfl ?_
  refine sim_iconst (-1 : Int32) d_X12_test_33 rfl ?_
  refine sim_callVi Y_X12_refuse 0 [.int ((-1 : Int32))] [] d_X12_test_34 lk_X12_187 cv_X12_refuse ob_R_0 rfl (by omega) (Nat.le_of_ble_eq_true rfl) (ct_X12_refuse (-1 : Int32) M) (fun r1 M1 => ?_)
  exact sim_iret d_X12_test_37 rfl
def f_X12_test (a1 : Int32) (a2 : Int32) (a3 : Int32) (a4 : Int32) (a5 : Int32) (a6 : Int32) (M : mm_M) : Option (Int32 × mm_M) :=
  mm_let (sI M 0 0 (0 : Int32)) (fun M1 =>
  mm_bi (f_X12_isShop a1 M1) (fun r1 M2 =>
  if r1 = 0 then
    f_X12_test_32 M2
  else
    mm_bi (f_X12_in a2 (0 : Int32) (7 : Int32) M2) (fun r2 M3 =>
    if r2 = 0 then
      f_X12_test_32 M3
    else
      mm_bi (f_X12_in a3 (0 : Int32) (3 : Int32) M3) (fun r3 M4 =>
      if r3 = 0 then
        f_X12_test_32 M4
      else
        mm_bi (f_X12_in a6 (0 : Int32) (7 : Int32) M4) (fun r4 M5 =>
        if r4 = 0 then
          mm_bi (f_X12_refuse (-2 : Int32) M5) (fun r6 M7 =>
          some (r6, M7))
        else
          mm_ck a2 8 (
          if (mI M5 9 a2.toNatClampNeg) = 0 then
            mm_bi (f_X12_refuse (-5 : Int32) M5) (fun r5 M6 =>
            some (r5, M6))
          else
            mm_ck a1 40 (
            if (mI M5 6 a1.toNatClampNeg) = 0 then
              f_X12_test_123 M5
            else
              if (mI M5 0 1) < a4 then
                f_X12_test_123 M5
              else
                if (mI M5 0 43) ≤ 0 then
                  f_X12_test_113 a1 a2 a4 a5 a6 M5
                else
                  mm_ck ((mI M5 0 43) - (1 : Int32)) 100 (
                  if a4 < (mI M5 30 ((mI M5 0 43) - (1 : Int32)).toNatClampNeg) then
                    f_X12_test_123 M5
                  else
                    f_X12_test_113 a1 a2 a4 a5 a6 M5))))))))
theorem s_X12_test (a1 : Int32) (a2 : Int32) (a3 : Int32) (a4 : Int32) (a5 : Int32) (a6 : Int32) (M : mm_M) : Sim sysR Y_X12_test 2 0 [(0, .ref 0), (1, .int (a1)), (2, .int (a2)), (3, .int (a3)), (4, .int (a4)), (5, .int (a5)), (6, .int (a6))] [] M mm_fI (f_X12_test a1 a2 a3 a4 a5 a6 M) := by
  unfold f_X12_test
  refine sim_aload_n 0 d_X12_test_0 rfl rfl ?_
  refine sim_iconst (0 : Int32) d_X12_test_1 rfl ?_
  refine sim_puti d_X12_test_2 fl_X12_177 ob_R_0 rfl ?_
  refine sim_nmM (fun M1 => ?_)
  refine sim_aload_n 0 d_X12_test_5 rfl rfl ?_
  refine sim_iload_n 1 d_X12_test_6 rfl rfl ?_
  refine sim_callVi Y_X12_isShop 1 [.int (a1)] [] d_X12_test_7 lk_X12_194 cv_X12_isShop ob_R_0 rfl (by omega) (Nat.le_of_ble_eq_true rfl) (ct_X12_isShop a1 M1) (fun r1 M2 => ?_)
  refine sim_if_eq d_X12_test_10 ?_ ?_
  ·
    exact sim_sub [0] rfl (s_X12_test_32 M2)
  ·
    refine sim_iload_n 2 d_X12_test_13 rfl rfl ?_
    refine sim_iconst (0 : Int32) d_X12_test_14 rfl ?_
    refine sim_bipush (7 : Int32) d_X12_test_15 rfl ?_
    refine sim_callSi Y_X12_in 0 [.int (a2), .int ((0 : Int32)), .int ((7 : Int32))] [] d_X12_test_17 lk_X12_183 cs_X12_in rfl (by omega) (Nat.le_of_ble_eq_true rfl) (ct_X12_in a2 (0 : Int32) (7 : Int32) M2) (fun r2 M3 => ?_)
    refine sim_if_eq d_X12_test_20 ?_ ?_
    ·
      exact sim_sub [0] rfl (s_X12_test_32 M3)
    ·
      refine sim_iload_n 3 d_X12_test_23 rfl rfl ?_
      refine sim_iconst (0 : Int32) d_X12_test_24 rfl ?_
      refine sim_iconst (3 : Int32) d_X12_test_25 rfl ?_
      refine sim_callSi Y_X12_in 0 [.int (a3), .int ((0 : Int32)), .int ((3 : Int32))] [] d_X12_test_26 lk_X12_183 cs_X12_in rfl (by omega) (Nat.le_of_ble_eq_true rfl) (ct_X12_in a3 (0 : Int32) (3 : Int32) M3) (fun r3 M4 => ?_)
      refine sim_if_ne d_X12_test_29 ?_ ?_
      ·
        refine sim_iload 6 d_X12_test_38 rfl ?_
        refine sim_iconst (0 : Int32) d_X12_test_40 rfl ?_
        refine sim_bipush (7 : Int32) d_X12_test_41 rfl ?_
        refine sim_callSi Y_X12_in 0 [.int (a6), .int ((0 : Int32)), .int ((7 : Int32))] [] d_X12_test_43 lk_X12_183 cs_X12_in rfl (by omega) (Nat.le_of_ble_eq_true rfl) (ct_X12_in a6 (0 : Int32) (7 : Int32) M4) (fun r4 M5 => ?_)
        refine sim_if_ne d_X12_test_46 ?_ ?_
        ·
          refine sim_aload_n 0 d_X12_test_56 rfl rfl ?_
          refine sim_geta d_X12_test_57 fl_X12_35 ob_R_0 rfl ?_
          refine sim_iload_n 2 d_X12_test_60 rfl rfl ?_
          refine sim_zald d_X12_test_61 ar_R_9 ?_
          refine sim_if_ne d_X12_test_62 ?_ ?_
          ·
            refine sim_aload_n 0 d_X12_test_72 rfl rfl ?_
            refine sim_geta d_X12_test_73 fl_X12_25 ob_R_0 rfl ?_
            refine sim_iload_n 1 d_X12_test_76 rfl rfl ?_
            refine sim_zald d_X12_test_77 ar_R_6 ?_
            refine sim_if_eq d_X12_test_78 ?_ ?_
            ·
              exact sim_sub [0] rfl (s_X12_test_123 M5)
            ·
              refine sim_iload 4 d_X12_test_81 rfl ?_
              refine sim_aload_n 0 d_X12_test_83 rfl rfl ?_
              refine sim_geti d_X12_test_84 fl_X12_191 ob_R_0 rfl ?_
              refine sim_icmp_gt d_X12_test_87 ?_ ?_
              ·
                exact sim_sub [0] rfl (s_X12_test_123 M5)
              ·
                refine sim_aload_n 0 d_X12_test_90 rfl rfl ?_
                refine sim_geti d_X12_test_91 fl_X12_249 ob_R_0 rfl ?_
                refine sim_if_le d_X12_test_94 ?_ ?_
                ·
                  exact sim_sub [0, 1, 2, 4, 5, 6] rfl (s_X12_test_113 a1 a2 a4 a5 a6 M5)
                ·
                  refine sim_iload 4 d_X12_test_97 rfl ?_
                  refine sim_aload_n 0 d_X12_test_99 rfl rfl ?_
                  refine sim_geta d_X12_test_100 fl_X12_98 ob_R_0 rfl ?_
                  refine sim_aload_n 0 d_X12_test_103 rfl rfl ?_
                  refine sim_geti d_X12_test_104 fl_X12_249 ob_R_0 rfl ?_
                  refine sim_iconst (1 : Int32) d_X12_test_107 rfl ?_
                  refine sim_isub d_X12_test_108 ?_
                  refine sim_iald d_X12_test_109 ar_R_30 ?_
                  refine sim_icmp_lt d_X12_test_110 ?_ ?_
                  ·
                    exact sim_sub [0] rfl (s_X12_test_123 M5)
                  ·
                    exact sim_sub [0, 1, 2, 4, 5, 6] rfl (s_X12_test_113 a1 a2 a4 a5 a6 M5)
          ·
            refine sim_aload_n 0 d_X12_test_65 rfl rfl ?_
            refine sim_bipush (-5 : Int32) d_X12_test_66 rfl ?_
            refine sim_callVi Y_X12_refuse 0 [.int ((-5 : Int32))] [] d_X12_test_68 lk_X12_187 cv_X12_refuse ob_R_0 rfl (by omega) (Nat.le_of_ble_eq_true rfl) (ct_X12_refuse (-5 : Int32) M5) (fun r5 M6 => ?_)
            exact sim_iret d_X12_test_71 rfl
        ·
          refine sim_aload_n 0 d_X12_test_49 rfl rfl ?_
          refine sim_bipush (-2 : Int32) d_X12_test_50 rfl ?_
          refine sim_callVi Y_X12_refuse 0 [.int ((-2 : Int32))] [] d_X12_test_52 lk_X12_187 cv_X12_refuse ob_R_0 rfl (by omega) (Nat.le_of_ble_eq_true rfl) (ct_X12_refuse (-2 : Int32) M5) (fun r6 M7 => ?_)
          exact sim_iret d_X12_test_55 rfl
      ·
        exact sim_sub [0] rfl (s_X12_test_32 M4)
theorem ct_X12_test (a1 : Int32) (a2 : Int32) (a3 : Int32) (a4 : Int32) (a5 : Int32) (a6 : Int32) (M : mm_M) : Ct sysR Y_X12_test 2 [.ref 0, .int (a1), .int (a2), .int (a3), .int (a4), .int (a5), .int (a6)] M mm_fI (f_X12_test a1 a2 a3 a4 a5 a6 M) :=
  ct_of_sim (by decide) rfl (Nat.le_of_ble_eq_true rfl) (s_X12_test a1 a2 a3 a4 a5 a6 M)

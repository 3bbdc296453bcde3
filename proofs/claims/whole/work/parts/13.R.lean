def f_X12_helped_83 (k46 : Int32 → Int32 → Int32 → mm_M → Option (Int64 × mm_M)) (x1 : Int32) (x2 : Int32) (x3 : Int32) (M : mm_M) : Option (Int64 × mm_M) :=
  k46 x1 x2 (x3 + (1 : Int32)) M
theorem s_X12_helped_83 (k46 : Int32 → Int32 → Int32 → mm_M → Option (Int64 × mm_M)) (hk46 : ∀ (x1 : Int32) (x2 : Int32) (x3 : Int32) (M : mm_M), Sim sysR Y_X12_helped 10 46 [(0, .ref 0), (1, .int (x1)), (2, .int (x2)), (3, .int (x3))] [] M mm_fL (k46 x1 x2 x3 M)) (x1 : Int32) (x2 : Int32) (x3 : Int32) (M : mm_M) : Sim sysR Y_X12_helped 10 83 [(0, .ref 0), (1, .int (x1)), (2, .int (x2)), (3, .int (x3))] [] M mm_fL (f_X12_helped_83 k46 x1 x2 x3 M) := by
  unfold f_X12_helped_83
  refine sim_iinc (v := x3 + (1 : Int32)) (L' := [(0, .ref 0), (1, .int (x1)), (2, .int (x2)), (3, .int (x3 + (1 : Int32)))]) 3 d_X12_helped_83 (Nat.le_of_ble_eq_true rfl) rfl rfl rfl ?_
  refine sim_goto d_X12_helped_86 ?_
  exact sim_sub [0, 1, 2, 3] rfl (hk46 x1 x2 (x3 + (1 : Int32)) M)
def f_X12_helped_79 (k46 : Int32 → Int32 → Int32 → mm_M → Option (Int64 × mm_M)) (x1 : Int32) (x2 : Int32) (x3 : Int32) (t1 : Int32) (t2 : Int32) (M : mm_M) : Option (Int64 × mm_M) :=
  mm_bv (f_X12_countIn t1 t2 x1 M) (fun M1 =>
  f_X12_helped_83 k46 x1 x2 x3 M1)
theorem s_X12_helped_79 (k46 : Int32 → Int32 → Int32 → mm_M → Option (Int64 × mm_M)) (hk46 : ∀ (x1 : Int32) (x2 : Int32) (x3 : Int32) (M : mm_M), Sim sysR Y_X12_helped 10 46 [(0, .ref 0), (1, .int (x1)), (2, .int (x2)), (3, .int (x3))] [] M mm_fL (k46 x1 x2 x3 M)) (x1 : Int32) (x2 : Int32) (x3 : Int32) (t1 : Int32) (t2 : Int32) (M : mm_M) : Sim sysR Y_X12_helped 10 79 [(0, .ref 0), (1, .int (x1)), (2, .int (x2)), (3, .int (x3))] [.int (t2), .int (t1), .ref 0] M mm_fL (f_X12_helped_79 k46 x1 x2 x3 t1 t2 M) := by
  unfold f_X12_helped_79
  refine sim_iload_n 1 d_X12_helped_79 rfl rfl ?_
  refine sim_callVv Y_X12_countIn 0 [.int (t1), .int (t2), .int (x1)] [] d_X12_helped_80 lk_X12_392 cv_X12_countIn ob_R_0 rfl (by omega) (Nat.le_of_ble_eq_true rfl) (ct_X12_countIn t1 t2 x1 M) (fun M1 => ?_)
  exact sim_sub [0, 1, 2, 3] rfl (s_X12_helped_83 k46 hk46 x1 x2 x3 M1)
def f_X12_helped_46 (k89 : Int32 → mm_M → Option (Int64 × mm_M)) : Nat → Int32 → Int32 → Int32 → mm_M → Option (Int64 × mm_M)
  | 0, _, _, _, _ => none
  | n + 1, x1, x2, x3, M =>
  if (mI M 0 2) ≤ x3 then
    k89 x2 M
  else
    mm_ck x3 40 (
    if (mI M 15 x3.toNatClampNeg) = 0 then
      f_X12_helped_83 (f_X12_helped_46 k89 n) x1 x2 x3 M
    else
      mm_ck x3 40 (
      if (mI M 47 x3.toNatClampNeg) = 0 then
        f_X12_helped_79 (f_X12_helped_46 k89 n) x1 x2 x3 x3 (2 : Int32) M
      else
        f_X12_helped_79 (f_X12_helped_46 k89 n) x1 x2 x3 x3 (0 : Int32) M))
theorem s_X12_helped_46 (k89 : Int32 → mm_M → Option (Int64 × mm_M)) (hk89 : ∀ (x2 : Int32) (M : mm_M), Sim sysR Y_X12_helped 10 89 [(0, .ref 0), (2, .int (x2))] [] M mm_fL (k89 x2 M)) (n : Nat) : ∀ (x1 : Int32) (x2 : Int32) (x3 : Int32) (M : mm_M), Sim sysR Y_X12_helped 10 46 [(0, .ref 0), (1, .int (x1)), (2, .int (x2)), (3, .int (x3))] [] M mm_fL (f_X12_helped_46 k89 n x1 x2 x3 M) := by
  induction n with
  | zero => intros; exact sim_none
  | succ n ih =>
    intro x1 x2 x3 M
    rw [f_X12_helped_46]
    refine sim_iload_n 3 d_X12_helped_46 rfl rfl ?_
    refine sim_aload_n 0 d_X12_helped_47 rfl rfl ?_
    refine sim_geti d_X12_helped_48 fl_X12_180 ob_R_0 rfl ?_
    refine sim_icmp_ge d_X12_helped_51 ?_ ?_
    ·
      exact sim_sub [0, 2] rfl (hk89 x2 M)
    ·
      refine sim_aload_n 0 d_X12_helped_54 rfl rfl ?_
      refine sim_geta d_X12_helped_55 fl_X12_53 ob_R_0 rfl ?_
      refine sim_iload_n 3 d_X12_helped_58 rfl rfl ?_
      refine sim_zald d_X12_helped_59 ar_R_15 ?_
      refine sim_if_eq d_X12_helped_60 ?_ ?_
      ·
        exact sim_sub [0, 1, 2, 3] rfl (s_X12_helped_83 (f_X12_helped_46 k89 n) ih x1 x2 x3 M)
      ·
        refine sim_aload_n 0 d_X12_helped_63 rfl rfl ?_
        refine sim_iload_n 3 d_X12_helped_64 rfl rfl ?_
        refine sim_aload_n 0 d_X12_helped_65 rfl rfl ?_
        refine sim_geta d_X12_helped_66 fl_X12_153 ob_R_0 rfl ?_
        refine sim_iload_n 3 d_X12_helped_69 rfl rfl ?_
        refine sim_zald d_X12_helped_70 ar_R_47 ?_
        refine sim_if_eq d_X12_helped_71 ?_ ?_
        ·
          refine sim_iconst (2 : Int32) d_X12_helped_78 rfl ?_
          exact sim_sub [0, 1, 2, 3] rfl (s_X12_helped_79 (f_X12_helped_46 k89 n) ih x1 x2 x3 x3 (2 : Int32) M)
        ·
          refine sim_iconst (0 : Int32) d_X12_helped_74 rfl ?_
          refine sim_goto d_X12_helped_75 ?_
          exact sim_sub [0, 1, 2, 3] rfl (s_X12_helped_79 (f_X12_helped_46 k89 n) ih x1 x2 x3 x3 (0 : Int32) M)
def f_X12_helped_89 (x2 : Int32) (M : mm_M) : Option (Int64 × mm_M) :=
  mm_bi (f_X12_chance x2 M) (fun r1 M1 =>
  some (r1, M1))
theorem s_X12_helped_89 (x2 : Int32) (M : mm_M) : Sim sysR Y_X12_helped 10 89 [(0, .ref 0), (2, .int (x2))] [] M mm_fL (f_X12_helped_89 x2 M) := by
  unfold f_X12_helped_89
  refine sim_aload_n 0 d_X12_helped_89 rfl rfl ?_
  refine sim_iload_n 1 d_X12_helped_90 rfl rfl ?_
  refine sim_callVl Y_X12_chance 1 [.int (x2)] [] d_X12_helped_91 lk_X12_396 cv_X12_chance ob_R_0 rfl (by omega) (Nat.le_of_ble_eq_true rfl) (ct_X12_chance x2 M) (fun r1 M1 => ?_)
  exact sim_lret d_X12_helped_94 rfl
def f_X12_helped (a1 : Int32) (a2 : Int32) (M : mm_M) : Option (Int64 × mm_M) :=
  mm_let (sI M 0 0 (0 : Int32)) (fun M1 =>
  mm_bi (f_X12_in a2 (0 : Int32) (6 : Int32) M1) (fun r1 M2 =>
  if r1 = 0 then
    mm_bi (f_X12_refuse (-2 : Int32) M2) (fun r5 M7 =>
    some ((r5).toInt64, M7))
  else
    mm_bi (f_X12_wrongDay a1 M2) (fun r2 M3 =>
    if 0 ≤ r2 then
      mm_bv (f_X12_noTable M3) (fun M4 =>
      f_X12_helped_46 f_X12_helped_89 mm_fu a1 a2 (0 : Int32) M4)
    else
      mm_bi (f_X12_wrongDay a1 M3) (fun r3 M5 =>
      mm_bi (f_X12_refuse r3 M5) (fun r4 M6 =>
      some ((r4).toInt64, M6))))))
theorem s_X12_helped (a1 : Int32) (a2 : Int32) (M : mm_M) : Sim sysR Y_X12_helped 10 0 [(0, .ref 0), (1, .int (a1)), (2, .int (a2))] [] M mm_fL (f_X12_helped a1 a2 M) := by
  unfold f_X12_helped
  refine sim_aload_n 0 d_X12_helped_0 rfl rfl ?_
  refine sim_iconst (0 : Int32) d_X12_helped_1 rfl ?_
  refine sim_puti d_X12_helped_2 fl_X12_177 ob_R_0 rfl ?_
  refine sim_nmM (fun M1 => ?_)
  refine sim_iload_n 2 d_X12_helped_5 rfl rfl ?_
  refine sim_iconst (0 : Int32) d_X12_helped_6 rfl ?_
  refine sim_bipush (6 : Int32) d_X12_helped_7 rfl ?_
  refine sim_callSi Y_X12_in 0 [.int (a2), .int ((0 : Int32)), .int ((6 : Int32))] [] d_X12_helped_9 lk_X12_183 cs_X12_in rfl (by omega) (Nat.le_of_ble_eq_true rfl) (ct_X12_in a2 (0 : Int32) (6 : Int32) M1) (fun r1 M2 => ?_)
  refine sim_if_ne d_X12_helped_12 ?_ ?_
  ·
    refine sim_iload_n 1 d_X12_helped_23 rfl rfl ?_
    refine sim_callSi Y_X12_wrongDay 0 [.int (a1)] [] d_X12_helped_24 lk_X12_342 cs_X12_wrongDay rfl (by omega) (Nat.le_of_ble_eq_true rfl) (ct_X12_wrongDay a1 M2) (fun r2 M3 => ?_)
    refine sim_if_ge d_X12_helped_27 ?_ ?_
    ·
      refine sim_aload_n 0 d_X12_helped_40 rfl rfl ?_
      refine sim_callVv Y_X12_noTable 9 [] [] d_X12_helped_41 lk_X12_389 cv_X12_noTable ob_R_0 rfl (by omega) (Nat.le_of_ble_eq_true rfl) (ct_X12_noTable M3) (fun M4 => ?_)
      refine sim_iconst (0 : Int32) d_X12_helped_44 rfl ?_
      refine sim_istore_n (L' := [(0, .ref 0), (1, .int (a1)), (2, .int (a2)), (3, .int ((0 : Int32)))]) d_X12_helped_45 rfl (Nat.le_of_ble_eq_true rfl) rfl ?_
      exact sim_sub [0, 1, 2, 3] rfl (s_X12_helped_46 f_X12_helped_89 s_X12_helped_89 mm_fu a1 a2 (0 : Int32) M4)
    ·
      refine sim_aload_n 0 d_X12_helped_30 rfl rfl ?_
      refine sim_iload_n 1 d_X12_helped_31 rfl rfl ?_
      refine sim_callSi Y_X12_wrongDay 0 [.int (a1)] [.ref 0] d_X12_helped_32 lk_X12_342 cs_X12_wrongDay rfl (by omega) (Nat.le_of_ble_eq_true rfl) (ct_X12_wrongDay a1 M3) (fun r3 M5 => ?_)
      refine sim_callVi Y_X12_refuse 0 [.int (r3)] [] d_X12_helped_35 lk_X12_187 cv_X12_refuse ob_R_0 rfl (by omega) (Nat.le_of_ble_eq_true rfl) (ct_X12_refuse r3 M5) (fun r4 M6 => ?_)
      refine sim_i2l d_X12_helped_38 ?_
      exact sim_lret d_X12_helped_39 rfl
  ·
    refine sim_aload_n 0 d_X12_helped_15 rfl rfl ?_
    refine sim_bipush (-2 : Int32) d_X12_helped_16 rfl ?_
    refine sim_callVi Y_X12_refuse 0 [.int ((-2 : Int32))] [] d_X12_helped_18 lk_X12_187 cv_X12_refuse ob_R_0 rfl (by omega) (Nat.le_of_ble_eq_true rfl) (ct_X12_refuse (-2 : Int32) M2) (fun r5 M7 => ?_)
    refine sim_i2l d_X12_helped_21 ?_
    exact sim_lret d_X12_helped_22 rfl
theorem ct_X12_helped (a1 : Int32) (a2 : Int32) (M : mm_M) : Ct sysR Y_X12_helped 10 [.ref 0, .int (a1), .int (a2)] M mm_fL (f_X12_helped a1 a2 M) :=
  ct_of_sim (by decide) rfl (Nat.le_of_ble_eq_true rfl) (s_X12_helped a1 a2 M)
def f_X12_wards_132 (k78 : Int32 → Int32 → Int32 → Int32 → Int32 → mm_M → Option (Int64 × mm_M)) (x1 : Int32) (x2 : Int32) (x3 : Int32) (x4 : Int32) (x5 : Int32) (M : mm_M) : Option (Int64 × mm_M) :=
  k78 x1 x2 x3 x4 (x5 + (1 : Int32)) M
theorem s_X12_wards_132 (k78 : Int32 → Int32 → Int32 → Int32 → Int32 → mm_M → Option (Int64 × mm_M)) (hk78 : ∀ (x1 : Int32) (x2 : Int32) (x3 : Int32) (x4 : Int32) (x5 : Int32) (M : mm_M), Sim sysR Y_X12_wards 10 78 [(0, .ref 0), (1, .int (x1)), (2, .int (x2)), (3, .int (x3)), (4, .int (x4)), (5, .int (x5))] [] M mm_fL (k78 x1 x2 x3 x4 x5 M)) (x1 : Int32) (x2 : Int32) (x3 : Int32) (x4 : Int32) (x5 : Int32) (M : mm_M) : Sim sysR Y_X12_wards 10 132 [(0, .ref 0), (1, .int (x1)), (2, .int (x2)), (3, .int (x3)), (4, .int (x4)), (5, .int (x5))] [] M mm_fL (f_X12_wards_132 k78 x1 x2 x3 x4 x5 M) := by
  unfold f_X12_wards_132
  refine sim_iinc (v := x5 + (1 : Int32)) (L' := [(0, .ref 0), (1, .int (x1)), (2, .int (x2)), (3, .int (x3)), (4, .int (x4)), (5, .int (x5 + (1 : Int32)))]) 5 d_X12_wards_132 (Nat.le_of_ble_eq_true rfl) rfl rfl rfl ?_
  refine sim_goto d_X12_wards_135 ?_
  exact sim_sub [0, 1, 2, 3, 4, 5] rfl (hk78 x1 x2 x3 x4 (x5 + (1 : Int32)) M)
def f_X12_wards_128 (k78 : Int32 → Int32 → Int32 → Int32 → Int32 → mm_M → Option (Int64 × mm_M)) (x1 : Int32) (x2 : Int32) (x3 : Int32) (x4 : Int32) (x5 : Int32) (t1 : Int32) (t2 : Int32) (M : mm_M) : Option (Int64 × mm_M) :=
  mm_bv (f_X12_countIn t1 t2 x3 M) (fun M1 =>
  f_X12_wards_132 k78 x1 x2 x3 x4 x5 M1)
theorem s_X12_wards_128 (k78 : Int32 → Int32 → Int32 → Int32 → Int32 → mm_M → Option (Int64 × mm_M)) (hk78 : ∀ (x1 : Int32) (x2 : Int32) (x3 : Int32) (x4 : Int32) (x5 : Int32) (M : mm_M), Sim sysR Y_X12_wards 10 78 [(0, .ref 0), (1, .int (x1)), (2, .int (x2)), (3, .int (x3)), (4, .int (x4)), (5, .int (x5))] [] M mm_fL (k78 x1 x2 x3 x4 x5 M)) (x1 : Int32) (x2 : Int32) (x3 : Int32) (x4 : Int32) (x5 : Int32) (t1 : Int32) (t2 : Int32) (M : mm_M) : Sim sysR Y_X12_wards 10 128 [(0, .ref 0), (1, .int (x1)), (2, .int (x2)), (3, .int (x3)), (4, .int (x4)), (5, .int (x5))] [.int (t2), .int (t1), .ref 0] M mm_fL (f_X12_wards_128 k78 x1 x2 x3 x4 x5 t1 t2 M) := by
  unfold f_X12_wards_128
  refine sim_iload_n 3 d_X12_wards_128 rfl rfl ?_
  refine sim_callVv Y_X12_countIn 0 [.int (t1), .int (t2), .int (x3)] [] d_X12_wards_129 lk_X12_392 cv_X12_countIn ob_R_0 rfl (by omega) (Nat.le_of_ble_eq_true rfl) (ct_X12_countIn t1 t2 x3 M) (fun M1 => ?_)
  exact sim_sub [0, 1, 2, 3, 4, 5] rfl (s_X12_wards_132 k78 hk78 x1 x2 x3 x4 x5 M1)
def f_X12_wards_109 (k78 : Int32 → Int32 → Int32 → Int32 → Int32 → mm_M → Option (Int64 × mm_M)) (x1 : Int32) (x2 : Int32) (x3 : Int32) (x4 : Int32) (x5 : Int32) (M : mm_M) : Option (Int64 × mm_M) :=
  mm_ck x5 40 (
  if (mI M 2 x5.toNatClampNeg) = x1 then
    f_X12_wards_128 k78 x1 x2 x3 x4 x5 x5 (0 : Int32) M
  else
    f_X12_wards_128 k78 x1 x2 x3 x4 x5 x5 (2 : Int32) M)
theorem s_X12_wards_109 (k78 : Int32 → Int32 → Int32 → Int32 → Int32 → mm_M → Option (Int64 × mm_M)) (hk78 : ∀ (x1 : Int32) (x2 : Int32) (x3 : Int32) (x4 : Int32) (x5 : Int32) (M : mm_M), Sim sysR Y_X12_wards 10 78 [(0, .ref 0), (1, .int (x1)), (2, .int (x2)), (3, .int (x3)), (4, .int (x4)), (5, .int (x5))] [] M mm_fL (k78 x1 x2 x3 x4 x5 M)) (x1 : Int32) (x2 : Int32) (x3 : Int32) (x4 : Int32) (x5 : Int32) (M : mm_M) : Sim sysR Y_X12_wards 10 109 [(0, .ref 0), (1, .int (x1)), (2, .int (x2)), (3, .int (x3)), (4, .int (x4)), (5, .int (x5))] [] M mm_fL (f_X12_wards_109 k78 x1 x2 x3 x4 x5 M) := by
  unfold f_X12_wards_109
  refine sim_aload_n 0 d_X12_wards_109 rfl rfl ?_
  refine sim_iload 5 d_X12_wards_110 rfl ?_
  refine sim_aload_n 0 d_X12_wards_112 rfl rfl ?_
  refine sim_geta d_X12_wards_113 fl_X12_13 ob_R_0 rfl ?_
  refine sim_iload 5 d_X12_wards_116 rfl ?_
  refine sim_iald d_X12_wards_118 ar_R_2 ?_
  refine sim_iload_n 1 d_X12_wards_119 rfl rfl ?_
  refine sim_icmp_ne d_X12_wards_120 ?_ ?_
  ·
    refine sim_iconst (2 : Int32) d_X12_wards_127 rfl ?_
    exact sim_sub [0, 1, 2, 3, 4, 5] rfl (s_X12_wards_128 k78 hk78 x1 x2 x3 x4 x5 x5 (2 : Int32) M)
  ·
    refine sim_iconst (0 : Int32) d_X12_wards_123 rfl ?_
    refine sim_goto d_X12_wards_124 ?_
    exact sim_sub [0, 1, 2, 3, 4, 5] rfl (s_X12_wards_128 k78 hk78 x1 x2 x3 x4 x5 x5 (0 : Int32) M)
def f_X12_wards_78 (k138 : Int32 → mm_M → Option (Int64 × mm_M)) : Nat → Int32 → Int32 → Int32 → Int32 → Int32 → mm_M → Option (Int64 × mm_M)
  | 0, _, _, _, _, _, _ => none
  | n + 1, x1, x2, x3, x4, x5, M =>
  if (mI M 0 2) ≤ x5 then
    k138 x4 M
  else
    mm_ck x5 40 (
    if (mI M 2 x5.toNatClampNeg) = x1 then
      f_X12_wards_109 (f_X12_wards_78 k138 n) x1 x2 x3 x4 x5 M
    else
      mm_ck x5 40 (
      if (mI M 2 x5.toNatClampNeg) = x2 then
        f_X12_wards_109 (f_X12_wards_78 k138 n) x1 x2 x3 x4 x5 M
      else
        f_X12_wards_132 (f_X12_wards_78 k138 n) x1 x2 x3 x4 x5 M))
theorem s_X12_wards_78 (k138 : Int32 → mm_M → Option (Int64 × mm_M)) (hk138 : ∀ (x4 : Int32) (M : mm_M), Sim sysR Y_X12_wards 10 138 [(0, .ref 0), (4, .int (x4))] [] M mm_fL (k138 x4 M)) (n : Nat) : ∀ (x1 : Int32) (x2 : Int32) (x3 : Int32) (x4 : Int32) (x5 : Int32) (M : mm_M), Sim sysR Y_X12_wards 10 78 [(0, .ref 0), (1, .int (x1)), (2, .int (x2)), (3, .int (x3)), (4, .int (x4)), (5, .int (x5))] [] M mm_fL (f_X12_wards_78 k138 n x1 x2 x3 x4 x5 M) := by
  induction n with
  | zero => intros; exact sim_none
  | succ n ih =>
    intro x1 x2 x3 x4 x5 M
    rw [f_X12_wards_78]
    refine sim_iload 5 d_X12_wards_78 rfl ?_
    refine sim_aload_n 0 d_X12_wards_80 rfl rfl ?_
    refine sim_geti d_X12_wards_81 fl_X12_180 ob_R_0 rfl ?_
    refine sim_icmp_ge d_X12_wards_84 ?_ ?_
    ·
      exact sim_sub [0, 4] rfl (hk138 x4 M)
    ·
      refine sim_aload_n 0 d_X12_wards_87 rfl rfl ?_
      refine sim_geta d_X12_wards_88 fl_X12_13 ob_R_0 rfl ?_
      refine sim_iload 5 d_X12_wards_91 rfl ?_
      refine sim_iald d_X12_wards_93 ar_R_2 ?_
      refine sim_iload_n 1 d_X12_wards_94 rfl rfl ?_
      refine sim_icmp_eq d_X12_wards_95 ?_ ?_
      ·
        exact sim_sub [0, 1, 2, 3, 4, 5] rfl (s_X12_wards_109 (f_X12_wards_78 k138 n) ih x1 x2 x3 x4 x5 M)
      ·
        refine sim_aload_n 0 d_X12_wards_98 rfl rfl ?_
        refine sim_geta d_X12_wards_99 fl_X12_13 ob_R_0 rfl ?_
        refine sim_iload 5 d_X12_wards_102 rfl ?_
        refine sim_iald d_X12_wards_104 ar_R_2 ?_
        refine sim_iload_n 2 d_X12_wards_105 rfl rfl ?_
        refine sim_icmp_ne d_X12_wards_106 ?_ ?_
        ·
          exact sim_sub [0, 1, 2, 3, 4, 5] rfl (s_X12_wards_132 (f_X12_wards_78 k138 n) ih x1 x2 x3 x4 x5 M)
        ·
          exact sim_sub [0, 1, 2, 3, 4, 5] rfl (s_X12_wards_109 (f_X12_wards_78 k138 n) ih x1 x2 x3 x4 x5 M)
def f_X12_wards_138 (x4 : Int32) (M : mm_M) : Option (Int64 × mm_M) :=
  mm_bi (f_X12_chance x4 M) (fun r1 M1 =>
  some (r1, M1))
theorem s_X12_wards_138 (x4 : Int32) (M : mm_M) : Sim sysR Y_X12_wards 10 138 [(0, .ref 0), (4, .int (x4))] [] M mm_fL (f_X12_wards_138 x4 M) := by
  unfold f_X12_wards_138
  refine sim_aload_n 0 d_X12_wards_138 rfl rfl ?_
  refine sim_iload 1 d_X12_wards_139 rfl ?_
  refine sim_callVl Y_X12_chance 1 [.int (x4)] [] d_X12_wards_141 lk_X12_396 cv_X12_chance ob_R_0 rfl (by omega) (Nat.le_of_ble_eq_true rfl) (ct_X12_chance x4 M) (fun r1 M1 => ?_)
  exact sim_lret d_X12_wards_144 rfl
def f_X12_wards_28 (M : mm_M) : Option (Int64 × mm_M) :=
  mm_bi (f_X12_refuse (-1 : Int32) M) (fun r1 M1 =>
  some ((r1).toInt64, M1))
theorem s_X12_wards_28 (M : mm_M) : Sim sysR Y_X12_wards 10 28 [(0, .ref 0)] [] M mm_fL (f_X12_wards_28 M) := by
  unfold f_X12_wards_28
  refine sim_aload_n 0 d_X12_wards_28 rfl rfl ?_
  refine sim_iconst (-1 : Int32) d_X12_wards_29 rfl ?_
  refine sim_callVi Y_X12_refuse 0 [.int ((-1 : Int32))] [] d_X12_wards_30 lk_X12_187 cv_X12_refuse ob_R_0 rfl (by omega) (Nat.le_of_ble_eq_true rfl) (ct_X12_refuse (-1 : Int32) M) (fun r1 M1 => ?_)
  refine sim_i2l d_X12_wards_33 ?_
  exact sim_lret d_X12_wards_34 rfl
def f_X12_wards (a1 : Int32) (a2 : Int32) (a3 : Int32) (a4 : Int32) (M : mm_M) : Option (Int64 × mm_M) :=
  mm_let (sI M 0 0 (0 : Int32)) (fun M1 =>
  mm_bi (f_X12_in a1 (0 : Int32) (3 : Int32) M1) (fun r1 M2 =>
  if r1 = 0 then
    f_X12_wards_28 M2
  else
    mm_bi (f_X12_in a2 (0 : Int32) (3 : Int32) M2) (fun r2 M3 =>
    if r2 = 0 then
      f_X12_wards_28 M3
    else
      if a1 = a2 then
        f_X12_wards_28 M3
      else
        mm_bi (f_X12_in a4 (0 : Int32) (6 : Int32) M3) (fun r3 M4 =>
        if r3 = 0 then
          mm_bi (f_X12_refuse (-2 : Int32) M4) (fun r7 M9 =>
          some ((r7).toInt64, M9))
        else
          mm_bi (f_X12_wrongDay a3 M4) (fun r4 M5 =>
          if 0 ≤ r4 then
            mm_bv (f_X12_noTable M5) (fun M6 =>
            f_X12_wards_78 f_X12_wards_138 mm_fu a1 a2 a3 a4 (0 : Int32) M6)
          else
            mm_bi (f_X12_wrongDay a3 M5) (fun r5 M7 =>
            mm_bi (f_X12_refuse r5 M7) (fun r6 M8 =>
            some ((r6).toInt64, M8))))))))
theorem s_X12_wards (a1 : Int32) (a2 : Int32) (a3 : Int32) (a4 : Int32) (M : mm_M) : Sim sysR Y_X12_wards 10 0 [(0, .ref 0), (1, .int (a1)), (2, .int (a2)), (3, .int (a3)), (4, .int (a4))] [] M mm_fL (f_X12_wards a1 a2 a3 a4 M) := by
  unfold f_X12_wards
  refine sim_aload_n 0 d_X12_wards_0 rfl rfl ?_
  refine sim_iconst (0 : Int32) d_X12_wards_1 rfl ?_
  refine sim_puti d_X12_wards_2 fl_X12_177 ob_R_0 rfl ?_
  refine sim_nmM (fun M1 => ?_)
  refine sim_iload_n 1 d_X12_wards_5 rfl rfl ?_
  refine sim_iconst (0 : Int32) d_X12_wards_6 rfl ?_
  refine sim_iconst (3 : Int32) d_X12_wards_7 rfl ?_
  refine sim_callSi Y_X12_in 0 [.int (a1), .int ((0 : Int32)), .int ((3 : Int32))] [] d_X12_wards_8 lk_X12_183 cs_X12_in rfl (by omega) (Nat.le_of_ble_eq_true rfl) (ct_X12_in a1 (0 : Int32) (3 : Int32) M1) (fun r1 M2 => ?_)
  refine sim_if_eq d_X12_wards_11 ?_ ?_
  ·
    exact sim_sub [0] rfl (s_X12_wards_28 M2)
  ·
    refine sim_iload_n 2 d_X12_wards_14 rfl rfl ?_
    refine sim_iconst (0 : Int32) d_X12_wards_15 rfl ?_
    refine sim_iconst (3 : Int32) d_X12_wards_16 rfl ?_
    refine sim_callSi Y_X12_in 0 [.int (a2), .int ((0 : Int32)), .int ((3 : Int32))] [] d_X12_wards_17 lk_X12_183 cs_X12_in rfl (by omega) (Nat.le_of_ble_eq_true rfl) (ct_X12_in a2 (0 : Int32) (3 : Int32) M2) (fun r2 M3 => ?_)
    refine sim_if_eq d_X12_wards_20 ?_ ?_
    ·
      exact sim_sub [0] rfl (s_X12_wards_28 M3)
    ·
      refine sim_iload_n 1 d_X12_wards_23 rfl rfl ?_
      refine sim_iload_n 2 d_X12_wards_24 rfl rfl ?_
      refine sim_icmp_ne d_X12_wards_25 ?_ ?_
      ·
        refine sim_iload 4 d_X12_wards_35 rfl ?_
        refine sim_iconst (0 : Int32) d_X12_wards_37 rfl ?_
        refine sim_bipush (6 : Int32) d_X12_wards_38 rfl ?_
        refine sim_callSi Y_X12_in 0 [.int (a4), .int ((0 : Int32)), .int ((6 : Int32))] [] d_X12_wards_40 lk_X12_183 cs_X12_in rfl (by omega) (Nat.le_of_ble_eq_true rfl) (ct_X12_in a4 (0 : Int32) (6 : Int32) M3) (fun r3 M4 => ?_)
        refine sim_if_ne d_X12_wards_43 ?_ ?_
        ·
          refine sim_iload_n 3 d_X12_wards_54 rfl rfl ?_
          refine sim_callSi Y_X12_wrongDay 0 [.int (a3)] [] d_X12_wards_55 lk_X12_342 cs_X12_wrongDay rfl (by omega) (Nat.le_of_ble_eq_true rfl) (ct_X12_wrongDay a3 M4) (fun r4 M5 => ?_)
          refine sim_if_ge d_X12_wards_58 ?_ ?_
          ·
            refine sim_aload_n 0 d_X12_wards_71 rfl rfl ?_
            refine sim_callVv Y_X12_noTable 9 [] [] d_X12_wards_72 lk_X12_389 cv_X12_noTable ob_R_0 rfl (by omega) (Nat.le_of_ble_eq_true rfl) (ct_X12_noTable M5) (fun M6 => ?_)
            refine sim_iconst (0 : Int32) d_X12_wards_75 rfl ?_
            refine sim_istore (L' := [(0, .ref 0), (1, .int (a1)), (2, .int (a2)), (3, .int (a3)), (4, .int (a4)), (5, .int ((0 : Int32)))]) d_X12_wards_76 (Nat.le_of_ble_eq_true rfl) rfl ?_
            exact sim_sub [0, 1, 2, 3, 4, 5] rfl (s_X12_wards_78 f_X12_wards_138 s_X12_wards_138 mm_fu a1 a2 a3 a4 (0 : Int32) M6)
          ·
            refine sim_aload_n 0 d_X12_wards_61 rfl rfl ?_
            refine sim_iload_n 3 d_X12_wards_62 rfl rfl ?_
            refine sim_callSi Y_X12_wrongDay 0 [.int (a3)] [.ref 0] d_X12_wards_63 lk_X12_342 cs_X12_wrongDay rfl (by omega) (Nat.le_of_ble_eq_true rfl) (ct_X12_wrongDay a3 M5) (fun r5 M7 => ?_)
            refine sim_callVi Y_X12_refuse 0 [.int (r5)] [] d_X12_wards_66 lk_X12_187 cv_X12_refuse ob_R_0 rfl (by omega) (Nat.le_of_ble_eq_true rfl) (ct_X12_refuse r5 M7) (fun r6 M8 => ?_)
            refine sim_i2l d_X12_wards_69 ?_
            exact sim_lret d_X12_wards_70 rfl
        ·
          refine sim_aload_n 0 d_X12_wards_46 rfl rfl ?_
          refine sim_bipush (-2 : Int32) d_X12_wards_47 rfl ?_
          refine sim_callVi Y_X12_refuse 0 [.int ((-2 : Int32))] [] d_X12_wards_49 lk_X12_187 cv_X12_refuse ob_R_0 rfl (by omega) (Nat.le_of_ble_eq_true rfl) (ct_X12_refuse (-2 : Int32) M4) (fun r7 M9 => ?_)
          refine sim_i2l d_X12_wards_52 ?_
          exact sim_lret d_X12_wards_53 rfl
      ·
        exact sim_sub [0] rfl (s_X12_wards_28 M3)
theorem ct_X12_wards (a1 : Int32) (a2 : Int32) (a3 : Int32) (a4 : Int32) (M : mm_M) : Ct sysR Y_X12_wards 10 [.ref 0, .int (a1), .int (a2), .int (a3), .int (a4)] M mm_fL (f_X12_wards a1 a2 a3 a4 M) :=
  ct_of_sim (by decide) rfl (Nat.le_of_ble_eq_true rfl) (s_X12_wards a1 a2 a3 a4 M)
def f_X12_clerk_85 (M : mm_M) : Option (Int32 × mm_M) :=
  mm_bi (f_X12_refuse (-6 : Int32) M) (fun r1 M1 =>
  some (r1, M1))
theorem s_X12_clerk_85 (M : mm_M) : Sim sysR Y_X12_clerk 2 85 [(0, .ref 0)] [] M mm_fI (f_X12_clerk_85 M) := by
  unfold f_X12_clerk_85
  refine sim_aload_n 0 d_X12_clerk_85 rfl rfl ?_
  refine sim_bipush (-6 : Int32) d_X12_clerk_86 rfl ?_
  refine sim_callVi Y_X12_refuse 0 [.int ((-6 : Int32))] [] d_X12_clerk_88 lk_X12_187 cv_X12_refuse ob_R_0 rfl (by omega) (Nat.le_of_ble_eq_true rfl) (ct_X12_refuse (-6 : Int32) M) (fun r1 M1 => ?_)
  exact sim_iret d_X12_clerk_91 rfl
def f_X12_clerk_48 (M : mm_M) : Option (Int32 × mm_M) :=
  mm_bi (f_X12_refuse (-4 : Int32) M) (fun r1 M1 =>
  some (r1, M1))
theorem s_X12_clerk_48 (M : mm_M) : Sim sysR Y_X12_clerk 2 48 [(0, .ref 0)] [] M mm_fI (f_X12_clerk_48 M) := by
  unfold f_X12_clerk_48
  refine sim_aload_n 0 d_X12_clerk_48 rfl rfl ?_
  refine sim_bipush (-4 : Int32) d_X12_clerk_49 rfl ?_
  refine sim_callVi Y_X12_refuse 0 [.int ((-4 : Int32))] [] d_X12_clerk_51 lk_X12_187 cv_X12_refuse ob_R_0 rfl (by omega) (Nat.le_of_ble_eq_true rfl) (ct_X12_refuse (-4 : Int32) M) (fun r1 M1 => ?_)
  exact sim_iret d_X12_clerk_54 rfl
def f_X12_clerk_23 (M : mm_M) : Option (Int32 × mm_M) :=
  mm_bi (f_X12_refuse (-1 : Int32) M) (fun r1 M1 =>
  some (r1, M1))
theorem s_X12_clerk_23 (M : mm_M) : Sim sysR Y_X12_clerk 2 23 [(0, .ref 0)] [] M mm_fI (f_X12_clerk_23 M) := by
  unfold f_X12_clerk_23
  refine sim_aload_n 0 d_X12_clerk_23 rfl rfl ?_
  refine sim_iconst (-1 : Int32) d_X12_clerk_24 rfl ?_
  refine sim_callVi Y_X12_refuse 0 [.int ((-1 : Int32))] [] d_X12_clerk_25 lk_X12_187 cv_X12_refuse ob_R_0 rfl (by omega) (Nat.le_of_ble_eq_true rfl) (ct_X12_refuse (-1 : Int32) M) (fun r1 M1 => ?_)
  exact sim_iret d_X12_clerk_28 rfl
def f_X12_clerk (a1 : Int32) (a2 : Int32) (a3 : Int32) (a4 : Int32) (a5 : Int32) (M : mm_M) : Option (Int32 × mm_M) :=
  mm_let (sI M 0 0 (0 : Int32)) (fun M1 =>
  mm_bi (f_X12_in a1 (0 : Int32) (9 : Int32) M1) (fun r1 M2 =>
  if r1 = 0 then
    f_X12_clerk_23 M2
  else
    mm_bi (f_X12_isShop a2 M2) (fun r2 M3 =>
    if r2 = 0 then
      f_X12_clerk_23 M3
    else
      if a3 < 0 then
        f_X12_clerk_48 M3
      else
        if a4 ≤ a3 then
          f_X12_clerk_48 M3
        else
          if (mI M3 0 1) ≤ a5 then
            if (23 : Int32) < a3 then
              f_X12_clerk_85 M3
            else
              if (24 : Int32) < a4 then
                f_X12_clerk_85 M3
              else
                if (2000 : Int32) < a5 then
                  f_X12_clerk_85 M3
                else
                  if (mI M3 0 70) = (40 : Int32) then
                    f_X12_clerk_85 M3
                  else
                    mm_ck (mI M3 0 70) 40 (
                    mm_let (sI M3 49 (mI M3 0 70).toNatClampNeg a1) (fun M4 =>
                    mm_ck (mI M4 0 70) 40 (
                    mm_let (sI M4 50 (mI M4 0 70).toNatClampNeg a2) (fun M5 =>
                    mm_ck (mI M5 0 70) 40 (
                    mm_let (sI M5 51 (mI M5 0 70).toNatClampNeg a3) (fun M6 =>
                    mm_ck (mI M6 0 70) 40 (
                    mm_let (sI M6 52 (mI M6 0 70).toNatClampNeg a4) (fun M7 =>
                    mm_ck (mI M7 0 70) 40 (
                    mm_let (sI M7 53 (mI M7 0 70).toNatClampNeg a5) (fun M8 =>
                    mm_let (sI M8 0 70 ((mI M8 0 70) + (1 : Int32))) (fun M9 =>
                    some (mI M9 0 70, M9))))))))))))
          else
            f_X12_clerk_48 M3)))
theorem s_X12_clerk (a1 : Int32) (a2 : Int32) (a3 : Int32) (a4 : Int32) (a5 : Int32) (M : mm_M) : Sim sysR Y_X12_clerk 2 0 [(0, .ref 0), (1, .int (a1)), (2, .int (a2)), (3, .int (a3)), (4, .int (a4)), (5, .int (a5))] [] M mm_fI (f_X12_clerk a1 a2 a3 a4 a5 M) := by
  unfold f_X12_clerk
  refine sim_aload_n 0 d_X12_clerk_0 rfl rfl ?_
  refine sim_iconst (0 : Int32) d_X12_clerk_1 rfl ?_
  refine sim_puti d_X12_clerk_2 fl_X12_177 ob_R_0 rfl ?_
  refine sim_nmM (fun M1 => ?_)
  refine sim_iload_n 1 d_X12_clerk_5 rfl rfl ?_
  refine sim_iconst (0 : Int32) d_X12_clerk_6 rfl ?_
  refine sim_bipush (9 : Int32) d_X12_clerk_7 rfl ?_
  refine sim_callSi Y_X12_in 0 [.int (a1), .int ((0 : Int32)), .int ((9 : Int32))] [] d_X12_clerk_9 lk_X12_183 cs_X12_in rfl (by omega) (Nat.le_of_ble_eq_true rfl) (ct_X12_in a1 (0 : Int32) (9 : Int32) M1) (fun r1 M2 => ?_)
  refine sim_if_eq d_X12_clerk_12 ?_ ?_
  ·
    exact sim_sub [0] rfl (s_X12_clerk_23 M2)
  ·
    refine sim_aload_n 0 d_X12_clerk_15 rfl rfl ?_
    refine sim_iload_n 2 d_X12_clerk_16 rfl rfl ?_
    refine sim_callVi Y_X12_isShop 1 [.int (a2)] [] d_X12_clerk_17 lk_X12_194 cv_X12_isShop ob_R_0 rfl (by omega) (Nat.le_of_ble_eq_true rfl) (ct_X12_isShop a2 M2) (fun r2 M3 => ?_)
    refine sim_if_ne d_X12_clerk_20 ?_ ?_
    ·
      refine sim_iload_n 3 d_X12_clerk_29 rfl rfl ?_
      refine sim_if_lt d_X12_clerk_30 ?_ ?_
      ·
        exact sim_sub [0] rfl (s_X12_clerk_48 M3)
      ·
        refine sim_iload 4 d_X12_clerk_33 rfl ?_
        refine sim_iload_n 3 d_X12_clerk_35 rfl rfl ?_
        refine sim_icmp_le d_X12_clerk_36 ?_ ?_
        ·
          exact sim_sub [0] rfl (s_X12_clerk_48 M3)
        ·
          refine sim_iload 5 d_X12_clerk_39 rfl ?_
          refine sim_aload_n 0 d_X12_clerk_41 rfl rfl ?_
          refine sim_geti d_X12_clerk_42 fl_X12_191 ob_R_0 rfl ?_
          refine sim_icmp_ge d_X12_clerk_45 ?_ ?_
          ·
            refine sim_iload_n 3 d_X12_clerk_55 rfl rfl ?_
            refine sim_bipush (23 : Int32) d_X12_clerk_56 rfl ?_
            refine sim_icmp_gt d_X12_clerk_58 ?_ ?_
            ·
              exact sim_sub [0] rfl (s_X12_clerk_85 M3)
            ·
              refine sim_iload 4 d_X12_clerk_61 rfl ?_
              refine sim_bipush (24 : Int32) d_X12_clerk_63 rfl ?_
              refine sim_icmp_gt d_X12_clerk_65 ?_ ?_
              ·
                exact sim_sub [0] rfl (s_X12_clerk_85 M3)
              ·
                refine sim_iload 5 d_X12_clerk_68 rfl ?_
                refine sim_sipush (2000 : Int32) d_X12_clerk_70 rfl ?_
                refine sim_icmp_gt d_X12_clerk_73 ?_ ?_
                ·
                  exact sim_sub [0] rfl (s_X12_clerk_85 M3)
                ·
                  refine sim_aload_n 0 d_X12_clerk_76 rfl rfl ?_
                  refine sim_geti d_X12_clerk_77 fl_X12_400 ob_R_0 rfl ?_
                  refine sim_bipush (40 : Int32) d_X12_clerk_80 rfl ?_
                  refine sim_icmp_ne d_X12_clerk_82 ?_ ?_
                  ·
                    refine sim_aload_n 0 d_X12_clerk_92 rfl rfl ?_
                    refine sim_geta d_X12_clerk_93 fl_X12_159 ob_R_0 rfl ?_
                    refine sim_aload_n 0 d_X12_clerk_96 rfl rfl ?_
                    refine sim_geti d_X12_clerk_97 fl_X12_400 ob_R_0 rfl ?_
                    refine sim_iload_n 1 d_X12_clerk_100 rfl rfl ?_
                    refine sim_iast d_X12_clerk_101 ar_R_49 ?_
                    refine sim_nmM (fun M4 => ?_)
                    refine sim_aload_n 0 d_X12_clerk_102 rfl rfl ?_
                    refine sim_geta d_X12_clerk_103 fl_X12_162 ob_R_0 rfl ?_
                    refine sim_aload_n 0 d_X12_clerk_106 rfl rfl ?_
                    refine sim_geti d_X12_clerk_107 fl_X12_400 ob_R_0 rfl ?_
                    refine sim_iload_n 2 d_X12_clerk_110 rfl rfl ?_
                    refine sim_iast d_X12_clerk_111 ar_R_50 ?_
                    refine sim_nmM (fun M5 => ?_)
                    refine sim_aload_n 0 d_X12_clerk_112 rfl rfl ?_
                    refine sim_geta d_X12_clerk_113 fl_X12_165 ob_R_0 rfl ?_
                    refine sim_aload_n 0 d_X12_clerk_116 rfl rfl ?_
                    refine sim_geti d_X12_clerk_117 fl_X12_400 ob_R_0 rfl ?_
                    refine sim_iload_n 3 d_X12_clerk_120 rfl rfl ?_
                    refine sim_iast d_X12_clerk_121 ar_R_51 ?_
                    refine sim_nmM (fun M6 => ?_)
                    refine sim_aload_n 0 d_X12_clerk_122 rfl rfl ?_
                    refine sim_geta d_X12_clerk_123 fl_X12_168 ob_R_0 rfl ?_
                    refine sim_aload_n 0 d_X12_clerk_126 rfl rfl ?_
                    refine sim_geti d_X12_clerk_127 fl_X12_400 ob_R_0 rfl ?_
                    refine sim_iload 4 d_X12_clerk_130 rfl ?_
                    refine sim_iast d_X12_clerk_132 ar_R_52 ?_
                    refine sim_nmM (fun M7 => ?_)
                    refine sim_aload_n 0 d_X12_clerk_133 rfl rfl ?_
                    refine sim_geta d_X12_clerk_134 fl_X12_171 ob_R_0 rfl ?_
                    refine sim_aload_n 0 d_X12_clerk_137 rfl rfl ?_
                    refine sim_geti d_X12_clerk_138 fl_X12_400 ob_R_0 rfl ?_
                    refine sim_iload 5 d_X12_clerk_141 rfl ?_
                    refine sim_iast d_X12_clerk_143 ar_R_53 ?_
                    refine sim_nmM (fun M8 => ?_)
                    refine sim_aload_n 0 d_X12_clerk_144 rfl rfl ?_
                    refine sim_dup d_X12_clerk_145 rfl ?_
                    refine sim_geti d_X12_clerk_146 fl_X12_400 ob_R_0 rfl ?_
                    refine sim_iconst (1 : Int32) d_X12_clerk_149 rfl ?_
                    refine sim_iadd d_X12_clerk_150 ?_
                    refine sim_puti d_X12_clerk_151 fl_X12_400 ob_R_0 rfl ?_
                    refine sim_nmM (fun M9 => ?_)
                    refine sim_aload_n 0 d_X12_clerk_154 rfl rfl ?_
                    refine sim_geti d_X12_clerk_155 fl_X12_400 ob_R_0 rfl ?_
                    exact sim_iret d_X12_clerk_158 rfl
                  ·
                    exact sim_sub [0] rfl (s_X12_clerk_85 M3)
          ·
            exact sim_sub [0] rfl (s_X12_clerk_48 M3)
    ·
      exact sim_sub [0] rfl (s_X12_clerk_23 M3)
theorem ct_X12_clerk (a1 : Int32) (a2 : Int32) (a3 : Int32) (a4 : Int32) (a5 : Int32) (M : mm_M) : Ct sysR Y_X12_clerk 2 [.ref 0, .int (a1), .int (a2), .int (a3), .int (a4), .int (a5)] M mm_fI (f_X12_clerk a1 a2 a3 a4 a5 M) :=
  ct_of_sim (by decide) rfl (Nat.le_of_ble_eq_true rfl) (s_X12_clerk a1 a2 a3 a4 a5 M)
def f_X12_clerkOf_90 (k4 : Int32 → Int32 → Int32 → mm_M → Option (Int32 × mm_M)) (x1 : Int32) (x3 : Int32) (t0 : Int32) (M : mm_M) : Option (Int32 × mm_M) :=
  k4 x1 t0 (x3 + (1 : Int32)) M
theorem s_X12_clerkOf_90 (k4 : Int32 → Int32 → Int32 → mm_M → Option (Int32 × mm_M)) (hk4 : ∀ (x1 : Int32) (x2 : Int32) (x3 : Int32) (M : mm_M), Sim sysR Y_X12_clerkOf 1 4 [(0, .ref 0), (1, .int (x1)), (2, .int (x2)), (3, .int (x3))] [] M mm_fI (k4 x1 x2 x3 M)) (x1 : Int32) (x3 : Int32) (t0 : Int32) (M : mm_M) : Sim sysR Y_X12_clerkOf 1 90 [(0, .ref 0), (1, .int (x1)), (3, .int (x3))] [.int (t0)] M mm_fI (f_X12_clerkOf_90 k4 x1 x3 t0 M) := by
  unfold f_X12_clerkOf_90
  refine sim_istore_n (L' := [(0, .ref 0), (1, .int (x1)), (3, .int (x3)), (2, .int (t0))]) d_X12_clerkOf_90 rfl (Nat.le_of_ble_eq_true rfl) rfl ?_
  refine sim_iinc (v := x3 + (1 : Int32)) (L' := [(0, .ref 0), (1, .int (x1)), (2, .int (t0)), (3, .int (x3 + (1 : Int32)))]) 2 d_X12_clerkOf_91 (Nat.le_of_ble_eq_true rfl) rfl rfl rfl ?_
  refine sim_goto d_X12_clerkOf_94 ?_
  exact sim_sub [0, 1, 2, 3] rfl (hk4 x1 t0 (x3 + (1 : Int32)) M)
def f_X12_clerkOf_73 (k4 : Int32 → Int32 → Int32 → mm_M → Option (Int32 × mm_M)) (x1 : Int32) (x2 : Int32) (x3 : Int32) (t0 : Int32) (M : mm_M) : Option (Int32 × mm_M) :=
  if t0 = 0 then
    f_X12_clerkOf_90 k4 x1 x3 x2 M
  else
    mm_ck x3 40 (
    f_X12_clerkOf_90 k4 x1 x3 (mI M 49 x3.toNatClampNeg) M)
theorem s_X12_clerkOf_73 (k4 : Int32 → Int32 → Int32 → mm_M → Option (Int32 × mm_M)) (hk4 : ∀ (x1 : Int32) (x2 : Int32) (x3 : Int32) (M : mm_M), Sim sysR Y_X12_clerkOf 1 4 [(0, .ref 0), (1, .int (x1)), (2, .int (x2)), (3, .int (x3))] [] M mm_fI (k4 x1 x2 x3 M)) (x1 : Int32) (x2 : Int32) (x3 : Int32) (t0 : Int32) (M : mm_M) : Sim sysR Y_X12_clerkOf 1 73 [(0, .ref 0), (1, .int (x1)), (2, .int (x2)), (3, .int (x3))] [.int (t0)] M mm_fI (f_X12_clerkOf_73 k4 x1 x2 x3 t0 M) := by
  unfold f_X12_clerkOf_73
  refine sim_istore (L' := [(0, .ref 0), (1, .int (x1)), (2, .int (x2)), (3, .int (x3)), (4, .int (t0))]) d_X12_clerkOf_73 (Nat.le_of_ble_eq_true rfl) rfl ?_
  refine sim_iload 4 d_X12_clerkOf_75 rfl ?_
  refine sim_if_eq d_X12_clerkOf_77 ?_ ?_
  ·
    refine sim_iload_n 2 d_X12_clerkOf_89 rfl rfl ?_
    exact sim_sub [0, 1, 3] rfl (s_X12_clerkOf_90 k4 hk4 x1 x3 x2 M)
  ·
    refine sim_aload_n 0 d_X12_clerkOf_80 rfl rfl ?_
    refine sim_geta d_X12_clerkOf_81 fl_X12_159 ob_R_0 rfl ?_
    refine sim_iload_n 3 d_X12_clerkOf_84 rfl rfl ?_
    refine sim_iald d_X12_clerkOf_85 ar_R_49 ?_
    refine sim_goto d_X12_clerkOf_86 ?_
    exact sim_sub [0, 1, 3] rfl (s_X12_clerkOf_90 k4 hk4 x1 x3 (mI M 49 x3.toNatClampNeg) M)
def f_X12_clerkOf_72 (k4 : Int32 → Int32 → Int32 → mm_M → Option (Int32 × mm_M)) (x1 : Int32) (x2 : Int32) (x3 : Int32) (M : mm_M) : Option (Int32 × mm_M) :=
  f_X12_clerkOf_73 k4 x1 x2 x3 (0 : Int32) M
theorem s_X12_clerkOf_72 (k4 : Int32 → Int32 → Int32 → mm_M → Option (Int32 × mm_M)) (hk4 : ∀ (x1 : Int32) (x2 : Int32) (x3 : Int32) (M : mm_M), Sim sysR Y_X12_clerkOf 1 4 [(0, .ref 0), (1, .int (x1)), (2, .int (x2)), (3, .int (x3))] [] M mm_fI (k4 x1 x2 x3 M)) (x1 : Int32) (x2 : Int32) (x3 : Int32) (M : mm_M) : Sim sysR Y_X12_clerkOf 1 72 [(0, .ref 0), (1, .int (x1)), (2, .int (x2)), (3, .int (x3))] [] M mm_fI (f_X12_clerkOf_72 k4 x1 x2 x3 M) := by
  unfold f_X12_clerkOf_72
  refine sim_iconst (0 : Int32) d_X12_clerkOf_72 rfl ?_
  exact sim_sub [0, 1, 2, 3] rfl (s_X12_clerkOf_73 k4 hk4 x1 x2 x3 (0 : Int32) M)
def f_X12_clerkOf_4 : Nat → Int32 → Int32 → Int32 → mm_M → Option (Int32 × mm_M)
  | 0, _, _, _, _ => none
  | n + 1, x1, x2, x3, M =>
  if (mI M 0 70) ≤ x3 then
    some (x2, M)
  else
    mm_ck x3 40 (
    mm_ck x1 100 (
    if (mI M 50 x3.toNatClampNeg) = (mI M 28 x1.toNatClampNeg) then
      mm_ck x1 100 (
      mm_ck x3 40 (
      mm_ck x3 40 (
      mm_bi (f_X12_in (mI M 31 x1.toNatClampNeg) (mI M 51 x3.toNatClampNeg) ((mI M 52 x3.toNatClampNeg) - (1 : Int32)) M) (fun r1 M1 =>
      if r1 = 0 then
        f_X12_clerkOf_72 (f_X12_clerkOf_4 n) x1 x2 x3 M1
      else
        mm_ck x3 40 (
        mm_ck x1 100 (
        if (mI M1 30 x1.toNatClampNeg) < (mI M1 53 x3.toNatClampNeg) then
          f_X12_clerkOf_72 (f_X12_clerkOf_4 n) x1 x2 x3 M1
        else
          f_X12_clerkOf_73 (f_X12_clerkOf_4 n) x1 x2 x3 (1 : Int32) M1))))))
    else
      f_X12_clerkOf_72 (f_X12_clerkOf_4 n) x1 x2 x3 M))
theorem s_X12_clerkOf_4 (n : Nat) : ∀ (x1 : Int32) (x2 : Int32) (x3 : Int32) (M : mm_M), Sim sysR Y_X12_clerkOf 1 4 [(0, .ref 0), (1, .int (x1)), (2, .int (x2)), (3, .int (x3))] [] M mm_fI (f_X12_clerkOf_4 n x1 x2 x3 M) := by
  induction n with
  | zero => intros; exact sim_none
  | succ n ih =>
    intro x1 x2 x3 M
    rw [f_X12_clerkOf_4]
    refine sim_iload_n 3 d_X12_clerkOf_4 rfl rfl ?_
    refine sim_aload_n 0 d_X12_clerkOf_5 rfl rfl ?_
    refine sim_geti d_X12_clerkOf_6 fl_X12_400 ob_R_0 rfl ?_
    refine sim_icmp_ge d_X12_clerkOf_9 ?_ ?_
    ·
      refine sim_iload_n 2 d_X12_clerkOf_97 rfl rfl ?_
      exact sim_iret d_X12_clerkOf_98 rfl
    ·
      refine sim_aload_n 0 d_X12_clerkOf_12 rfl rfl ?_
      refine sim_geta d_X12_clerkOf_13 fl_X12_162 ob_R_0 rfl ?_
      refine sim_iload_n 3 d_X12_clerkOf_16 rfl rfl ?_
      refine sim_iald d_X12_clerkOf_17 ar_R_50 ?_
      refine sim_aload_n 0 d_X12_clerkOf_18 rfl rfl ?_
      refine sim_geta d_X12_clerkOf_19 fl_X12_92 ob_R_0 rfl ?_
      refine sim_iload_n 1 d_X12_clerkOf_22 rfl rfl ?_
      refine sim_iald d_X12_clerkOf_23 ar_R_28 ?_
      refine sim_icmp_ne d_X12_clerkOf_24 ?_ ?_
      ·
        exact sim_sub [0, 1, 2, 3] rfl (s_X12_clerkOf_72 (f_X12_clerkOf_4 n) ih x1 x2 x3 M)
      ·
        refine sim_aload_n 0 d_X12_clerkOf_27 rfl rfl ?_
        refine sim_geta d_X12_clerkOf_28 fl_X12_101 ob_R_0 rfl ?_
        refine sim_iload_n 1 d_X12_clerkOf_31 rfl rfl ?_
        refine sim_iald d_X12_clerkOf_32 ar_R_31 ?_
        refine sim_aload_n 0 d_X12_clerkOf_33 rfl rfl ?_
        refine sim_geta d_X12_clerkOf_34 fl_X12_165 ob_R_0 rfl ?_
        refine sim_iload_n 3 d_X12_clerkOf_37 rfl rfl ?_
        refine sim_iald d_X12_clerkOf_38 ar_R_51 ?_
        refine sim_aload_n 0 d_X12_clerkOf_39 rfl rfl ?_
        refine sim_geta d_X12_clerkOf_40 fl_X12_168 ob_R_0 rfl ?_
        refine sim_iload_n 3 d_X12_clerkOf_43 rfl rfl ?_
        refine sim_iald d_X12_clerkOf_44 ar_R_52 ?_
        refine sim_iconst (1 : Int32) d_X12_clerkOf_45 rfl ?_
        refine sim_isub d_X12_clerkOf_46 ?_
        refine sim_callSi Y_X12_in 0 [.int (mI M 31 x1.toNatClampNeg), .int (mI M 51 x3.toNatClampNeg), .int ((mI M 52 x3.toNatClampNeg) - (1 : Int32))] [] d_X12_clerkOf_47 lk_X12_183 cs_X12_in rfl (by omega) (Nat.le_of_ble_eq_true rfl) (ct_X12_in (mI M 31 x1.toNatClampNeg) (mI M 51 x3.toNatClampNeg) ((mI M 52 x3.toNatClampNeg) - (1 : Int32)) M) (fun r1 M1 => ?_)
        refine sim_if_eq d_X12_clerkOf_50 ?_ ?_
        ·
          exact sim_sub [0, 1, 2, 3] rfl (s_X12_clerkOf_72 (f_X12_clerkOf_4 n) ih x1 x2 x3 M1)
        ·
          refine sim_aload_n 0 d_X12_clerkOf_53 rfl rfl ?_
          refine sim_geta d_X12_clerkOf_54 fl_X12_171 ob_R_0 rfl ?_
          refine sim_iload_n 3 d_X12_clerkOf_57 rfl rfl ?_
          refine sim_iald d_X12_clerkOf_58 ar_R_53 ?_
          refine sim_aload_n 0 d_X12_clerkOf_59 rfl rfl ?_
          refine sim_geta d_X12_clerkOf_60 fl_X12_98 ob_R_0 rfl ?_
          refine sim_iload_n 1 d_X12_clerkOf_63 rfl rfl ?_
          refine sim_iald d_X12_clerkOf_64 ar_R_30 ?_
          refine sim_icmp_gt d_X12_clerkOf_65 ?_ ?_
          ·
            exact sim_sub [0, 1, 2, 3] rfl (s_X12_clerkOf_72 (f_X12_clerkOf_4 n) ih x1 x2 x3 M1)
          ·
            refine sim_iconst (1 : Int32) d_X12_clerkOf_68 rfl ?_
            refine sim_goto d_X12_clerkOf_69 ?_
            exact sim_sub [0, 1, 2, 3] rfl (s_X12_clerkOf_73 (f_X12_clerkOf_4 n) ih x1 x2 x3 (1 : Int32) M1)
def f_X12_clerkOf (a1 : Int32) (M : mm_M) : Option (Int32 × mm_M) :=
  f_X12_clerkOf_4 mm_fu a1 (-1 : Int32) (0 : Int32) M
theorem s_X12_clerkOf (a1 : Int32) (M : mm_M) : Sim sysR Y_X12_clerkOf 1 0 [(0, .ref 0), (1, .int (a1))] [] M mm_fI (f_X12_clerkOf a1 M) := by
  unfold f_X12_clerkOf
  refine sim_iconst (-1 : Int32) d_X12_clerkOf_0 rfl ?_
  refine sim_istore_n (L' := [(0, .ref 0), (1, .int (a1)), (2, .int ((-1 : Int32)))]) d_X12_clerkOf_1 rfl (Nat.le_of_ble_eq_true rfl) rfl ?_
  refine sim_iconst (0 : Int32) d_X12_clerkOf_2 rfl ?_
  refine sim_istore_n (L' := [(0, .ref 0), (1, .int (a1)), (2, .int ((-1 : Int32))), (3, .int ((0 : Int32)))]) d_X12_clerkOf_3 rfl (Nat.le_of_ble_eq_true rfl) rfl ?_
  exact sim_sub [0, 1, 2, 3] rfl (s_X12_clerkOf_4 mm_fu a1 (-1 : Int32) (0 : Int32) M)
theorem ct_X12_clerkOf (a1 : Int32) (M : mm_M) : Ct sysR Y_X12_clerkOf 1 [.ref 0, .int (a1)] M mm_fI (f_X12_clerkOf a1 M) :=
  ct_of_sim (by decide) rfl (Nat.le_of_ble_eq_true rfl) (s_X12_clerkOf a1 M)
def f_X12_tallied_57 (k5 : Int32 → Int32 → Int32 → Int32 → mm_M → Option (Int32 × mm_M)) (x1 : Int32) (x2 : Int32) (x4 : Int32) (t0 : Int32) (t1 : Int32) (M : mm_M) : Option (Int32 × mm_M) :=
  mm_let (t0 + t1) (fun v1 =>
  k5 x1 x2 v1 (x4 + (1 : Int32)) M)
theorem s_X12_tallied_57 (k5 : Int32 → Int32 → Int32 → Int32 → mm_M → Option (Int32 × mm_M)) (hk5 : ∀ (x1 : Int32) (x2 : Int32) (x3 : Int32) (x4 : Int32) (M : mm_M), Sim sysR Y_X12_tallied 2 5 [(0, .ref 0), (1, .int (x1)), (2, .int (x2)), (3, .int (x3)), (4, .int (x4))] [] M mm_fI (k5 x1 x2 x3 x4 M)) (x1 : Int32) (x2 : Int32) (x4 : Int32) (t0 : Int32) (t1 : Int32) (M : mm_M) : Sim sysR Y_X12_tallied 2 57 [(0, .ref 0), (1, .int (x1)), (2, .int (x2)), (4, .int (x4))] [.int (t1), .int (t0)] M mm_fI (f_X12_tallied_57 k5 x1 x2 x4 t0 t1 M) := by
  unfold f_X12_tallied_57
  refine sim_iadd d_X12_tallied_57 ?_
  refine sim_nmi (fun v1 => ?_)
  refine sim_istore_n (L' := [(0, .ref 0), (1, .int (x1)), (2, .int (x2)), (4, .int (x4)), (3, .int (v1))]) d_X12_tallied_58 rfl (Nat.le_of_ble_eq_true rfl) rfl ?_
  refine sim_iinc (v := x4 + (1 : Int32)) (L' := [(0, .ref 0), (1, .int (x1)), (2, .int (x2)), (3, .int (v1)), (4, .int (x4 + (1 : Int32)))]) 3 d_X12_tallied_59 (Nat.le_of_ble_eq_true rfl) rfl rfl rfl ?_
  refine sim_goto d_X12_tallied_62 ?_
  exact sim_sub [0, 1, 2, 3, 4] rfl (hk5 x1 x2 v1 (x4 + (1 : Int32)) M)
def f_X12_tallied_56 (k5 : Int32 → Int32 → Int32 → Int32 → mm_M → Option (Int32 × mm_M)) (x1 : Int32) (x2 : Int32) (x4 : Int32) (t0 : Int32) (M : mm_M) : Option (Int32 × mm_M) :=
  f_X12_tallied_57 k5 x1 x2 x4 t0 (0 : Int32) M
theorem s_X12_tallied_56 (k5 : Int32 → Int32 → Int32 → Int32 → mm_M → Option (Int32 × mm_M)) (hk5 : ∀ (x1 : Int32) (x2 : Int32) (x3 : Int32) (x4 : Int32) (M : mm_M), Sim sysR Y_X12_tallied 2 5 [(0, .ref 0), (1, .int (x1)), (2, .int (x2)), (3, .int (x3)), (4, .int (x4))] [] M mm_fI (k5 x1 x2 x3 x4 M)) (x1 : Int32) (x2 : Int32) (x4 : Int32) (t0 : Int32) (M : mm_M) : Sim sysR Y_X12_tallied 2 56 [(0, .ref 0), (1, .int (x1)), (2, .int (x2)), (4, .int (x4))] [.int (t0)] M mm_fI (f_X12_tallied_56 k5 x1 x2 x4 t0 M) := by
  unfold f_X12_tallied_56
  refine sim_iconst (0 : Int32) d_X12_tallied_56 rfl ?_
  exact sim_sub [0, 1, 2, 3] rfl (s_X12_tallied_57 k5 hk5 x1 x2 x4 t0 (0 : Int32) M)
def f_X12_tallied_52 (k5 : Int32 → Int32 → Int32 → Int32 → mm_M → Option (Int32 × mm_M)) (x1 : Int32) (x2 : Int32) (x4 : Int32) (t0 : Int32) (M : mm_M) : Option (Int32 × mm_M) :=
  f_X12_tallied_57 k5 x1 x2 x4 t0 (1 : Int32) M
theorem s_X12_tallied_52 (k5 : Int32 → Int32 → Int32 → Int32 → mm_M → Option (Int32 × mm_M)) (hk5 : ∀ (x1 : Int32) (x2 : Int32) (x3 : Int32) (x4 : Int32) (M : mm_M), Sim sysR Y_X12_tallied 2 5 [(0, .ref 0), (1, .int (x1)), (2, .int (x2)), (3, .int (x3)), (4, .int (x4))] [] M mm_fI (k5 x1 x2 x3 x4 M)) (x1 : Int32) (x2 : Int32) (x4 : Int32) (t0 : Int32) (M : mm_M) : Sim sysR Y_X12_tallied 2 52 [(0, .ref 0), (1, .int (x1)), (2, .int (x2)), (4, .int (x4))] [.int (t0)] M mm_fI (f_X12_tallied_52 k5 x1 x2 x4 t0 M) := by
  unfold f_X12_tallied_52
  refine sim_iconst (1 : Int32) d_X12_tallied_52 rfl ?_
  refine sim_goto d_X12_tallied_53 ?_
  exact sim_sub [0, 1, 2, 3] rfl (s_X12_tallied_57 k5 hk5 x1 x2 x4 t0 (1 : Int32) M)
def f_X12_tallied_5 : Nat → Int32 → Int32 → Int32 → Int32 → mm_M → Option (Int32 × mm_M)
  | 0, _, _, _, _, _ => none
  | n + 1, x1, x2, x3, x4, M =>
  if (mI M 0 43) ≤ x4 then
    some (x3, M)
  else
    mm_ck x4 100 (
    if (mI M 36 x4.toNatClampNeg) = 0 then
      f_X12_tallied_56 (f_X12_tallied_5 n) x1 x2 x4 x3 M
    else
      mm_bi (f_X12_clerkOf x4 M) (fun r1 M1 =>
      if r1 = x1 then
        if x2 = 0 then
          f_X12_tallied_52 (f_X12_tallied_5 n) x1 x2 x4 x3 M1
        else
          mm_ck x4 100 (
          if ((mI M1 32 x4.toNatClampNeg) / (4 : Int32)) = (1 : Int32) then
            f_X12_tallied_52 (f_X12_tallied_5 n) x1 x2 x4 x3 M1
          else
            f_X12_tallied_56 (f_X12_tallied_5 n) x1 x2 x4 x3 M1)
      else
        f_X12_tallied_56 (f_X12_tallied_5 n) x1 x2 x4 x3 M1))
theorem s_X12_tallied_5 (n : Nat) : ∀ (x1 : Int32) (x2 : Int32) (x3 : Int32) (x4 : Int32) (M : mm_M), Sim sysR Y_X12_tallied 2 5 [(0, .ref 0), (1, .int (x1)), (2, .int (x2)), (3, .int (x3)), (4, .int (x4))] [] M mm_fI (f_X12_tallied_5 n x1 x2 x3 x4 M) := by
  induction n with
  | zero => intros; exact sim_none
  | succ n ih =>
    intro x1 x2 x3 x4 M
    rw [f_X12_tallied_5]
    refine sim_iload 4 d_X12_tallied_5 rfl ?_
    refine sim_aload_n 0 d_X12_tallied_7 rfl rfl ?_
    refine sim_geti d_X12_tallied_8 fl_X12_249 ob_R_0 rfl ?_
    refine sim_icmp_ge d_X12_tallied_11 ?_ ?_
    ·
      refine sim_iload_n 3 d_X12_tallied_65 rfl rfl ?_
      exact sim_iret d_X12_tallied_66 rfl
    ·
      refine sim_iload_n 3 d_X12_tallied_14 rfl rfl ?_
      refine sim_aload_n 0 d_X12_tallied_15 rfl rfl ?_
      refine sim_geta d_X12_tallied_16 fl_X12_116 ob_R_0 rfl ?_
      refine sim_iload 4 d_X12_tallied_19 rfl ?_
      refine sim_zald d_X12_tallied_21 ar_R_36 ?_
      refine sim_if_eq d_X12_tallied_22 ?_ ?_
      ·
        exact sim_sub [0, 1, 2, 4] rfl (s_X12_tallied_56 (f_X12_tallied_5 n) ih x1 x2 x4 x3 M)
      ·
        refine sim_aload_n 0 d_X12_tallied_25 rfl rfl ?_
        refine sim_iload 4 d_X12_tallied_26 rfl ?_
        refine sim_callVi Y_X12_clerkOf 1 [.int (x4)] [.int (x3)] d_X12_tallied_28 lk_X12_403 cv_X12_clerkOf ob_R_0 rfl (by omega) (Nat.le_of_ble_eq_true rfl) (ct_X12_clerkOf x4 M) (fun r1 M1 => ?_)
        refine sim_iload_n 1 d_X12_tallied_31 rfl rfl ?_
        refine sim_icmp_ne d_X12_tallied_32 ?_ ?_
        ·
          exact sim_sub [0, 1, 2, 4] rfl (s_X12_tallied_56 (f_X12_tallied_5 n) ih x1 x2 x4 x3 M1)
        ·
          refine sim_iload_n 2 d_X12_tallied_35 rfl rfl ?_
          refine sim_if_eq d_X12_tallied_36 ?_ ?_
          ·
            exact sim_sub [0, 1, 2, 4] rfl (s_X12_tallied_52 (f_X12_tallied_5 n) ih x1 x2 x4 x3 M1)
          ·
            refine sim_aload_n 0 d_X12_tallied_39 rfl rfl ?_
            refine sim_geta d_X12_tallied_40 fl_X12_104 ob_R_0 rfl ?_
            refine sim_iload 4 d_X12_tallied_43 rfl ?_
            refine sim_iald d_X12_tallied_45 ar_R_32 ?_
            refine sim_iconst (4 : Int32) d_X12_tallied_46 rfl ?_
            refine sim_idivc d_X12_tallied_47 (by decide) ?_
            refine sim_iconst (1 : Int32) d_X12_tallied_48 rfl ?_
            refine sim_icmp_ne d_X12_tallied_49 ?_ ?_
            ·
              exact sim_sub [0, 1, 2, 4] rfl (s_X12_tallied_56 (f_X12_tallied_5 n) ih x1 x2 x4 x3 M1)
            ·
              exact sim_sub [0, 1, 2, 4] rfl (s_X12_tallied_52 (f_X12_tallied_5 n) ih x1 x2 x4 x3 M1)
def f_X12_tallied (a1 : Int32) (a2 : Int32) (M : mm_M) : Option (Int32 × mm_M) :=
  f_X12_tallied_5 mm_fu a1 a2 (0 : Int32) (0 : Int32) M
theorem s_X12_tallied (a1 : Int32) (a2 : Int32) (M : mm_M) : Sim sysR Y_X12_tallied 2 0 [(0, .ref 0), (1, .int (a1)), (2, .int (a2))] [] M mm_fI (f_X12_tallied a1 a2 M) := by
  unfold f_X12_tallied
  refine sim_iconst (0 : Int32) d_X12_tallied_0 rfl ?_
  refine sim_istore_n (L' := [(0, .ref 0), (1, .int (a1)), (2, .int (a2)), (3, .int ((0 : Int32)))]) d_X12_tallied_1 rfl (Nat.le_of_ble_eq_true rfl) rfl ?_
  refine sim_iconst (0 : Int32) d_X12_tallied_2 rfl ?_
  refine sim_istore (L' := [(0, .ref 0), (1, .int (a1)), (2, .int (a2)), (3, .int ((0 : Int32))), (4, .int ((0 : Int32)))]) d_X12_tallied_3 (Nat.le_of_ble_eq_true rfl) rfl ?_
  exact sim_sub [0, 1, 2, 3, 4] rfl (s_X12_tallied_5 mm_fu a1 a2 (0 : Int32) (0 : Int32) M)
theorem ct_X12_tallied (a1 : Int32) (a2 : Int32) (M : mm_M) : Ct sysR Y_X12_tallied 2 [.ref 0, .int (a1), .int (a2)] M mm_fI (f_X12_tallied a1 a2 M) :=
  ct_of_sim (by decide) rfl (Nat.le_of_ble_eq_true rfl) (s_X12_tallied a1 a2 M)
def f_X12_tally_57 (t1 : Int32) (t2 : Int32) (M : mm_M) : Option (Int32 × mm_M) :=
  mm_bi (f_X12_tallied t1 t2 M) (fun r1 M1 =>
  some (r1, M1))
theorem s_X12_tally_57 (t1 : Int32) (t2 : Int32) (M : mm_M) : Sim sysR Y_X12_tally 9 57 [] [.int (t2), .int (t1), .ref 0] M mm_fI (f_X12_tally_57 t1 t2 M) := by
  unfold f_X12_tally_57
  refine sim_callVi Y_X12_tallied 2 [.int (t1), .int (t2)] [] d_X12_tally_57 lk_X12_406 cv_X12_tallied ob_R_0 rfl (by omega) (Nat.le_of_ble_eq_true rfl) (ct_X12_tallied t1 t2 M) (fun r1 M1 => ?_)
  exact sim_iret d_X12_tally_60 rfl
def f_X12_tally (a1 : Int32) (a2 : Int32) (M : mm_M) : Option (Int32 × mm_M) :=
  mm_let (sI M 0 0 (0 : Int32)) (fun M1 =>
  mm_bi (f_X12_in a1 (0 : Int32) (9 : Int32) M1) (fun r1 M2 =>
  if r1 = 0 then
    mm_bi (f_X12_refuse (-1 : Int32) M2) (fun r4 M6 =>
    some (r4, M6))
  else
    mm_bi (f_X12_in a2 (0 : Int32) (1 : Int32) M2) (fun r2 M3 =>
    if r2 = 0 then
      mm_bi (f_X12_refuse (-2 : Int32) M3) (fun r3 M5 =>
      some (r3, M5))
    else
      mm_bv (f_X12_weigh (mI M3 0 1) M3) (fun M4 =>
      if a2 = (1 : Int32) then
        f_X12_tally_57 a1 (1 : Int32) M4
      else
        f_X12_tally_57 a1 (0 : Int32) M4))))
theorem s_X12_tally (a1 : Int32) (a2 : Int32) (M : mm_M) : Sim sysR Y_X12_tally 9 0 [(0, .ref 0), (1, .int (a1)), (2, .int (a2))] [] M mm_fI (f_X12_tally a1 a2 M) := by
  unfold f_X12_tally
  refine sim_aload_n 0 d_X12_tally_0 rfl rfl ?_
  refine sim_iconst (0 : Int32) d_X12_tally_1 rfl ?_
  refine sim_puti d_X12_tally_2 fl_X12_177 ob_R_0 rfl ?_
  refine sim_nmM (fun M1 => ?_)
  refine sim_iload_n 1 d_X12_tally_5 rfl rfl ?_
  refine sim_iconst (0 : Int32) d_X12_tally_6 rfl ?_
  refine sim_bipush (9 : Int32) d_X12_tally_7 rfl ?_
  refine sim_callSi Y_X12_in 0 [.int (a1), .int ((0 : Int32)), .int ((9 : Int32))] [] d_X12_tally_9 lk_X12_183 cs_X12_in rfl (by omega) (Nat.le_of_ble_eq_true rfl) (ct_X12_in a1 (0 : Int32) (9 : Int32) M1) (fun r1 M2 => ?_)
  refine sim_if_ne d_X12_tally_12 ?_ ?_
  ·
    refine sim_iload_n 2 d_X12_tally_21 rfl rfl ?_
    refine sim_iconst (0 : Int32) d_X12_tally_22 rfl ?_
    refine sim_iconst (1 : Int32) d_X12_tally_23 rfl ?_
    refine sim_callSi Y_X12_in 0 [.int (a2), .int ((0 : Int32)), .int ((1 : Int32))] [] d_X12_tally_24 lk_X12_183 cs_X12_in rfl (by omega) (Nat.le_of_ble_eq_true rfl) (ct_X12_in a2 (0 : Int32) (1 : Int32) M2) (fun r2 M3 => ?_)
    refine sim_if_ne d_X12_tally_27 ?_ ?_
    ·
      refine sim_aload_n 0 d_X12_tally_37 rfl rfl ?_
      refine sim_aload_n 0 d_X12_tally_38 rfl rfl ?_
      refine sim_geti d_X12_tally_39 fl_X12_191 ob_R_0 rfl ?_
      refine sim_callVv Y_X12_weigh 8 [.int (mI M3 0 1)] [] d_X12_tally_42 lk_X12_246 cv_X12_weigh ob_R_0 rfl (by omega) (Nat.le_of_ble_eq_true rfl) (ct_X12_weigh (mI M3 0 1) M3) (fun M4 => ?_)
      refine sim_aload_n 0 d_X12_tally_45 rfl rfl ?_
      refine sim_iload_n 1 d_X12_tally_46 rfl rfl ?_
      refine sim_iload_n 2 d_X12_tally_47 rfl rfl ?_
      refine sim_iconst (1 : Int32) d_X12_tally_48 rfl ?_
      refine sim_icmp_ne d_X12_tally_49 ?_ ?_
      ·
        refine sim_iconst (0 : Int32) d_X12_tally_56 rfl ?_
        exact sim_sub [] rfl (s_X12_tally_57 a1 (0 : Int32) M4)
      ·
        refine sim_iconst (1 : Int32) d_X12_tally_52 rfl ?_
        refine sim_goto d_X12_tally_53 ?_
        exact sim_sub [] rfl (s_X12_tally_57 a1 (1 : Int32) M4)
    ·
      refine sim_aload_n 0 d_X12_tally_30 rfl rfl ?_
      refine sim_bipush (-2 : Int32) d_X12_tally_31 rfl ?_
      refine sim_callVi Y_X12_refuse 0 [.int ((-2 : Int32))] [] d_X12_tally_33 lk_X12_187 cv_X12_refuse ob_R_0 rfl (by omega) (Nat.le_of_ble_eq_true rfl) (ct_X12_refuse (-2 : Int32) M3) (fun r3 M5 => ?_)
      exact sim_iret d_X12_tally_36 rfl
  ·
    refine sim_aload_n 0 d_X12_tally_15 rfl rfl ?_
    refine sim_iconst (-1 : Int32) d_X12_tally_16 rfl ?_
    refine sim_callVi Y_X12_refuse 0 [.int ((-1 : Int32))] [] d_X12_tally_17 lk_X12_187 cv_X12_refuse ob_R_0 rfl (by omega) (Nat.le_of_ble_eq_true rfl) (ct_X12_refuse (-1 : Int32) M2) (fun r4 M6 => ?_)
    exact sim_iret d_X12_tally_20 rfl
theorem ct_X12_tally (a1 : Int32) (a2 : Int32) (M : mm_M) : Ct sysR Y_X12_tally 9 [.ref 0, .int (a1), .int (a2)] M mm_fI (f_X12_tally a1 a2 M) :=
  ct_of_sim (by decide) rfl (Nat.le_of_ble_eq_true rfl) (s_X12_tally a1 a2 M)
def f_X12_worst_78 (k23 : Int32 → Int32 → Int32 → Int32 → mm_M → Option (Int32 × mm_M)) (x1 : Int32) (x2 : Int32) (x3 : Int32) (x4 : Int32) (M : mm_M) : Option (Int32 × mm_M) :=
  k23 x1 x2 x3 (x4 + (1 : Int32)) M
theorem s_X12_worst_78 (k23 : Int32 → Int32 → Int32 → Int32 → mm_M → Option (Int32 × mm_M)) (hk23 : ∀ (x1 : Int32) (x2 : Int32) (x3 : Int32) (x4 : Int32) (M : mm_M), Sim sysR Y_X12_worst 9 23 [(0, .ref 0), (1, .int (x1)), (2, .int (x2)), (3, .int (x3)), (4, .int (x4))] [] M mm_fI (k23 x1 x2 x3 x4 M)) (x1 : Int32) (x2 : Int32) (x3 : Int32) (x4 : Int32) (M : mm_M) : Sim sysR Y_X12_worst 9 78 [(0, .ref 0), (1, .int (x1)), (2, .int (x2)), (3, .int (x3)), (4, .int (x4))] [] M mm_fI (f_X12_worst_78 k23 x1 x2 x3 x4 M) := by
  unfold f_X12_worst_78
  refine sim_iinc (v := x4 + (1 : Int32)) (L' := [(0, .ref 0), (1, .int (x1)), (2, .int (x2)), (3, .int (x3)), (4, .int (x4 + (1 : Int32)))]) 4 d_X12_worst_78 (Nat.le_of_ble_eq_true rfl) rfl rfl rfl ?_
  refine sim_goto d_X12_worst_81 ?_
  exact sim_sub [0, 1, 2, 3, 4] rfl (hk23 x1 x2 x3 (x4 + (1 : Int32)) M)
def f_X12_worst_69 (k23 : Int32 → Int32 → Int32 → Int32 → mm_M → Option (Int32 × mm_M)) (x4 : Int32) (x5 : Int32) (x6 : Int32) (M : mm_M) : Option (Int32 × mm_M) :=
  f_X12_worst_78 k23 x4 x5 x6 x4 M
theorem s_X12_worst_69 (k23 : Int32 → Int32 → Int32 → Int32 → mm_M → Option (Int32 × mm_M)) (hk23 : ∀ (x1 : Int32) (x2 : Int32) (x3 : Int32) (x4 : Int32) (M : mm_M), Sim sysR Y_X12_worst 9 23 [(0, .ref 0), (1, .int (x1)), (2, .int (x2)), (3, .int (x3)), (4, .int (x4))] [] M mm_fI (k23 x1 x2 x3 x4 M)) (x4 : Int32) (x5 : Int32) (x6 : Int32) (M : mm_M) : Sim sysR Y_X12_worst 9 69 [(0, .ref 0), (4, .int (x4)), (5, .int (x5)), (6, .int (x6))] [] M mm_fI (f_X12_worst_69 k23 x4 x5 x6 M) := by
  unfold f_X12_worst_69
  refine sim_iload 1 d_X12_worst_69 rfl ?_
  refine sim_istore_n (L' := [(0, .ref 0), (4, .int (x4)), (5, .int (x5)), (6, .int (x6)), (1, .int (x4))]) d_X12_worst_71 rfl (Nat.le_of_ble_eq_true rfl) rfl ?_
  refine sim_iload 2 d_X12_worst_72 rfl ?_
  refine sim_istore_n (L' := [(0, .ref 0), (4, .int (x4)), (5, .int (x5)), (6, .int (x6)), (1, .int (x4)), (2, .int (x5))]) d_X12_worst_74 rfl (Nat.le_of_ble_eq_true rfl) rfl ?_
  refine sim_iload 3 d_X12_worst_75 rfl ?_
  refine sim_istore_n (L' := [(0, .ref 0), (4, .int (x4)), (5, .int (x5)), (6, .int (x6)), (1, .int (x4)), (2, .int (x5)), (3, .int (x6))]) d_X12_worst_77 rfl (Nat.le_of_ble_eq_true rfl) rfl ?_
  exact sim_sub [0, 4, 5, 6, 1] rfl (s_X12_worst_78 k23 hk23 x4 x5 x6 x4 M)
def f_X12_worst_23 : Nat → Int32 → Int32 → Int32 → Int32 → mm_M → Option (Int32 × mm_M)
  | 0, _, _, _, _, _ => none
  | n + 1, x1, x2, x3, x4, M =>
  if (10 : Int32) ≤ x4 then
    some (x1, M)
  else
    mm_bi (f_X12_tallied x4 (0 : Int32) M) (fun r1 M1 =>
    mm_bi (f_X12_tallied x4 (1 : Int32) M1) (fun r2 M2 =>
    if r1 < (2 : Int32) then
      f_X12_worst_78 (f_X12_worst_23 n) x1 x2 x3 x4 M2
    else
      if x1 < 0 then
        f_X12_worst_69 (f_X12_worst_23 n) x4 r1 r2 M2
      else
        if (r2 * x2) ≤ (x3 * r1) then
          f_X12_worst_78 (f_X12_worst_23 n) x1 x2 x3 x4 M2
        else
          f_X12_worst_69 (f_X12_worst_23 n) x4 r1 r2 M2))
theorem s_X12_worst_23 (n : Nat) : ∀ (x1 : Int32) (x2 : Int32) (x3 : Int32) (x4 : Int32) (M : mm_M), Sim sysR Y_X12_worst 9 23 [(0, .ref 0), (1, .int (x1)), (2, .int (x2)), (3, .int (x3)), (4, .int (x4))] [] M mm_fI (f_X12_worst_23 n x1 x2 x3 x4 M) := by
  induction n with
  | zero => intros; exact sim_none
  | succ n ih =>
    intro x1 x2 x3 x4 M
    rw [f_X12_worst_23]
    refine sim_iload 4 d_X12_worst_23 rfl ?_
    refine sim_bipush (10 : Int32) d_X12_worst_25 rfl ?_
    refine sim_icmp_ge d_X12_worst_27 ?_ ?_
    ·
      refine sim_iload_n 1 d_X12_worst_84 rfl rfl ?_
      exact sim_iret d_X12_worst_85 rfl
    ·
      refine sim_aload_n 0 d_X12_worst_30 rfl rfl ?_
      refine sim_iload 4 d_X12_worst_31 rfl ?_
      refine sim_iconst (0 : Int32) d_X12_worst_33 rfl ?_
      refine sim_callVi Y_X12_tallied 2 [.int (x4), .int ((0 : Int32))] [] d_X12_worst_34 lk_X12_406 cv_X12_tallied ob_R_0 rfl (by omega) (Nat.le_of_ble_eq_true rfl) (ct_X12_tallied x4 (0 : Int32) M) (fun r1 M1 => ?_)
      refine sim_istore (L' := [(0, .ref 0), (1, .int (x1)), (2, .int (x2)), (3, .int (x3)), (4, .int (x4)), (5, .int (r1))]) d_X12_worst_37 (Nat.le_of_ble_eq_true rfl) rfl ?_
      refine sim_aload_n 0 d_X12_worst_39 rfl rfl ?_
      refine sim_iload 4 d_X12_worst_40 rfl ?_
      refine sim_iconst (1 : Int32) d_X12_worst_42 rfl ?_
      refine sim_callVi Y_X12_tallied 2 [.int (x4), .int ((1 : Int32))] [] d_X12_worst_43 lk_X12_406 cv_X12_tallied ob_R_0 rfl (by omega) (Nat.le_of_ble_eq_true rfl) (ct_X12_tallied x4 (1 : Int32) M1) (fun r2 M2 => ?_)
      refine sim_istore (L' := [(0, .ref 0), (1, .int (x1)), (2, .int (x2)), (3, .int (x3)), (4, .int (x4)), (5, .int (r1)), (6, .int (r2))]) d_X12_worst_46 (Nat.le_of_ble_eq_true rfl) rfl ?_
      refine sim_iload 5 d_X12_worst_48 rfl ?_
      refine sim_iconst (2 : Int32) d_X12_worst_50 rfl ?_
      refine sim_icmp_lt d_X12_worst_51 ?_ ?_
      ·
        exact sim_sub [0, 1, 2, 3, 4] rfl (s_X12_worst_78 (f_X12_worst_23 n) ih x1 x2 x3 x4 M2)
      ·
        refine sim_iload_n 1 d_X12_worst_54 rfl rfl ?_
        refine sim_if_lt d_X12_worst_55 ?_ ?_
        ·
          exact sim_sub [0, 4, 5, 6] rfl (s_X12_worst_69 (f_X12_worst_23 n) ih x4 r1 r2 M2)
        ·
          refine sim_iload 6 d_X12_worst_58 rfl ?_
          refine sim_iload_n 2 d_X12_worst_60 rfl rfl ?_
          refine sim_imul d_X12_worst_61 ?_
          refine sim_iload_n 3 d_X12_worst_62 rfl rfl ?_
          refine sim_iload 5 d_X12_worst_63 rfl ?_
          refine sim_imul d_X12_worst_65 ?_
          refine sim_icmp_le d_X12_worst_66 ?_ ?_
          ·
            exact sim_sub [0, 1, 2, 3, 4] rfl (s_X12_worst_78 (f_X12_worst_23 n) ih x1 x2 x3 x4 M2)
          ·
            exact sim_sub [0, 4, 5, 6] rfl (s_X12_worst_69 (f_X12_worst_23 n) ih x4 r1 r2 M2)
def f_X12_worst (M : mm_M) : Option (Int32 × mm_M) :=
  mm_let (sI M 0 0 (0 : Int32)) (fun M1 =>
  mm_bv (f_X12_weigh (mI M1 0 1) M1) (fun M2 =>
  f_X12_worst_23 mm_fu (-9 : Int32) (0 : Int32) (0 : Int32) (0 : Int32) M2))
theorem s_X12_worst (M : mm_M) : Sim sysR Y_X12_worst 9 0 [(0, .ref 0)] [] M mm_fI (f_X12_worst M) := by
  unfold f_X12_worst
  refine sim_aload_n 0 d_X12_worst_0 rfl rfl ?_
  refine sim_iconst (0 : Int32) d_X12_worst_1 rfl ?_
  refine sim_puti d_X12_worst_2 fl_X12_177 ob_R_0 rfl ?_
  refine sim_nmM (fun M1 => ?_)
  refine sim_aload_n 0 d_X12_worst_5 rfl rfl ?_
  refine sim_aload_n 0 d_X12_worst_6 rfl rfl ?_
  refine sim_geti d_X12_worst_7 fl_X12_191 ob_R_0 rfl ?_
  refine sim_callVv Y_X12_weigh 8 [.int (mI M1 0 1)] [] d_X12_worst_10 lk_X12_246 cv_X12_weigh ob_R_0 rfl (by omega) (Nat.le_of_ble_eq_true rfl) (ct_X12_weigh (mI M1 0 1) M1) (fun M2 => ?_)
  refine sim_bipush (-9 : Int32) d_X12_worst_13 rfl ?_
  refine sim_istore_n (L' := [(0, .ref 0), (1, .int ((-9 : Int32)))]) d_X12_worst_15 rfl (Nat.le_of_ble_eq_true rfl) rfl ?_
  refine sim_iconst (0 : Int32) d_X12_worst_16 rfl ?_
  refine sim_istore_n (L' := [(0, .ref 0), (1, .int ((-9 : Int32))), (2, .int ((0 : Int32)))]) d_X12_worst_17 rfl (Nat.le_of_ble_eq_true rfl) rfl ?_
  refine sim_iconst (0 : Int32) d_X12_worst_18 rfl ?_
  refine sim_istore_n (L' := [(0, .ref 0), (1, .int ((-9 : Int32))), (2, .int ((0 : Int32))), (3, .int ((0 : Int32)))]) d_X12_worst_19 rfl (Nat.le_of_ble_eq_true rfl) rfl ?_
  refine sim_iconst (0 : Int32) d_X12_worst_20 rfl ?_
  refine sim_istore (L' := [(0, .ref 0), (1, .int ((-9 : Int32))), (2, .int ((0 : Int32))), (3, .int ((0 : Int32))), (4, .int ((0 : Int32)))]) d_X12_worst_21 (Nat.le_of_ble_eq_true rfl) rfl ?_
  exact sim_sub [0, 1, 2, 3, 4] rfl (s_X12_worst_23 mm_fu (-9 : Int32) (0 : Int32) (0 : Int32) (0 : Int32) M2)
theorem ct_X12_worst (M : mm_M) : Ct sysR Y_X12_worst 9 [.ref 0] M mm_fI (f_X12_worst M) :=
  ct_of_sim (by decide) rfl (Nat.le_of_ble_eq_true rfl) (s_X12_worst M)
def f_X12_cost (a1 : Int32) (a2 : Int32) (M : mm_M) : Option (Int32 × mm_M) :=
  mm_let (sI M 0 0 (0 : Int32)) (fun M1 =>
  mm_bi (f_X12_in a1 (0 : Int32) (4 : Int32) M1) (fun r1 M2 =>
  if r1 = 0 then
    mm_bi (f_X12_refuse (-2 : Int32) M2) (fun r4 M6 =>
    some (r4, M6))
  else
    if 0 ≤ a2 then
      if a2 ≤ (500 : Int32) then
        mm_ck a1 5 (
        mm_let (mI M2 54 a1.toNatClampNeg) (fun v1 =>
        mm_ck a1 5 (
        mm_let (sI M2 54 a1.toNatClampNeg a2) (fun M3 =>
        some (v1, M3)))))
      else
        mm_bi (f_X12_refuse (-6 : Int32) M2) (fun r2 M4 =>
        some (r2, M4))
    else
      mm_bi (f_X12_refuse (-4 : Int32) M2) (fun r3 M5 =>
      some (r3, M5))))
theorem s_X12_cost (a1 : Int32) (a2 : Int32) (M : mm_M) : Sim sysR Y_X12_cost 1 0 [(0, .ref 0), (1, .int (a1)), (2, .int (a2))] [] M mm_fI (f_X12_cost a1 a2 M) := by
  unfold f_X12_cost
  refine sim_aload_n 0 d_X12_cost_0 rfl rfl ?_
  refine sim_iconst (0 : Int32) d_X12_cost_1 rfl ?_
  refine sim_puti d_X12_cost_2 fl_X12_177 ob_R_0 rfl ?_
  refine sim_nmM (fun M1 => ?_)
  refine sim_iload_n 1 d_X12_cost_5 rfl rfl ?_
  refine sim_iconst (0 : Int32) d_X12_cost_6 rfl ?_
  refine sim_iconst (4 : Int32) d_X12_cost_7 rfl ?_
  refine sim_callSi Y_X12_in 0 [.int (a1), .int ((0 : Int32)), .int ((4 : Int32))] [] d_X12_cost_8 lk_X12_183 cs_X12_in rfl (by omega) (Nat.le_of_ble_eq_true rfl) (ct_X12_in a1 (0 : Int32) (4 : Int32) M1) (fun r1 M2 => ?_)
  refine sim_if_ne d_X12_cost_11 ?_ ?_
  ·
    refine sim_iload_n 2 d_X12_cost_21 rfl rfl ?_
    refine sim_if_ge d_X12_cost_22 ?_ ?_
    ·
      refine sim_iload_n 2 d_X12_cost_32 rfl rfl ?_
      refine sim_sipush (500 : Int32) d_X12_cost_33 rfl ?_
      refine sim_icmp_le d_X12_cost_36 ?_ ?_
      ·
        refine sim_aload_n 0 d_X12_cost_46 rfl rfl ?_
        refine sim_geta d_X12_cost_47 fl_X12_174 ob_R_0 rfl ?_
        refine sim_iload_n 1 d_X12_cost_50 rfl rfl ?_
        refine sim_iald d_X12_cost_51 ar_R_54 ?_
        refine sim_nmi (fun v1 => ?_)
        refine sim_istore_n (L' := [(0, .ref 0), (1, .int (a1)), (2, .int (a2)), (3, .int (v1))]) d_X12_cost_52 rfl (Nat.le_of_ble_eq_true rfl) rfl ?_
        refine sim_aload_n 0 d_X12_cost_53 rfl rfl ?_
        refine sim_geta d_X12_cost_54 fl_X12_174 ob_R_0 rfl ?_
        refine sim_iload_n 1 d_X12_cost_57 rfl rfl ?_
        refine sim_iload_n 2 d_X12_cost_58 rfl rfl ?_
        refine sim_iast d_X12_cost_59 ar_R_54 ?_
        refine sim_nmM (fun M3 => ?_)
        refine sim_iload_n 3 d_X12_cost_60 rfl rfl ?_
        exact sim_iret d_X12_cost_61 rfl
      ·
        refine sim_aload_n 0 d_X12_cost_39 rfl rfl ?_
        refine sim_bipush (-6 : Int32) d_X12_cost_40 rfl ?_
        refine sim_callVi Y_X12_refuse 0 [.int ((-6 : Int32))] [] d_X12_cost_42 lk_X12_187 cv_X12_refuse ob_R_0 rfl (by omega) (Nat.le_of_ble_eq_true rfl) (ct_X12_refuse (-6 : Int32) M2) (fun r2 M4 => ?_)
        exact sim_iret d_X12_cost_45 rfl
    ·
      refine sim_aload_n 0 d_X12_cost_25 rfl rfl ?_
      refine sim_bipush (-4 : Int32) d_X12_cost_26 rfl ?_
      refine sim_callVi Y_X12_refuse 0 [.int ((-4 : Int32))] [] d_X12_cost_28 lk_X12_187 cv_X12_refuse ob_R_0 rfl (by omega) (Nat.le_of_ble_eq_true rfl) (ct_X12_refuse (-4 : Int32) M2) (fun r3 M5 => ?_)
      exact sim_iret d_X12_cost_31 rfl
  ·
    refine sim_aload_n 0 d_X12_cost_14 rfl rfl ?_
    refine sim_bipush (-2 : Int32) d_X12_cost_15 rfl ?_
    refine sim_callVi Y_X12_refuse 0 [.int ((-2 : Int32))] [] d_X12_cost_17 lk_X12_187 cv_X12_refuse ob_R_0 rfl (by omega) (Nat.le_of_ble_eq_true rfl) (ct_X12_refuse (-2 : Int32) M2) (fun r4 M6 => ?_)
    exact sim_iret d_X12_cost_20 rfl
theorem ct_X12_cost (a1 : Int32) (a2 : Int32) (M : mm_M) : Ct sysR Y_X12_cost 1 [.ref 0, .int (a1), .int (a2)] M mm_fI (f_X12_cost a1 a2 M) :=
  ct_of_sim (by decide) rfl (Nat.le_of_ble_eq_true rfl) (s_X12_cost a1 a2 M)
def f_X12_isPaid_110 (k14 : Int64 → Int64 → Int32 → mm_M → Option (Int32 × mm_M)) (x3 : Int64) (x5 : Int64) (x7 : Int32) (M : mm_M) : Option (Int32 × mm_M) :=
  k14 x3 x5 (x7 + (1 : Int32)) M
theorem s_X12_isPaid_110 (k14 : Int64 → Int64 → Int32 → mm_M → Option (Int32 × mm_M)) (hk14 : ∀ (x3 : Int64) (x5 : Int64) (x7 : Int32) (M : mm_M), Sim sysR Y_X12_isPaid 2 14 [(0, .ref 0), (3, .long (x3)), (5, .long (x5)), (7, .int (x7))] [] M mm_fI (k14 x3 x5 x7 M)) (x3 : Int64) (x5 : Int64) (x7 : Int32) (M : mm_M) : Sim sysR Y_X12_isPaid 2 110 [(0, .ref 0), (3, .long (x3)), (5, .long (x5)), (7, .int (x7))] [] M mm_fI (f_X12_isPaid_110 k14 x3 x5 x7 M) := by
  unfold f_X12_isPaid_110
  refine sim_iinc (v := x7 + (1 : Int32)) (L' := [(0, .ref 0), (3, .long (x3)), (5, .long (x5)), (7, .int (x7 + (1 : Int32)))]) 3 d_X12_isPaid_110 (Nat.le_of_ble_eq_true rfl) rfl rfl rfl ?_
  refine sim_goto d_X12_isPaid_113 ?_
  exact sim_sub [0, 1, 2, 3] rfl (hk14 x3 x5 (x7 + (1 : Int32)) M)
def f_X12_isPaid_107 (k14 : Int64 → Int64 → Int32 → mm_M → Option (Int32 × mm_M)) (x3 : Int64) (x7 : Int32) (t0 : Int64) (t1 : Int64) (M : mm_M) : Option (Int32 × mm_M) :=
  mm_let (t0 + t1) (fun v1 =>
  f_X12_isPaid_110 k14 x3 v1 x7 M)
theorem s_X12_isPaid_107 (k14 : Int64 → Int64 → Int32 → mm_M → Option (Int32 × mm_M)) (hk14 : ∀ (x3 : Int64) (x5 : Int64) (x7 : Int32) (M : mm_M), Sim sysR Y_X12_isPaid 2 14 [(0, .ref 0), (3, .long (x3)), (5, .long (x5)), (7, .int (x7))] [] M mm_fI (k14 x3 x5 x7 M)) (x3 : Int64) (x7 : Int32) (t0 : Int64) (t1 : Int64) (M : mm_M) : Sim sysR Y_X12_isPaid 2 107 [(0, .ref 0), (3, .long (x3)), (7, .int (x7))] [.long (t1), .long (t0)] M mm_fI (f_X12_isPaid_107 k14 x3 x7 t0 t1 M) := by
  unfold f_X12_isPaid_107
  refine sim_ladd d_X12_isPaid_107 ?_
  refine sim_nml (fun v1 => ?_)
  refine sim_lstore (L' := [(0, .ref 0), (3, .long (x3)), (7, .int (x7)), (5, .long (v1))]) d_X12_isPaid_108 (Nat.le_of_ble_eq_true rfl) rfl ?_
  exact sim_sub [0, 1, 3, 2] rfl (s_X12_isPaid_110 k14 hk14 x3 v1 x7 M)
def f_X12_isPaid_61 (k14 : Int64 → Int64 → Int32 → mm_M → Option (Int32 × mm_M)) (x5 : Int64) (x7 : Int32) (t0 : Int64) (t1 : Int64) (M : mm_M) : Option (Int32 × mm_M) :=
  mm_let (t0 - t1) (fun v1 =>
  mm_ck x7 40 (
  if (mI M 18 x7.toNatClampNeg) = 0 then
    mm_ck x7 40 (
    mm_ck x7 40 (
    mm_ck (mI M 1 x7.toNatClampNeg) 5 (
    f_X12_isPaid_107 k14 v1 x7 x5 ((((mI M 0 22).toInt64) * ((mI M 5 x7.toNatClampNeg).toInt64)) * ((mI M 54 (mI M 1 x7.toNatClampNeg).toNatClampNeg).toInt64)) M)))
  else
    f_X12_isPaid_107 k14 v1 x7 x5 (0 : Int64) M))
theorem s_X12_isPaid_61 (k14 : Int64 → Int64 → Int32 → mm_M → Option (Int32 × mm_M)) (hk14 : ∀ (x3 : Int64) (x5 : Int64) (x7 : Int32) (M : mm_M), Sim sysR Y_X12_isPaid 2 14 [(0, .ref 0), (3, .long (x3)), (5, .long (x5)), (7, .int (x7))] [] M mm_fI (k14 x3 x5 x7 M)) (x5 : Int64) (x7 : Int32) (t0 : Int64) (t1 : Int64) (M : mm_M) : Sim sysR Y_X12_isPaid 2 61 [(0, .ref 0), (5, .long (x5)), (7, .int (x7))] [.long (t1), .long (t0)] M mm_fI (f_X12_isPaid_61 k14 x5 x7 t0 t1 M) := by
  unfold f_X12_isPaid_61
  refine sim_lsub d_X12_isPaid_61 ?_
  refine sim_nml (fun v1 => ?_)
  refine sim_lstore_n (L' := [(0, .ref 0), (5, .long (x5)), (7, .int (x7)), (3, .long (v1))]) d_X12_isPaid_62 rfl (Nat.le_of_ble_eq_true rfl) rfl ?_
  refine sim_lload 1 d_X12_isPaid_63 rfl ?_
  refine sim_aload_n 0 d_X12_isPaid_65 rfl rfl ?_
  refine sim_geta d_X12_isPaid_66 fl_X12_62 ob_R_0 rfl ?_
  refine sim_iload 2 d_X12_isPaid_69 rfl ?_
  refine sim_zald d_X12_isPaid_71 ar_R_18 ?_
  refine sim_if_eq d_X12_isPaid_72 ?_ ?_
  ·
    refine sim_aload_n 0 d_X12_isPaid_79 rfl rfl ?_
    refine sim_geti d_X12_isPaid_80 fl_X12_208 ob_R_0 rfl ?_
    refine sim_i2l d_X12_isPaid_83 ?_
    refine sim_aload_n 0 d_X12_isPaid_84 rfl rfl ?_
    refine sim_geta d_X12_isPaid_85 fl_X12_22 ob_R_0 rfl ?_
    refine sim_iload 2 d_X12_isPaid_88 rfl ?_
    refine sim_iald d_X12_isPaid_90 ar_R_5 ?_
    refine sim_i2l d_X12_isPaid_91 ?_
    refine sim_lmul d_X12_isPaid_92 ?_
    refine sim_aload_n 0 d_X12_isPaid_93 rfl rfl ?_
    refine sim_geta d_X12_isPaid_94 fl_X12_174 ob_R_0 rfl ?_
    refine sim_aload_n 0 d_X12_isPaid_97 rfl rfl ?_
    refine sim_geta d_X12_isPaid_98 fl_X12_7 ob_R_0 rfl ?_
    refine sim_iload 2 d_X12_isPaid_101 rfl ?_
    refine sim_iald d_X12_isPaid_103 ar_R_1 ?_
    refine sim_iald d_X12_isPaid_104 ar_R_54 ?_
    refine sim_i2l d_X12_isPaid_105 ?_
    refine sim_lmul d_X12_isPaid_106 ?_
    exact sim_sub [0, 3, 2] rfl (s_X12_isPaid_107 k14 hk14 v1 x7 x5 ((((mI M 0 22).toInt64) * ((mI M 5 x7.toNatClampNeg).toInt64)) * ((mI M 54 (mI M 1 x7.toNatClampNeg).toNatClampNeg).toInt64)) M)
  ·
    refine sim_lconst (0 : Int64) d_X12_isPaid_75 rfl ?_
    refine sim_goto d_X12_isPaid_76 ?_
    exact sim_sub [0, 3, 2] rfl (s_X12_isPaid_107 k14 hk14 v1 x7 x5 (0 : Int64) M)
def f_X12_isPaid_14 (k116 : Int64 → Int64 → mm_M → Option (Int32 × mm_M)) : Nat → Int64 → Int64 → Int32 → mm_M → Option (Int32 × mm_M)
  | 0, _, _, _, _ => none
  | n + 1, x3, x5, x7, M =>
  if (mI M 0 2) ≤ x7 then
    k116 x3 x5 M
  else
    mm_ck x7 40 (
    if (mI M 6 x7.toNatClampNeg) = 0 then
      f_X12_isPaid_110 (f_X12_isPaid_14 k116 n) x3 x5 x7 M
    else
      mm_ck x7 40 (
      if (mI M 18 x7.toNatClampNeg) = 0 then
        f_X12_isPaid_61 (f_X12_isPaid_14 k116 n) x5 x7 x3 (0 : Int64) M
      else
        mm_ck x7 40 (
        mm_ck (mI M 1 x7.toNatClampNeg) 5 (
        f_X12_isPaid_61 (f_X12_isPaid_14 k116 n) x5 x7 x3 ((mI M 54 (mI M 1 x7.toNatClampNeg).toNatClampNeg).toInt64) M))))
theorem s_X12_isPaid_14 (k116 : Int64 → Int64 → mm_M → Option (Int32 × mm_M)) (hk116 : ∀ (x3 : Int64) (x5 : Int64) (M : mm_M), Sim sysR Y_X12_isPaid 2 116 [(0, .ref 0), (3, .long (x3)), (5, .long (x5))] [] M mm_fI (k116 x3 x5 M)) (n : Nat) : ∀ (x3 : Int64) (x5 : Int64) (x7 : Int32) (M : mm_M), Sim sysR Y_X12_isPaid 2 14 [(0, .ref 0), (3, .long (x3)), (5, .long (x5)), (7, .int (x7))] [] M mm_fI (f_X12_isPaid_14 k116 n x3 x5 x7 M) := by
  induction n with
  | zero => intros; exact sim_none
  | succ n ih =>
    intro x3 x5 x7 M
    rw [f_X12_isPaid_14]
    refine sim_iload 3 d_X12_isPaid_14 rfl ?_
    refine sim_aload_n 0 d_X12_isPaid_16 rfl rfl ?_
    refine sim_geti d_X12_isPaid_17 fl_X12_180 ob_R_0 rfl ?_
    refine sim_icmp_ge d_X12_isPaid_20 ?_ ?_
    ·
      exact sim_sub [0, 1, 2] rfl (hk116 x3 x5 M)
    ·
      refine sim_aload_n 0 d_X12_isPaid_23 rfl rfl ?_
      refine sim_geta d_X12_isPaid_24 fl_X12_25 ob_R_0 rfl ?_
      refine sim_iload 3 d_X12_isPaid_27 rfl ?_
      refine sim_zald d_X12_isPaid_29 ar_R_6 ?_
      refine sim_if_eq d_X12_isPaid_30 ?_ ?_
      ·
        exact sim_sub [0, 1, 2, 3] rfl (s_X12_isPaid_110 (f_X12_isPaid_14 k116 n) ih x3 x5 x7 M)
      ·
        refine sim_lload_n 1 d_X12_isPaid_33 rfl rfl ?_
        refine sim_aload_n 0 d_X12_isPaid_34 rfl rfl ?_
        refine sim_geta d_X12_isPaid_35 fl_X12_62 ob_R_0 rfl ?_
        refine sim_iload 3 d_X12_isPaid_38 rfl ?_
        refine sim_zald d_X12_isPaid_40 ar_R_18 ?_
        refine sim_if_eq d_X12_isPaid_41 ?_ ?_
        ·
          refine sim_lconst (0 : Int64) d_X12_isPaid_60 rfl ?_
          exact sim_sub [0, 2, 3] rfl (s_X12_isPaid_61 (f_X12_isPaid_14 k116 n) ih x5 x7 x3 (0 : Int64) M)
        ·
          refine sim_aload_n 0 d_X12_isPaid_44 rfl rfl ?_
          refine sim_geta d_X12_isPaid_45 fl_X12_174 ob_R_0 rfl ?_
          refine sim_aload_n 0 d_X12_isPaid_48 rfl rfl ?_
          refine sim_geta d_X12_isPaid_49 fl_X12_7 ob_R_0 rfl ?_
          refine sim_iload 3 d_X12_isPaid_52 rfl ?_
          refine sim_iald d_X12_isPaid_54 ar_R_1 ?_
          refine sim_iald d_X12_isPaid_55 ar_R_54 ?_
          refine sim_i2l d_X12_isPaid_56 ?_
          refine sim_goto d_X12_isPaid_57 ?_
          exact sim_sub [0, 2, 3] rfl (s_X12_isPaid_61 (f_X12_isPaid_14 k116 n) ih x5 x7 x3 ((mI M 54 (mI M 1 x7.toNatClampNeg).toNatClampNeg).toInt64) M)
def f_X12_isPaid_134 (t0 : Int64) (t1 : Int64) (t2 : Int32) (M : mm_M) : Option (Int32 × mm_M) :=
  if 0 < (lg_cmp (t0) (t1 * ((t2).toInt64))) then
    some ((0 : Int32), M)
  else
    some ((1 : Int32), M)
theorem s_X12_isPaid_134 (t0 : Int64) (t1 : Int64) (t2 : Int32) (M : mm_M) : Sim sysR Y_X12_isPaid 2 134 [] [.int (t2), .long (t1), .long (t0)] M mm_fI (f_X12_isPaid_134 t0 t1 t2 M) := by
  unfold f_X12_isPaid_134
  refine sim_i2l d_X12_isPaid_134 ?_
  refine sim_lmul d_X12_isPaid_135 ?_
  refine sim_lcmp d_X12_isPaid_136 ?_
  refine sim_if_gt d_X12_isPaid_137 ?_ ?_
  ·
    refine sim_iconst (0 : Int32) d_X12_isPaid_144 rfl ?_
    exact sim_zret d_X12_isPaid_145 rfl rfl
  ·
    refine sim_iconst (1 : Int32) d_X12_isPaid_140 rfl ?_
    refine sim_goto d_X12_isPaid_141 ?_
    exact sim_zret d_X12_isPaid_145 rfl rfl
def f_X12_isPaid_116 (x3 : Int64) (x5 : Int64) (M : mm_M) : Option (Int32 × mm_M) :=
  if (mI M 0 23) ≤ 0 then
    f_X12_isPaid_134 x5 x3 (1 : Int32) M
  else
    f_X12_isPaid_134 x5 x3 (mI M 0 23) M
theorem s_X12_isPaid_116 (x3 : Int64) (x5 : Int64) (M : mm_M) : Sim sysR Y_X12_isPaid 2 116 [(0, .ref 0), (3, .long (x3)), (5, .long (x5))] [] M mm_fI (f_X12_isPaid_116 x3 x5 M) := by
  unfold f_X12_isPaid_116
  refine sim_lload 2 d_X12_isPaid_116 rfl ?_
  refine sim_lload_n 1 d_X12_isPaid_118 rfl rfl ?_
  refine sim_aload_n 0 d_X12_isPaid_119 rfl rfl ?_
  refine sim_geti d_X12_isPaid_120 fl_X12_211 ob_R_0 rfl ?_
  refine sim_if_le d_X12_isPaid_123 ?_ ?_
  ·
    refine sim_iconst (1 : Int32) d_X12_isPaid_133 rfl ?_
    exact sim_sub [] rfl (s_X12_isPaid_134 x5 x3 (1 : Int32) M)
  ·
    refine sim_aload_n 0 d_X12_isPaid_126 rfl rfl ?_
    refine sim_geti d_X12_isPaid_127 fl_X12_211 ob_R_0 rfl ?_
    refine sim_goto d_X12_isPaid_130 ?_
    exact sim_sub [] rfl (s_X12_isPaid_134 x5 x3 (mI M 0 23) M)
def f_X12_isPaid (a1 : Int32) (a2 : Int32) (M : mm_M) : Option (Int32 × mm_M) :=
  mm_bv (f_X12_findSure a1 M) (fun M1 =>
  mm_let ((a2).toInt64) (fun v1 =>
  f_X12_isPaid_14 f_X12_isPaid_116 mm_fu v1 (0 : Int64) (0 : Int32) M1))
theorem s_X12_isPaid (a1 : Int32) (a2 : Int32) (M : mm_M) : Sim sysR Y_X12_isPaid 2 0 [(0, .ref 0), (1, .int (a1)), (2, .int (a2))] [] M mm_fI (f_X12_isPaid a1 a2 M) := by
  unfold f_X12_isPaid
  refine sim_aload_n 0 d_X12_isPaid_0 rfl rfl ?_
  refine sim_iload_n 1 d_X12_isPaid_1 rfl rfl ?_
  refine sim_callVv Y_X12_findSure 1 [.int (a1)] [] d_X12_isPaid_2 lk_X12_218 cv_X12_findSure ob_R_0 rfl (by omega) (Nat.le_of_ble_eq_true rfl) (ct_X12_findSure a1 M) (fun M1 => ?_)
  refine sim_iload_n 2 d_X12_isPaid_5 rfl rfl ?_
  refine sim_i2l d_X12_isPaid_6 ?_
  refine sim_nml (fun v1 => ?_)
  refine sim_lstore_n (L' := [(0, .ref 0), (1, .int (a1)), (2, .int (a2)), (3, .long (v1))]) d_X12_isPaid_7 rfl (Nat.le_of_ble_eq_true rfl) rfl ?_
  refine sim_lconst (0 : Int64) d_X12_isPaid_8 rfl ?_
  refine sim_lstore (L' := [(0, .ref 0), (1, .int (a1)), (2, .int (a2)), (3, .long (v1)), (5, .long ((0 : Int64)))]) d_X12_isPaid_9 (Nat.le_of_ble_eq_true rfl) rfl ?_
  refine sim_iconst (0 : Int32) d_X12_isPaid_11 rfl ?_
  refine sim_istore (L' := [(0, .ref 0), (1, .int (a1)), (2, .int (a2)), (3, .long (v1)), (5, .long ((0 : Int64))), (7, .int ((0 : Int32)))]) d_X12_isPaid_12 (Nat.le_of_ble_eq_true rfl) rfl ?_
  exact sim_sub [0, 3, 4, 5] rfl (s_X12_isPaid_14 f_X12_isPaid_116 s_X12_isPaid_116 mm_fu v1 (0 : Int64) (0 : Int32) M1)
theorem ct_X12_isPaid (a1 : Int32) (a2 : Int32) (M : mm_M) : Ct sysR Y_X12_isPaid 2 [.ref 0, .int (a1), .int (a2)] M mm_fI (f_X12_isPaid a1 a2 M) :=
  ct_of_sim (by decide) rfl (Nat.le_of_ble_eq_true rfl) (s_X12_isPaid a1 a2 M)
def f_X12_most_47 : Nat → Int32 → Int32 → mm_M → Option (Int32 × mm_M)
  | 0, _, _, _ => none
  | n + 1, x1, x2, M =>
  if x2 ≤ 0 then
    some ((0 : Int32), M)
  else
    mm_bi (f_X12_isPaid x2 x1 M) (fun r1 M1 =>
    if r1 = 0 then
      f_X12_most_47 n x1 (x2 + (-1 : Int32)) M1
    else
      some (x2, M1))
theorem s_X12_most_47 (n : Nat) : ∀ (x1 : Int32) (x2 : Int32) (M : mm_M), Sim sysR Y_X12_most 3 47 [(0, .ref 0), (1, .int (x1)), (2, .int (x2))] [] M mm_fI (f_X12_most_47 n x1 x2 M) := by
  induction n with
  | zero => intros; exact sim_none
  | succ n ih =>
    intro x1 x2 M
    rw [f_X12_most_47]
    refine sim_iload_n 2 d_X12_most_47 rfl rfl ?_
    refine sim_if_le d_X12_most_48 ?_ ?_
    ·
      refine sim_iconst (0 : Int32) d_X12_most_68 rfl ?_
      exact sim_iret d_X12_most_69 rfl
    ·
      refine sim_aload_n 0 d_X12_most_51 rfl rfl ?_
      refine sim_iload_n 2 d_X12_most_52 rfl rfl ?_
      refine sim_iload_n 1 d_X12_most_53 rfl rfl ?_
      refine sim_callVi Y_X12_isPaid 2 [.int (x2), .int (x1)] [] d_X12_most_54 lk_X12_410 cv_X12_isPaid ob_R_0 rfl (by omega) (Nat.le_of_ble_eq_true rfl) (ct_X12_isPaid x2 x1 M) (fun r1 M1 => ?_)
      refine sim_if_eq d_X12_most_57 ?_ ?_
      ·
        refine sim_iinc (v := x2 + (-1 : Int32)) (L' := [(0, .ref 0), (1, .int (x1)), (2, .int (x2 + (-1 : Int32)))]) 2 d_X12_most_62 (Nat.le_of_ble_eq_true rfl) rfl rfl rfl ?_
        refine sim_goto d_X12_most_65 ?_
        exact sim_sub [0, 1, 2] rfl (ih x1 (x2 + (-1 : Int32)) M1)
      ·
        refine sim_iload_n 2 d_X12_most_60 rfl rfl ?_
        exact sim_iret d_X12_most_61 rfl
def f_X12_most (a1 : Int32) (M : mm_M) : Option (Int32 × mm_M) :=
  mm_let (sI M 0 0 (0 : Int32)) (fun M1 =>
  mm_bi (f_X12_openMany M1) (fun r1 M2 =>
  if r1 = 0 then
    mm_bi (f_X12_refuse (-3 : Int32) M2) (fun r4 M5 =>
    some (r4, M5))
  else
    if 0 ≤ a1 then
      if a1 ≤ (20000 : Int32) then
        f_X12_most_47 mm_fu a1 (40 : Int32) M2
      else
        mm_bi (f_X12_refuse (-6 : Int32) M2) (fun r2 M3 =>
        some (r2, M3))
    else
      mm_bi (f_X12_refuse (-4 : Int32) M2) (fun r3 M4 =>
      some (r3, M4))))
theorem s_X12_most (a1 : Int32) (M : mm_M) : Sim sysR Y_X12_most 3 0 [(0, .ref 0), (1, .int (a1))] [] M mm_fI (f_X12_most a1 M) := by
  unfold f_X12_most
  refine sim_aload_n 0 d_X12_most_0 rfl rfl ?_
  refine sim_iconst (0 : Int32) d_X12_most_1 rfl ?_
  refine sim_puti d_X12_most_2 fl_X12_177 ob_R_0 rfl ?_
  refine sim_nmM (fun M1 => ?_)
  refine sim_aload_n 0 d_X12_most_5 rfl rfl ?_
  refine sim_callVi Y_X12_openMany 0 [] [] d_X12_most_6 lk_X12_214 cv_X12_openMany ob_R_0 rfl (by omega) (Nat.le_of_ble_eq_true rfl) (ct_X12_openMany M1) (fun r1 M2 => ?_)
  refine sim_if_ne d_X12_most_9 ?_ ?_
  ·
    refine sim_iload_n 1 d_X12_most_19 rfl rfl ?_
    refine sim_if_ge d_X12_most_20 ?_ ?_
    ·
      refine sim_iload_n 1 d_X12_most_30 rfl rfl ?_
      refine sim_sipush (20000 : Int32) d_X12_most_31 rfl ?_
      refine sim_icmp_le d_X12_most_34 ?_ ?_
      ·
        refine sim_bipush (40 : Int32) d_X12_most_44 rfl ?_
        refine sim_istore_n (L' := [(0, .ref 0), (1, .int (a1)), (2, .int ((40 : Int32)))]) d_X12_most_46 rfl (Nat.le_of_ble_eq_true rfl) rfl ?_
        exact sim_sub [0, 1, 2] rfl (s_X12_most_47 mm_fu a1 (40 : Int32) M2)
      ·
        refine sim_aload_n 0 d_X12_most_37 rfl rfl ?_
        refine sim_bipush (-6 : Int32) d_X12_most_38 rfl ?_
        refine sim_callVi Y_X12_refuse 0 [.int ((-6 : Int32))] [] d_X12_most_40 lk_X12_187 cv_X12_refuse ob_R_0 rfl (by omega) (Nat.le_of_ble_eq_true rfl) (ct_X12_refuse (-6 : Int32) M2) (fun r2 M3 => ?_)
        exact sim_iret d_X12_most_43 rfl
    ·
      refine sim_aload_n 0 d_X12_most_23 rfl rfl ?_
      refine sim_bipush (-4 : Int32) d_X12_most_24 rfl ?_
      refine sim_callVi Y_X12_refuse 0 [.int ((-4 : Int32))] [] d_X12_most_26 lk_X12_187 cv_X12_refuse ob_R_0 rfl (by omega) (Nat.le_of_ble_eq_true rfl) (ct_X12_refuse (-4 : Int32) M2) (fun r3 M4 => ?_)
      exact sim_iret d_X12_most_29 rfl
  ·
    refine sim_aload_n 0 d_X12_most_12 rfl rfl ?_
    refine sim_bipush (-3 : Int32) d_X12_most_13 rfl ?_
    refine sim_callVi Y_X12_refuse 0 [.int ((-3 : Int32))] [] d_X12_most_15 lk_X12_187 cv_X12_refuse ob_R_0 rfl (by omega) (Nat.le_of_ble_eq_true rfl) (ct_X12_refuse (-3 : Int32) M2) (fun r4 M5 => ?_)
    exact sim_iret d_X12_most_18 rfl
theorem ct_X12_most (a1 : Int32) (M : mm_M) : Ct sysR Y_X12_most 3 [.ref 0, .int (a1)] M mm_fI (f_X12_most a1 M) :=
  ct_of_sim (by decide) rfl (Nat.le_of_ble_eq_true rfl) (s_X12_most a1 M)
def f_X12_count_274 (k235 : Int32 → Int32 → Int32 → mm_M → Option (Int32 × mm_M)) (x1 : Int32) (x3 : Int32) (t0 : Int32) (t1 : Int32) (M : mm_M) : Option (Int32 × mm_M) :=
  mm_let (t0 + t1) (fun v1 =>
  k235 x1 v1 (x3 + (1 : Int32)) M)
theorem s_X12_count_274 (k235 : Int32 → Int32 → Int32 → mm_M → Option (Int32 × mm_M)) (hk235 : ∀ (x1 : Int32) (x2 : Int32) (x3 : Int32) (M : mm_M), Sim sysR Y_X12_count 9 235 [(0, .ref 0), (1, .int (x1)), (2, .int (x2)), (3, .int (x3))] [] M mm_fI (k235 x1 x2 x3 M)) (x1 : Int32) (x3 : Int32) (t0 : Int32) (t1 : Int32) (M : mm_M) : Sim sysR Y_X12_count 9 274 [(0, .ref 0), (1, .int (x1)), (3, .int (x3))] [.int (t1), .int (t0)] M mm_fI (f_X12_count_274 k235 x1 x3 t0 t1 M) := by
  unfold f_X12_count_274
  refine sim_iadd d_X12_count_274 ?_
  refine sim_nmi (fun v1 => ?_)
  refine sim_istore_n (L' := [(0, .ref 0), (1, .int (x1)), (3, .int (x3)), (2, .int (v1))]) d_X12_count_275 rfl (Nat.le_of_ble_eq_true rfl) rfl ?_
  refine sim_iinc (v := x3 + (1 : Int32)) (L' := [(0, .ref 0), (1, .int (x1)), (2, .int (v1)), (3, .int (x3 + (1 : Int32)))]) 2 d_X12_count_276 (Nat.le_of_ble_eq_true rfl) rfl rfl rfl ?_
  refine sim_goto d_X12_count_279 ?_
  exact sim_sub [0, 1, 2, 3] rfl (hk235 x1 v1 (x3 + (1 : Int32)) M)
def f_X12_count_273 (k235 : Int32 → Int32 → Int32 → mm_M → Option (Int32 × mm_M)) (x1 : Int32) (x3 : Int32) (t0 : Int32) (M : mm_M) : Option (Int32 × mm_M) :=
  f_X12_count_274 k235 x1 x3 t0 (0 : Int32) M
theorem s_X12_count_273 (k235 : Int32 → Int32 → Int32 → mm_M → Option (Int32 × mm_M)) (hk235 : ∀ (x1 : Int32) (x2 : Int32) (x3 : Int32) (M : mm_M), Sim sysR Y_X12_count 9 235 [(0, .ref 0), (1, .int (x1)), (2, .int (x2)), (3, .int (x3))] [] M mm_fI (k235 x1 x2 x3 M)) (x1 : Int32) (x3 : Int32) (t0 : Int32) (M : mm_M) : Sim sysR Y_X12_count 9 273 [(0, .ref 0), (1, .int (x1)), (3, .int (x3))] [.int (t0)] M mm_fI (f_X12_count_273 k235 x1 x3 t0 M) := by
  unfold f_X12_count_273
  refine sim_iconst (0 : Int32) d_X12_count_273 rfl ?_
  exact sim_sub [0, 1, 2] rfl (s_X12_count_274 k235 hk235 x1 x3 t0 (0 : Int32) M)
def f_X12_count_269 (k235 : Int32 → Int32 → Int32 → mm_M → Option (Int32 × mm_M)) (x1 : Int32) (x3 : Int32) (t0 : Int32) (M : mm_M) : Option (Int32 × mm_M) :=
  f_X12_count_274 k235 x1 x3 t0 (1 : Int32) M
theorem s_X12_count_269 (k235 : Int32 → Int32 → Int32 → mm_M → Option (Int32 × mm_M)) (hk235 : ∀ (x1 : Int32) (x2 : Int32) (x3 : Int32) (M : mm_M), Sim sysR Y_X12_count 9 235 [(0, .ref 0), (1, .int (x1)), (2, .int (x2)), (3, .int (x3))] [] M mm_fI (k235 x1 x2 x3 M)) (x1 : Int32) (x3 : Int32) (t0 : Int32) (M : mm_M) : Sim sysR Y_X12_count 9 269 [(0, .ref 0), (1, .int (x1)), (3, .int (x3))] [.int (t0)] M mm_fI (f_X12_count_269 k235 x1 x3 t0 M) := by
  unfold f_X12_count_269
  refine sim_iconst (1 : Int32) d_X12_count_269 rfl ?_
  refine sim_goto d_X12_count_270 ?_
  exact sim_sub [0, 1, 2] rfl (s_X12_count_274 k235 hk235 x1 x3 t0 (1 : Int32) M)
def f_X12_count_235 : Nat → Int32 → Int32 → Int32 → mm_M → Option (Int32 × mm_M)
  | 0, _, _, _, _ => none
  | n + 1, x1, x2, x3, M =>
  if (40 : Int32) ≤ x3 then
    some (x2, M)
  else
    if x1 = (9 : Int32) then
      mm_ck x3 40 (
      if (mI M 15 x3.toNatClampNeg) = 0 then
        f_X12_count_273 (f_X12_count_235 n) x1 x3 x2 M
      else
        f_X12_count_269 (f_X12_count_235 n) x1 x3 x2 M)
    else
      mm_ck x3 40 (
      if (mI M 47 x3.toNatClampNeg) = 0 then
        f_X12_count_273 (f_X12_count_235 n) x1 x3 x2 M
      else
        f_X12_count_269 (f_X12_count_235 n) x1 x3 x2 M)
theorem s_X12_count_235 (n : Nat) : ∀ (x1 : Int32) (x2 : Int32) (x3 : Int32) (M : mm_M), Sim sysR Y_X12_count 9 235 [(0, .ref 0), (1, .int (x1)), (2, .int (x2)), (3, .int (x3))] [] M mm_fI (f_X12_count_235 n x1 x2 x3 M) := by
  induction n with
  | zero => intros; exact sim_none
  | succ n ih =>
    intro x1 x2 x3 M
    rw [f_X12_count_235]
    refine sim_iload_n 3 d_X12_count_235 rfl rfl ?_
    refine sim_bipush (40 : Int32) d_X12_count_236 rfl ?_
    refine sim_icmp_ge d_X12_count_238 ?_ ?_
    ·
      refine sim_iload_n 2 d_X12_count_282 rfl rfl ?_
      exact sim_iret d_X12_count_283 rfl
    ·
      refine sim_iload_n 2 d_X12_count_241 rfl rfl ?_
      refine sim_iload_n 1 d_X12_count_242 rfl rfl ?_
      refine sim_bipush (9 : Int32) d_X12_count_243 rfl ?_
      refine sim_icmp_ne d_X12_count_245 ?_ ?_
      ·
        refine sim_aload_n 0 d_X12_count_260 rfl rfl ?_
        refine sim_geta d_X12_count_261 fl_X12_153 ob_R_0 rfl ?_
        refine sim_iload_n 3 d_X12_count_264 rfl rfl ?_
        refine sim_zald d_X12_count_265 ar_R_47 ?_
        refine sim_if_eq d_X12_count_266 ?_ ?_
        ·
          exact sim_sub [0, 1, 3] rfl (s_X12_count_273 (f_X12_count_235 n) ih x1 x3 x2 M)
        ·
          exact sim_sub [0, 1, 3] rfl (s_X12_count_269 (f_X12_count_235 n) ih x1 x3 x2 M)
      ·
        refine sim_aload_n 0 d_X12_count_248 rfl rfl ?_
        refine sim_geta d_X12_count_249 fl_X12_53 ob_R_0 rfl ?_
        refine sim_iload_n 3 d_X12_count_252 rfl rfl ?_
        refine sim_zald d_X12_count_253 ar_R_15 ?_
        refine sim_if_eq d_X12_count_254 ?_ ?_
        ·
          exact sim_sub [0, 1, 3] rfl (s_X12_count_273 (f_X12_count_235 n) ih x1 x3 x2 M)
        ·
          refine sim_goto d_X12_count_257 ?_
          exact sim_sub [0, 1, 3] rfl (s_X12_count_269 (f_X12_count_235 n) ih x1 x3 x2 M)
def f_X12_count_223 (k164 : Int32 → Int32 → Int32 → mm_M → Option (Int32 × mm_M)) (x1 : Int32) (x3 : Int32) (t0 : Int32) (t1 : Int32) (M : mm_M) : Option (Int32 × mm_M) :=
  mm_let (t0 + t1) (fun v1 =>
  k164 x1 v1 (x3 + (1 : Int32)) M)
theorem s_X12_count_223 (k164 : Int32 → Int32 → Int32 → mm_M → Option (Int32 × mm_M)) (hk164 : ∀ (x1 : Int32) (x2 : Int32) (x3 : Int32) (M : mm_M), Sim sysR Y_X12_count 9 164 [(0, .ref 0), (1, .int (x1)), (2, .int (x2)), (3, .int (x3))] [] M mm_fI (k164 x1 x2 x3 M)) (x1 : Int32) (x3 : Int32) (t0 : Int32) (t1 : Int32) (M : mm_M) : Sim sysR Y_X12_count 9 223 [(0, .ref 0), (1, .int (x1)), (3, .int (x3))] [.int (t1), .int (t0)] M mm_fI (f_X12_count_223 k164 x1 x3 t0 t1 M) := by
  unfold f_X12_count_223
  refine sim_iadd d_X12_count_223 ?_
  refine sim_nmi (fun v1 => ?_)
  refine sim_istore_n (L' := [(0, .ref 0), (1, .int (x1)), (3, .int (x3)), (2, .int (v1))]) d_X12_count_224 rfl (Nat.le_of_ble_eq_true rfl) rfl ?_
  refine sim_iinc (v := x3 + (1 : Int32)) (L' := [(0, .ref 0), (1, .int (x1)), (2, .int (v1)), (3, .int (x3 + (1 : Int32)))]) 2 d_X12_count_225 (Nat.le_of_ble_eq_true rfl) rfl rfl rfl ?_
  refine sim_goto d_X12_count_228 ?_
  exact sim_sub [0, 1, 2, 3] rfl (hk164 x1 v1 (x3 + (1 : Int32)) M)
def f_X12_count_222 (k164 : Int32 → Int32 → Int32 → mm_M → Option (Int32 × mm_M)) (x1 : Int32) (x3 : Int32) (t0 : Int32) (M : mm_M) : Option (Int32 × mm_M) :=
  f_X12_count_223 k164 x1 x3 t0 (0 : Int32) M
theorem s_X12_count_222 (k164 : Int32 → Int32 → Int32 → mm_M → Option (Int32 × mm_M)) (hk164 : ∀ (x1 : Int32) (x2 : Int32) (x3 : Int32) (M : mm_M), Sim sysR Y_X12_count 9 164 [(0, .ref 0), (1, .int (x1)), (2, .int (x2)), (3, .int (x3))] [] M mm_fI (k164 x1 x2 x3 M)) (x1 : Int32) (x3 : Int32) (t0 : Int32) (M : mm_M) : Sim sysR Y_X12_count 9 222 [(0, .ref 0), (1, .int (x1)), (3, .int (x3))] [.int (t0)] M mm_fI (f_X12_count_222 k164 x1 x3 t0 M) := by
  unfold f_X12_count_222
  refine sim_iconst (0 : Int32) d_X12_count_222 rfl ?_
  exact sim_sub [0, 1, 2] rfl (s_X12_count_223 k164 hk164 x1 x3 t0 (0 : Int32) M)
def f_X12_count_218 (k164 : Int32 → Int32 → Int32 → mm_M → Option (Int32 × mm_M)) (x1 : Int32) (x3 : Int32) (t0 : Int32) (M : mm_M) : Option (Int32 × mm_M) :=
  f_X12_count_223 k164 x1 x3 t0 (1 : Int32) M
theorem s_X12_count_218 (k164 : Int32 → Int32 → Int32 → mm_M → Option (Int32 × mm_M)) (hk164 : ∀ (x1 : Int32) (x2 : Int32) (x3 : Int32) (M : mm_M), Sim sysR Y_X12_count 9 164 [(0, .ref 0), (1, .int (x1)), (2, .int (x2)), (3, .int (x3))] [] M mm_fI (k164 x1 x2 x3 M)) (x1 : Int32) (x3 : Int32) (t0 : Int32) (M : mm_M) : Sim sysR Y_X12_count 9 218 [(0, .ref 0), (1, .int (x1)), (3, .int (x3))] [.int (t0)] M mm_fI (f_X12_count_218 k164 x1 x3 t0 M) := by
  unfold f_X12_count_218
  refine sim_iconst (1 : Int32) d_X12_count_218 rfl ?_
  refine sim_goto d_X12_count_219 ?_
  exact sim_sub [0, 1, 2] rfl (s_X12_count_223 k164 hk164 x1 x3 t0 (1 : Int32) M)
def f_X12_count_164 : Nat → Int32 → Int32 → Int32 → mm_M → Option (Int32 × mm_M)
  | 0, _, _, _, _ => none
  | n + 1, x1, x2, x3, M =>
  if (mI M 0 43) ≤ x3 then
    some (x2, M)
  else
    if x1 = (6 : Int32) then
      mm_ck x3 100 (
      if (mI M 34 x3.toNatClampNeg) < 0 then
        f_X12_count_222 (f_X12_count_164 n) x1 x3 x2 M
      else
        f_X12_count_218 (f_X12_count_164 n) x1 x3 x2 M)
    else
      mm_ck x3 100 (
      if (mI M 36 x3.toNatClampNeg) = 0 then
        f_X12_count_222 (f_X12_count_164 n) x1 x3 x2 M
      else
        if x1 = (7 : Int32) then
          f_X12_count_218 (f_X12_count_164 n) x1 x3 x2 M
        else
          mm_ck x3 100 (
          if ((mI M 32 x3.toNatClampNeg) / (4 : Int32)) = (1 : Int32) then
            f_X12_count_218 (f_X12_count_164 n) x1 x3 x2 M
          else
            f_X12_count_222 (f_X12_count_164 n) x1 x3 x2 M))
theorem s_X12_count_164 (n : Nat) : ∀ (x1 : Int32) (x2 : Int32) (x3 : Int32) (M : mm_M), Sim sysR Y_X12_count 9 164 [(0, .ref 0), (1, .int (x1)), (2, .int (x2)), (3, .int (x3))] [] M mm_fI (f_X12_count_164 n x1 x2 x3 M) := by
  induction n with
  | zero => intros; exact sim_none
  | succ n ih =>
    intro x1 x2 x3 M
    rw [f_X12_count_164]
    refine sim_iload_n 3 d_X12_count_164 rfl rfl ?_
    refine sim_aload_n 0 d_X12_count_165 rfl rfl ?_
    refine sim_geti d_X12_count_166 fl_X12_249 ob_R_0 rfl ?_
    refine sim_icmp_ge d_X12_count_169 ?_ ?_
    ·
      refine sim_iload_n 2 d_X12_count_231 rfl rfl ?_
      exact sim_iret d_X12_count_232 rfl
    ·
      refine sim_iload_n 2 d_X12_count_172 rfl rfl ?_
      refine sim_iload_n 1 d_X12_count_173 rfl rfl ?_
      refine sim_bipush (6 : Int32) d_X12_count_174 rfl ?_
      refine sim_icmp_ne d_X12_count_176 ?_ ?_
      ·
        refine sim_aload_n 0 d_X12_count_191 rfl rfl ?_
        refine sim_geta d_X12_count_192 fl_X12_116 ob_R_0 rfl ?_
        refine sim_iload_n 3 d_X12_count_195 rfl rfl ?_
        refine sim_zald d_X12_count_196 ar_R_36 ?_
        refine sim_if_eq d_X12_count_197 ?_ ?_
        ·
          exact sim_sub [0, 1, 3] rfl (s_X12_count_222 (f_X12_count_164 n) ih x1 x3 x2 M)
        ·
          refine sim_iload_n 1 d_X12_count_200 rfl rfl ?_
          refine sim_bipush (7 : Int32) d_X12_count_201 rfl ?_
          refine sim_icmp_eq d_X12_count_203 ?_ ?_
          ·
            exact sim_sub [0, 1, 3] rfl (s_X12_count_218 (f_X12_count_164 n) ih x1 x3 x2 M)
          ·
            refine sim_aload_n 0 d_X12_count_206 rfl rfl ?_
            refine sim_geta d_X12_count_207 fl_X12_104 ob_R_0 rfl ?_
            refine sim_iload_n 3 d_X12_count_210 rfl rfl ?_
            refine sim_iald d_X12_count_211 ar_R_32 ?_
            refine sim_iconst (4 : Int32) d_X12_count_212 rfl ?_
            refine sim_idivc d_X12_count_213 (by decide) ?_
            refine sim_iconst (1 : Int32) d_X12_count_214 rfl ?_
            refine sim_icmp_ne d_X12_count_215 ?_ ?_
            ·
              exact sim_sub [0, 1, 3] rfl (s_X12_count_222 (f_X12_count_164 n) ih x1 x3 x2 M)
            ·
              exact sim_sub [0, 1, 3] rfl (s_X12_count_218 (f_X12_count_164 n) ih x1 x3 x2 M)
      ·
        refine sim_aload_n 0 d_X12_count_179 rfl rfl ?_
        refine sim_geta d_X12_count_180 fl_X12_110 ob_R_0 rfl ?_
        refine sim_iload_n 3 d_X12_count_183 rfl rfl ?_
        refine sim_iald d_X12_count_184 ar_R_34 ?_
        refine sim_if_lt d_X12_count_185 ?_ ?_
        ·
          exact sim_sub [0, 1, 3] rfl (s_X12_count_222 (f_X12_count_164 n) ih x1 x3 x2 M)
        ·
          refine sim_goto d_X12_count_188 ?_
          exact sim_sub [0, 1, 3] rfl (s_X12_count_218 (f_X12_count_164 n) ih x1 x3 x2 M)
def f_X12_count_134 (k113 : Int32 → Int32 → mm_M → Option (Int32 × mm_M)) (x3 : Int32) (t0 : Int32) (t1 : Int32) (M : mm_M) : Option (Int32 × mm_M) :=
  mm_let (t0 + t1) (fun v1 =>
  k113 v1 (x3 + (1 : Int32)) M)
theorem s_X12_count_134 (k113 : Int32 → Int32 → mm_M → Option (Int32 × mm_M)) (hk113 : ∀ (x2 : Int32) (x3 : Int32) (M : mm_M), Sim sysR Y_X12_count 9 113 [(0, .ref 0), (2, .int (x2)), (3, .int (x3))] [] M mm_fI (k113 x2 x3 M)) (x3 : Int32) (t0 : Int32) (t1 : Int32) (M : mm_M) : Sim sysR Y_X12_count 9 134 [(0, .ref 0), (3, .int (x3))] [.int (t1), .int (t0)] M mm_fI (f_X12_count_134 k113 x3 t0 t1 M) := by
  unfold f_X12_count_134
  refine sim_iadd d_X12_count_134 ?_
  refine sim_nmi (fun v1 => ?_)
  refine sim_istore_n (L' := [(0, .ref 0), (3, .int (x3)), (2, .int (v1))]) d_X12_count_135 rfl (Nat.le_of_ble_eq_true rfl) rfl ?_
  refine sim_iinc (v := x3 + (1 : Int32)) (L' := [(0, .ref 0), (2, .int (v1)), (3, .int (x3 + (1 : Int32)))]) 1 d_X12_count_136 (Nat.le_of_ble_eq_true rfl) rfl rfl rfl ?_
  refine sim_goto d_X12_count_139 ?_
  exact sim_sub [0, 1, 2] rfl (hk113 v1 (x3 + (1 : Int32)) M)
def f_X12_count_113 : Nat → Int32 → Int32 → mm_M → Option (Int32 × mm_M)
  | 0, _, _, _ => none
  | n + 1, x2, x3, M =>
  if (8 : Int32) ≤ x3 then
    some (x2, M)
  else
    mm_ck x3 8 (
    if (mI M 9 x3.toNatClampNeg) = 0 then
      f_X12_count_134 (f_X12_count_113 n) x3 x2 (0 : Int32) M
    else
      f_X12_count_134 (f_X12_count_113 n) x3 x2 (1 : Int32) M)
theorem s_X12_count_113 (n : Nat) : ∀ (x2 : Int32) (x3 : Int32) (M : mm_M), Sim sysR Y_X12_count 9 113 [(0, .ref 0), (2, .int (x2)), (3, .int (x3))] [] M mm_fI (f_X12_count_113 n x2 x3 M) := by
  induction n with
  | zero => intros; exact sim_none
  | succ n ih =>
    intro x2 x3 M
    rw [f_X12_count_113]
    refine sim_iload_n 2 d_X12_count_113 rfl rfl ?_
    refine sim_bipush (8 : Int32) d_X12_count_114 rfl ?_
    refine sim_icmp_ge d_X12_count_116 ?_ ?_
    ·
      refine sim_iload_n 1 d_X12_count_142 rfl rfl ?_
      exact sim_iret d_X12_count_143 rfl
    ·
      refine sim_iload_n 1 d_X12_count_119 rfl rfl ?_
      refine sim_aload_n 0 d_X12_count_120 rfl rfl ?_
      refine sim_geta d_X12_count_121 fl_X12_35 ob_R_0 rfl ?_
      refine sim_iload_n 2 d_X12_count_124 rfl rfl ?_
      refine sim_zald d_X12_count_125 ar_R_9 ?_
      refine sim_if_eq d_X12_count_126 ?_ ?_
      ·
        refine sim_iconst (0 : Int32) d_X12_count_133 rfl ?_
        exact sim_sub [0, 2] rfl (s_X12_count_134 (f_X12_count_113 n) ih x3 x2 (0 : Int32) M)
      ·
        refine sim_iconst (1 : Int32) d_X12_count_129 rfl ?_
        refine sim_goto d_X12_count_130 ?_
        exact sim_sub [0, 2] rfl (s_X12_count_134 (f_X12_count_113 n) ih x3 x2 (1 : Int32) M)
def f_X12_count (a1 : Int32) (M : mm_M) : Option (Int32 × mm_M) :=
  mm_let (sI M 0 0 (0 : Int32)) (fun M1 =>
  mm_case a1 [0, 1, 2, 3, 4, 5, 6, 7, 8, 9, 10, 17] [
    some (mI M1 0 1, M1),
    some (mI M1 0 2, M1),
    mm_bi (f_X12_openMany M1) (fun r1 M2 =>
    some (r1, M2)),
    f_X12_count_113 mm_fu (0 : Int32) (0 : Int32) M1,
    some (mI M1 0 28, M1),
    some (mI M1 0 43, M1),
    mm_bv (f_X12_weigh (mI M1 0 1) M1) (fun M3 =>
    f_X12_count_164 mm_fu a1 (0 : Int32) (0 : Int32) M3),
    mm_bv (f_X12_weigh (mI M1 0 1) M1) (fun M4 =>
    f_X12_count_164 mm_fu a1 (0 : Int32) (0 : Int32) M4),
    mm_bv (f_X12_weigh (mI M1 0 1) M1) (fun M5 =>
    f_X12_count_164 mm_fu a1 (0 : Int32) (0 : Int32) M5),
    f_X12_count_235 mm_fu a1 (0 : Int32) (0 : Int32) M1,
    f_X12_count_235 mm_fu a1 (0 : Int32) (0 : Int32) M1,
    some (mI M1 0 27, M1)]
  (
    mm_bi (f_X12_in a1 (11 : Int32) (16 : Int32) M1) (fun r2 M6 =>
    if r2 = 0 then
      some ((-9 : Int32), M6)
    else
      mm_ck (a1 - (10 : Int32)) 7 (
      some (mI M6 14 (a1 - (10 : Int32)).toNatClampNeg, M6)))))
theorem s_X12_count (a1 : Int32) (M : mm_M) : Sim sysR Y_X12_count 9 0 [(0, .ref 0), (1, .int (a1))] [] M mm_fI (f_X12_count a1 M) := by
  unfold f_X12_count
  refine sim_aload_n 0 d_X12_count_0 rfl rfl ?_
  refine sim_iconst (0 : Int32) d_X12_count_1 rfl ?_
  refine sim_puti d_X12_count_2 fl_X12_177 ob_R_0 rfl ?_
  refine sim_nmM (fun M1 => ?_)
  refine sim_iconst (0 : Int32) d_X12_count_5 rfl ?_
  refine sim_istore_n (L' := [(0, .ref 0), (1, .int (a1)), (2, .int ((0 : Int32)))]) d_X12_count_6 rfl (Nat.le_of_ble_eq_true rfl) rfl ?_
  refine sim_iload_n 1 d_X12_count_7 rfl rfl ?_
  refine sim_tsw (td := 289) [96, 101, 106, 111, 144, 149, 154, 154, 154, 233, 233, 284] d_X12_count_8 (by decide +kernel) ⟨?_, ?_, ?_, ?_, ?_, ?_, ?_, ?_, ?_, ?_, ?_, ?_, trivial⟩ ?_
  ·
    refine sim_aload_n 0 d_X12_count_96 rfl rfl ?_
    refine sim_geti d_X12_count_97 fl_X12_191 ob_R_0 rfl ?_
    exact sim_iret d_X12_count_100 rfl
  ·
    refine sim_aload_n 0 d_X12_count_101 rfl rfl ?_
    refine sim_geti d_X12_count_102 fl_X12_180 ob_R_0 rfl ?_
    exact sim_iret d_X12_count_105 rfl
  ·
    refine sim_aload_n 0 d_X12_count_106 rfl rfl ?_
    refine sim_callVi Y_X12_openMany 0 [] [] d_X12_count_107 lk_X12_214 cv_X12_openMany ob_R_0 rfl (by omega) (Nat.le_of_ble_eq_true rfl) (ct_X12_openMany M1) (fun r1 M2 => ?_)
    exact sim_iret d_X12_count_110 rfl
  ·
    refine sim_iconst (0 : Int32) d_X12_count_111 rfl ?_
    refine sim_istore_n (L' := [(0, .ref 0), (1, .int (a1)), (2, .int ((0 : Int32))), (3, .int ((0 : Int32)))]) d_X12_count_112 rfl (Nat.le_of_ble_eq_true rfl) rfl ?_
    exact sim_sub [0, 2, 3] rfl (s_X12_count_113 mm_fu (0 : Int32) (0 : Int32) M1)
  ·
    refine sim_aload_n 0 d_X12_count_144 rfl rfl ?_
    refine sim_geti d_X12_count_145 fl_X12_313 ob_R_0 rfl ?_
    exact sim_iret d_X12_count_148 rfl
  ·
    refine sim_aload_n 0 d_X12_count_149 rfl rfl ?_
    refine sim_geti d_X12_count_150 fl_X12_249 ob_R_0 rfl ?_
    exact sim_iret d_X12_count_153 rfl
  ·
    refine sim_aload_n 0 d_X12_count_154 rfl rfl ?_
    refine sim_aload_n 0 d_X12_count_155 rfl rfl ?_
    refine sim_geti d_X12_count_156 fl_X12_191 ob_R_0 rfl ?_
    refine sim_callVv Y_X12_weigh 8 [.int (mI M1 0 1)] [] d_X12_count_159 lk_X12_246 cv_X12_weigh ob_R_0 rfl (by omega) (Nat.le_of_ble_eq_true rfl) (ct_X12_weigh (mI M1 0 1) M1) (fun M3 => ?_)
    refine sim_iconst (0 : Int32) d_X12_count_162 rfl ?_
    refine sim_istore_n (L' := [(0, .ref 0), (1, .int (a1)), (2, .int ((0 : Int32))), (3, .int ((0 : Int32)))]) d_X12_count_163 rfl (Nat.le_of_ble_eq_true rfl) rfl ?_
    exact sim_sub [0, 1, 2, 3] rfl (s_X12_count_164 mm_fu a1 (0 : Int32) (0 : Int32) M3)
  ·
    refine sim_aload_n 0 d_X12_count_154 rfl rfl ?_
    refine sim_aload_n 0 d_X12_count_155 rfl rfl ?_
    refine sim_geti d_X12_count_156 fl_X12_191 ob_R_0 rfl ?_
    refine sim_callVv Y_X12_weigh 8 [.int (mI M1 0 1)] [] d_X12_count_159 lk_X12_246 cv_X12_weigh ob_R_0 rfl (by omega) (Nat.le_of_ble_eq_true rfl) (ct_X12_weigh (mI M1 0 1) M1) (fun M4 => ?_)
    refine sim_iconst (0 : Int32) d_X12_count_162 rfl ?_
    refine sim_istore_n (L' := [(0, .ref 0), (1, .int (a1)), (2, .int ((0 : Int32))), (3, .int ((0 : Int32)))]) d_X12_count_163 rfl (Nat.le_of_ble_eq_true rfl) rfl ?_
    exact sim_sub [0, 1, 2, 3] rfl (s_X12_count_164 mm_fu a1 (0 : Int32) (0 : Int32) M4)
  ·
    refine sim_aload_n 0 d_X12_count_154 rfl rfl ?_
    refine sim_aload_n 0 d_X12_count_155 rfl rfl ?_
    refine sim_geti d_X12_count_156 fl_X12_191 ob_R_0 rfl ?_
    refine sim_callVv Y_X12_weigh 8 [.int (mI M1 0 1)] [] d_X12_count_159 lk_X12_246 cv_X12_weigh ob_R_0 rfl (by omega) (Nat.le_of_ble_eq_true rfl) (ct_X12_weigh (mI M1 0 1) M1) (fun M5 => ?_)
    refine sim_iconst (0 : Int32) d_X12_count_162 rfl ?_
    refine sim_istore_n (L' := [(0, .ref 0), (1, .int (a1)), (2, .int ((0 : Int32))), (3, .int ((0 : Int32)))]) d_X12_count_163 rfl (Nat.le_of_ble_eq_true rfl) rfl ?_
    exact sim_sub [0, 1, 2, 3] rfl (s_X12_count_164 mm_fu a1 (0 : Int32) (0 : Int32) M5)
  ·
    refine sim_iconst (0 : Int32) d_X12_count_233 rfl ?_
    refine sim_istore_n (L' := [(0, .ref 0), (1, .int (a1)), (2, .int ((0 : Int32))), (3, .int ((0 : Int32)))]) d_X12_count_234 rfl (Nat.le_of_ble_eq_true rfl) rfl ?_
    exact sim_sub [0, 1, 2, 3] rfl (s_X12_count_235 mm_fu a1 (0 : Int32) (0 : Int32) M1)
  ·
    refine sim_iconst (0 : Int32) d_X12_count_233 rfl ?_
    refine sim_istore_n (L' := [(0, .ref 0), (1, .int (a1)), (2, .int ((0 : Int32))), (3, .int ((0 : Int32)))]) d_X12_count_234 rfl (Nat.le_of_ble_eq_true rfl) rfl ?_
    exact sim_sub [0, 1, 2, 3] rfl (s_X12_count_235 mm_fu a1 (0 : Int32) (0 : Int32) M1)
  ·
    refine sim_aload_n 0 d_X12_count_284 rfl rfl ?_
    refine sim_geti d_X12_count_285 fl_X12_255 ob_R_0 rfl ?_
    exact sim_iret d_X12_count_288 rfl
  ·
    refine sim_iload_n 1 d_X12_count_289 rfl rfl ?_
    refine sim_bipush (11 : Int32) d_X12_count_290 rfl ?_
    refine sim_bipush (16 : Int32) d_X12_count_292 rfl ?_
    refine sim_callSi Y_X12_in 0 [.int (a1), .int ((11 : Int32)), .int ((16 : Int32))] [] d_X12_count_294 lk_X12_183 cs_X12_in rfl (by omega) (Nat.le_of_ble_eq_true rfl) (ct_X12_in a1 (11 : Int32) (16 : Int32) M1) (fun r2 M6 => ?_)
    refine sim_if_eq d_X12_count_297 ?_ ?_
    ·
      refine sim_bipush (-9 : Int32) d_X12_count_312 rfl ?_
      exact sim_iret d_X12_count_314 rfl
    ·
      refine sim_aload_n 0 d_X12_count_300 rfl rfl ?_
      refine sim_geta d_X12_count_301 fl_X12_50 ob_R_0 rfl ?_
      refine sim_iload_n 1 d_X12_count_304 rfl rfl ?_
      refine sim_bipush (10 : Int32) d_X12_count_305 rfl ?_
      refine sim_isub d_X12_count_307 ?_
      refine sim_iald d_X12_count_308 ar_R_14 ?_
      refine sim_goto d_X12_count_309 ?_
      exact sim_iret d_X12_count_314 rfl
theorem ct_X12_count (a1 : Int32) (M : mm_M) : Ct sysR Y_X12_count 9 [.ref 0, .int (a1)] M mm_fI (f_X12_count a1 M) :=
  ct_of_sim (by decide) rfl (Nat.le_of_ble_eq_true rfl) (s_X12_count a1 M)

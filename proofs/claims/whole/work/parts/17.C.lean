def f_X11_step_46 (M : mm_M) : Option (Int32 × mm_M) :=
  mm_bi (f_X11_refuse (-6 : Int32) M) (fun r1 M1 =>
  some (r1, M1))
theorem s_X11_step_46 (M : mm_M) : Sim sysC Y_X11_step 5 46 [(0, .ref 0)] [] M mm_fI (f_X11_step_46 M) := by
  unfold f_X11_step_46
  refine sim_aload_n 0 d_X11_step_46 rfl rfl ?_
  refine sim_bipush (-6 : Int32) d_X11_step_47 rfl ?_
  refine sim_callVi Y_X11_refuse 0 [.int ((-6 : Int32))] [] d_X11_step_49 lk_X11_108 cv_X11_refuse ob_C_0 rfl (by omega) (Nat.le_of_ble_eq_true rfl) (ct_X11_refuse (-6 : Int32) M) (fun r1 M1 => ?_)
  exact sim_iret d_X11_step_52 rfl
def f_X11_step_25 (M : mm_M) : Option (Int32 × mm_M) :=
  mm_bi (f_X11_refuse (-4 : Int32) M) (fun r1 M1 =>
  some (r1, M1))
theorem s_X11_step_25 (M : mm_M) : Sim sysC Y_X11_step 5 25 [(0, .ref 0)] [] M mm_fI (f_X11_step_25 M) := by
  unfold f_X11_step_25
  refine sim_aload_n 0 d_X11_step_25 rfl rfl ?_
  refine sim_bipush (-4 : Int32) d_X11_step_26 rfl ?_
  refine sim_callVi Y_X11_refuse 0 [.int ((-4 : Int32))] [] d_X11_step_28 lk_X11_108 cv_X11_refuse ob_C_0 rfl (by omega) (Nat.le_of_ble_eq_true rfl) (ct_X11_refuse (-4 : Int32) M) (fun r1 M1 => ?_)
  exact sim_iret d_X11_step_31 rfl
def f_X11_step (a1 : Int32) (a2 : Int32) (a3 : Int32) (M : mm_M) : Option (Int32 × mm_M) :=
  mm_bi (f_X6_has a1 M) (fun r1 M1 =>
  if r1 = 0 then
    mm_bi (f_X11_refuse (-1 : Int32) M1) (fun r6 M7 =>
    some (r6, M7))
  else
    if a2 < 0 then
      f_X11_step_25 M1
    else
      if 0 ≤ a3 then
        if (2000 : Int32) < a2 then
          f_X11_step_46 M1
        else
          if a3 ≤ (2000 : Int32) then
            mm_bi (f_X6_ownerOn a1 a2 M1) (fun r2 M2 =>
            if 0 ≤ r2 then
              mm_bi (f_X9_until a2 M2) (fun r3 M3 =>
              mm_bv (f_X10_weigh a3 r3 M3) (fun M4 =>
              mm_bi (f_X10_stepOf a1 a2 M4) (fun r4 M5 =>
              some (r4, M5))))
            else
              mm_bi (f_X11_refuse (-3 : Int32) M2) (fun r5 M6 =>
              some (r5, M6)))
          else
            f_X11_step_46 M1
      else
        f_X11_step_25 M1)
theorem s_X11_step (a1 : Int32) (a2 : Int32) (a3 : Int32) (M : mm_M) : Sim sysC Y_X11_step 5 0 [(0, .ref 0), (1, .int (a1)), (2, .int (a2)), (3, .int (a3))] [] M mm_fI (f_X11_step a1 a2 a3 M) := by
  unfold f_X11_step
  refine sim_aload_n 0 d_X11_step_0 rfl rfl ?_
  refine sim_geta d_X11_step_1 fl_X11_20 ob_C_0 rfl ?_
  refine sim_iload_n 1 d_X11_step_4 rfl rfl ?_
  refine sim_callVi Y_X6_has 0 [.int (a1)] [] d_X11_step_5 lk_X11_128 cv_X6_has ob_C_2 rfl (by omega) (Nat.le_of_ble_eq_true rfl) (ct_X6_has a1 M) (fun r1 M1 => ?_)
  refine sim_if_ne d_X11_step_8 ?_ ?_
  ·
    refine sim_iload_n 2 d_X11_step_17 rfl rfl ?_
    refine sim_if_lt d_X11_step_18 ?_ ?_
    ·
      exact sim_sub [0] rfl (s_X11_step_25 M1)
    ·
      refine sim_iload_n 3 d_X11_step_21 rfl rfl ?_
      refine sim_if_ge d_X11_step_22 ?_ ?_
      ·
        refine sim_iload_n 2 d_X11_step_32 rfl rfl ?_
        refine sim_sipush (2000 : Int32) d_X11_step_33 rfl ?_
        refine sim_icmp_gt d_X11_step_36 ?_ ?_
        ·
          exact sim_sub [0] rfl (s_X11_step_46 M1)
        ·
          refine sim_iload_n 3 d_X11_step_39 rfl rfl ?_
          refine sim_sipush (2000 : Int32) d_X11_step_40 rfl ?_
          refine sim_icmp_le d_X11_step_43 ?_ ?_
          ·
            refine sim_aload_n 0 d_X11_step_53 rfl rfl ?_
            refine sim_geta d_X11_step_54 fl_X11_20 ob_C_0 rfl ?_
            refine sim_iload_n 1 d_X11_step_57 rfl rfl ?_
            refine sim_iload_n 2 d_X11_step_58 rfl rfl ?_
            refine sim_callVi Y_X6_ownerOn 1 [.int (a1), .int (a2)] [] d_X11_step_59 lk_X11_294 cv_X6_ownerOn ob_C_2 rfl (by omega) (Nat.le_of_ble_eq_true rfl) (ct_X6_ownerOn a1 a2 M1) (fun r2 M2 => ?_)
            refine sim_if_ge d_X11_step_62 ?_ ?_
            ·
              refine sim_aload_n 0 d_X11_step_72 rfl rfl ?_
              refine sim_geta d_X11_step_73 fl_X11_10 ob_C_0 rfl ?_
              refine sim_iload_n 3 d_X11_step_76 rfl rfl ?_
              refine sim_aload_n 0 d_X11_step_77 rfl rfl ?_
              refine sim_geta d_X11_step_78 fl_X11_30 ob_C_0 rfl ?_
              refine sim_iload_n 2 d_X11_step_81 rfl rfl ?_
              refine sim_callVi Y_X9_until 0 [.int (a2)] [.int (a3), .ref 1] d_X11_step_82 lk_X11_297 cv_X9_until ob_C_4 rfl (by omega) (Nat.le_of_ble_eq_true rfl) (ct_X9_until a2 M2) (fun r3 M3 => ?_)
              refine sim_callVv Y_X10_weigh 4 [.int (a3), .int (r3)] [] d_X11_step_85 lk_X11_274 cv_X10_weigh ob_C_1 rfl (by omega) (Nat.le_of_ble_eq_true rfl) (ct_X10_weigh a3 r3 M3) (fun M4 => ?_)
              refine sim_aload_n 0 d_X11_step_88 rfl rfl ?_
              refine sim_geta d_X11_step_89 fl_X11_10 ob_C_0 rfl ?_
              refine sim_iload_n 1 d_X11_step_92 rfl rfl ?_
              refine sim_iload_n 2 d_X11_step_93 rfl rfl ?_
              refine sim_callVi Y_X10_stepOf 2 [.int (a1), .int (a2)] [] d_X11_step_94 lk_X11_300 cv_X10_stepOf ob_C_1 rfl (by omega) (Nat.le_of_ble_eq_true rfl) (ct_X10_stepOf a1 a2 M4) (fun r4 M5 => ?_)
              exact sim_iret d_X11_step_97 rfl
            ·
              refine sim_aload_n 0 d_X11_step_65 rfl rfl ?_
              refine sim_bipush (-3 : Int32) d_X11_step_66 rfl ?_
              refine sim_callVi Y_X11_refuse 0 [.int ((-3 : Int32))] [] d_X11_step_68 lk_X11_108 cv_X11_refuse ob_C_0 rfl (by omega) (Nat.le_of_ble_eq_true rfl) (ct_X11_refuse (-3 : Int32) M2) (fun r5 M6 => ?_)
              exact sim_iret d_X11_step_71 rfl
          ·
            exact sim_sub [0] rfl (s_X11_step_46 M1)
      ·
        exact sim_sub [0] rfl (s_X11_step_25 M1)
  ·
    refine sim_aload_n 0 d_X11_step_11 rfl rfl ?_
    refine sim_iconst (-1 : Int32) d_X11_step_12 rfl ?_
    refine sim_callVi Y_X11_refuse 0 [.int ((-1 : Int32))] [] d_X11_step_13 lk_X11_108 cv_X11_refuse ob_C_0 rfl (by omega) (Nat.le_of_ble_eq_true rfl) (ct_X11_refuse (-1 : Int32) M1) (fun r6 M7 => ?_)
    exact sim_iret d_X11_step_16 rfl
theorem ct_X11_step (a1 : Int32) (a2 : Int32) (a3 : Int32) (M : mm_M) : Ct sysC Y_X11_step 5 [.ref 0, .int (a1), .int (a2), .int (a3)] M mm_fI (f_X11_step a1 a2 a3 M) :=
  ct_of_sim (by decide) rfl (Nat.le_of_ble_eq_true rfl) (s_X11_step a1 a2 a3 M)
def f_X11_lost_64 (k22 : Int32 → Int32 → mm_M → Option (Int32 × mm_M)) (x1 : Int32) (x2 : Int32) (M : mm_M) : Option (Int32 × mm_M) :=
  k22 x1 (x2 + (1 : Int32)) M
theorem s_X11_lost_64 (k22 : Int32 → Int32 → mm_M → Option (Int32 × mm_M)) (hk22 : ∀ (x1 : Int32) (x2 : Int32) (M : mm_M), Sim sysC Y_X11_lost 5 22 [(0, .ref 0), (1, .int (x1)), (2, .int (x2))] [] M mm_fI (k22 x1 x2 M)) (x1 : Int32) (x2 : Int32) (M : mm_M) : Sim sysC Y_X11_lost 5 64 [(0, .ref 0), (1, .int (x1)), (2, .int (x2))] [] M mm_fI (f_X11_lost_64 k22 x1 x2 M) := by
  unfold f_X11_lost_64
  refine sim_iinc (v := x2 + (1 : Int32)) (L' := [(0, .ref 0), (1, .int (x1)), (2, .int (x2 + (1 : Int32)))]) 2 d_X11_lost_64 (Nat.le_of_ble_eq_true rfl) rfl rfl rfl ?_
  refine sim_goto d_X11_lost_67 ?_
  exact sim_sub [0, 1, 2] rfl (hk22 x1 (x2 + (1 : Int32)) M)
def f_X11_lost_22 : Nat → Int32 → Int32 → mm_M → Option (Int32 × mm_M)
  | 0, _, _, _ => none
  | n + 1, x1, x2, M =>
  if (mI M 2 8) ≤ x2 then
    some (x1, M)
  else
    mm_ck x2 40 (
    if (mI M 31 x2.toNatClampNeg) = 0 then
      f_X11_lost_64 (f_X11_lost_22 n) x1 x2 M
    else
      mm_bi (f_X10_stepOf x2 (mI M 0 16) M) (fun r1 M1 =>
      if r1 = (4 : Int32) then
        f_X11_lost_64 (f_X11_lost_22 n) (x1 + (1 : Int32)) x2 M1
      else
        f_X11_lost_64 (f_X11_lost_22 n) x1 x2 M1))
theorem s_X11_lost_22 (n : Nat) : ∀ (x1 : Int32) (x2 : Int32) (M : mm_M), Sim sysC Y_X11_lost 5 22 [(0, .ref 0), (1, .int (x1)), (2, .int (x2))] [] M mm_fI (f_X11_lost_22 n x1 x2 M) := by
  induction n with
  | zero => intros; exact sim_none
  | succ n ih =>
    intro x1 x2 M
    rw [f_X11_lost_22]
    refine sim_iload_n 2 d_X11_lost_22 rfl rfl ?_
    refine sim_aload_n 0 d_X11_lost_23 rfl rfl ?_
    refine sim_geta d_X11_lost_24 fl_X11_20 ob_C_0 rfl ?_
    refine sim_geti d_X11_lost_27 fl_X11_119 ob_C_2 rfl ?_
    refine sim_icmp_ge d_X11_lost_30 ?_ ?_
    ·
      refine sim_iload_n 1 d_X11_lost_70 rfl rfl ?_
      exact sim_iret d_X11_lost_71 rfl
    ·
      refine sim_aload_n 0 d_X11_lost_33 rfl rfl ?_
      refine sim_geta d_X11_lost_34 fl_X11_20 ob_C_0 rfl ?_
      refine sim_geta d_X11_lost_37 fl_X11_138 ob_C_2 rfl ?_
      refine sim_iload_n 2 d_X11_lost_40 rfl rfl ?_
      refine sim_zald d_X11_lost_41 ar_C_31 ?_
      refine sim_if_eq d_X11_lost_42 ?_ ?_
      ·
        exact sim_sub [0, 1, 2] rfl (s_X11_lost_64 (f_X11_lost_22 n) ih x1 x2 M)
      ·
        refine sim_aload_n 0 d_X11_lost_45 rfl rfl ?_
        refine sim_geta d_X11_lost_46 fl_X11_10 ob_C_0 rfl ?_
        refine sim_iload_n 2 d_X11_lost_49 rfl rfl ?_
        refine sim_aload_n 0 d_X11_lost_50 rfl rfl ?_
        refine sim_geti d_X11_lost_51 fl_X11_102 ob_C_0 rfl ?_
        refine sim_callVi Y_X10_stepOf 2 [.int (x2), .int (mI M 0 16)] [] d_X11_lost_54 lk_X11_300 cv_X10_stepOf ob_C_1 rfl (by omega) (Nat.le_of_ble_eq_true rfl) (ct_X10_stepOf x2 (mI M 0 16) M) (fun r1 M1 => ?_)
        refine sim_iconst (4 : Int32) d_X11_lost_57 rfl ?_
        refine sim_icmp_ne d_X11_lost_58 ?_ ?_
        ·
          exact sim_sub [0, 1, 2] rfl (s_X11_lost_64 (f_X11_lost_22 n) ih x1 x2 M1)
        ·
          refine sim_iinc (v := x1 + (1 : Int32)) (L' := [(0, .ref 0), (2, .int (x2)), (1, .int (x1 + (1 : Int32)))]) 1 d_X11_lost_61 (Nat.le_of_ble_eq_true rfl) rfl rfl rfl ?_
          exact sim_sub [0, 2, 1] rfl (s_X11_lost_64 (f_X11_lost_22 n) ih (x1 + (1 : Int32)) x2 M1)
def f_X11_lost (M : mm_M) : Option (Int32 × mm_M) :=
  mm_bv (f_X10_weigh (mI M 0 16) (mI M 4 7) M) (fun M1 =>
  f_X11_lost_22 mm_fu (0 : Int32) (0 : Int32) M1)
theorem s_X11_lost (M : mm_M) : Sim sysC Y_X11_lost 5 0 [(0, .ref 0)] [] M mm_fI (f_X11_lost M) := by
  unfold f_X11_lost
  refine sim_aload_n 0 d_X11_lost_0 rfl rfl ?_
  refine sim_geta d_X11_lost_1 fl_X11_10 ob_C_0 rfl ?_
  refine sim_aload_n 0 d_X11_lost_4 rfl rfl ?_
  refine sim_geti d_X11_lost_5 fl_X11_102 ob_C_0 rfl ?_
  refine sim_aload_n 0 d_X11_lost_8 rfl rfl ?_
  refine sim_geta d_X11_lost_9 fl_X11_30 ob_C_0 rfl ?_
  refine sim_geti d_X11_lost_12 fl_X11_258 ob_C_4 rfl ?_
  refine sim_callVv Y_X10_weigh 4 [.int (mI M 0 16), .int (mI M 4 7)] [] d_X11_lost_15 lk_X11_274 cv_X10_weigh ob_C_1 rfl (by omega) (Nat.le_of_ble_eq_true rfl) (ct_X10_weigh (mI M 0 16) (mI M 4 7) M) (fun M1 => ?_)
  refine sim_iconst (0 : Int32) d_X11_lost_18 rfl ?_
  refine sim_istore_n (L' := [(0, .ref 0), (1, .int ((0 : Int32)))]) d_X11_lost_19 rfl (Nat.le_of_ble_eq_true rfl) rfl ?_
  refine sim_iconst (0 : Int32) d_X11_lost_20 rfl ?_
  refine sim_istore_n (L' := [(0, .ref 0), (1, .int ((0 : Int32))), (2, .int ((0 : Int32)))]) d_X11_lost_21 rfl (Nat.le_of_ble_eq_true rfl) rfl ?_
  exact sim_sub [0, 1, 2] rfl (s_X11_lost_22 mm_fu (0 : Int32) (0 : Int32) M1)
theorem ct_X11_lost (M : mm_M) : Ct sysC Y_X11_lost 5 [.ref 0] M mm_fI (f_X11_lost M) :=
  ct_of_sim (by decide) rfl (Nat.le_of_ble_eq_true rfl) (s_X11_lost M)
def f_X11_leave (a1 : Int32) (M : mm_M) : Option (Int32 × mm_M) :=
  mm_bi (f_X11_outside a1 (0 : Int32) (2000 : Int32) M) (fun r1 M1 =>
  if r1 = 0 then
    mm_let (mI M1 0 17) (fun v1 =>
    mm_let (sI M1 0 17 a1) (fun M2 =>
    some (v1, M2)))
  else
    mm_bi (f_X11_refuse r1 M1) (fun r2 M3 =>
    some (r2, M3)))
theorem s_X11_leave (a1 : Int32) (M : mm_M) : Sim sysC Y_X11_leave 1 0 [(0, .ref 0), (1, .int (a1))] [] M mm_fI (f_X11_leave a1 M) := by
  unfold f_X11_leave
  refine sim_iload_n 1 d_X11_leave_0 rfl rfl ?_
  refine sim_iconst (0 : Int32) d_X11_leave_1 rfl ?_
  refine sim_sipush (2000 : Int32) d_X11_leave_2 rfl ?_
  refine sim_callSi Y_X11_outside 0 [.int (a1), .int ((0 : Int32)), .int ((2000 : Int32))] [] d_X11_leave_5 lk_X11_131 cs_X11_outside rfl (by omega) (Nat.le_of_ble_eq_true rfl) (ct_X11_outside a1 (0 : Int32) (2000 : Int32) M) (fun r1 M1 => ?_)
  refine sim_istore_n (L' := [(0, .ref 0), (1, .int (a1)), (2, .int (r1))]) d_X11_leave_8 rfl (Nat.le_of_ble_eq_true rfl) rfl ?_
  refine sim_iload_n 2 d_X11_leave_9 rfl rfl ?_
  refine sim_if_eq d_X11_leave_10 ?_ ?_
  ·
    refine sim_aload_n 0 d_X11_leave_19 rfl rfl ?_
    refine sim_geti d_X11_leave_20 fl_X11_105 ob_C_0 rfl ?_
    refine sim_nmi (fun v1 => ?_)
    refine sim_istore_n (L' := [(0, .ref 0), (1, .int (a1)), (2, .int (r1)), (3, .int (v1))]) d_X11_leave_23 rfl (Nat.le_of_ble_eq_true rfl) rfl ?_
    refine sim_aload_n 0 d_X11_leave_24 rfl rfl ?_
    refine sim_iload_n 1 d_X11_leave_25 rfl rfl ?_
    refine sim_puti d_X11_leave_26 fl_X11_105 ob_C_0 rfl ?_
    refine sim_nmM (fun M2 => ?_)
    refine sim_iload_n 3 d_X11_leave_29 rfl rfl ?_
    exact sim_iret d_X11_leave_30 rfl
  ·
    refine sim_aload_n 0 d_X11_leave_13 rfl rfl ?_
    refine sim_iload_n 2 d_X11_leave_14 rfl rfl ?_
    refine sim_callVi Y_X11_refuse 0 [.int (r1)] [] d_X11_leave_15 lk_X11_108 cv_X11_refuse ob_C_0 rfl (by omega) (Nat.le_of_ble_eq_true rfl) (ct_X11_refuse r1 M1) (fun r2 M3 => ?_)
    exact sim_iret d_X11_leave_18 rfl
theorem ct_X11_leave (a1 : Int32) (M : mm_M) : Ct sysC Y_X11_leave 1 [.ref 0, .int (a1)] M mm_fI (f_X11_leave a1 M) :=
  ct_of_sim (by decide) rfl (Nat.le_of_ble_eq_true rfl) (s_X11_leave a1 M)
def f_X9_anyOf_40 (k2 : Int32 → Int32 → Int32 → mm_M → Option (Int32 × mm_M)) (x1 : Int32) (x2 : Int32) (x3 : Int32) (M : mm_M) : Option (Int32 × mm_M) :=
  k2 x1 x2 (x3 + (1 : Int32)) M
theorem s_X9_anyOf_40 (k2 : Int32 → Int32 → Int32 → mm_M → Option (Int32 × mm_M)) (hk2 : ∀ (x1 : Int32) (x2 : Int32) (x3 : Int32) (M : mm_M), Sim sysC Y_X9_anyOf 2 2 [(0, .ref 4), (1, .int (x1)), (2, .int (x2)), (3, .int (x3))] [] M mm_fI (k2 x1 x2 x3 M)) (x1 : Int32) (x2 : Int32) (x3 : Int32) (M : mm_M) : Sim sysC Y_X9_anyOf 2 40 [(0, .ref 4), (1, .int (x1)), (2, .int (x2)), (3, .int (x3))] [] M mm_fI (f_X9_anyOf_40 k2 x1 x2 x3 M) := by
  unfold f_X9_anyOf_40
  refine sim_iinc (v := x3 + (1 : Int32)) (L' := [(0, .ref 4), (1, .int (x1)), (2, .int (x2)), (3, .int (x3 + (1 : Int32)))]) 3 d_X9_anyOf_40 (Nat.le_of_ble_eq_true rfl) rfl rfl rfl ?_
  refine sim_goto d_X9_anyOf_43 ?_
  exact sim_sub [0, 1, 2, 3] rfl (hk2 x1 x2 (x3 + (1 : Int32)) M)
def f_X9_anyOf_2 : Nat → Int32 → Int32 → Int32 → mm_M → Option (Int32 × mm_M)
  | 0, _, _, _, _ => none
  | n + 1, x1, x2, x3, M =>
  if (mI M 4 7) ≤ x3 then
    some ((0 : Int32), M)
  else
    mm_ck x3 100 (
    if (mI M 40 x3.toNatClampNeg) = x1 then
      mm_ck x3 100 (
      if (mI M 39 x3.toNatClampNeg) = x2 then
        mm_bi (f_X9_isVoided x3 M) (fun r1 M1 =>
        if r1 = 0 then
          some ((1 : Int32), M1)
        else
          f_X9_anyOf_40 (f_X9_anyOf_2 n) x1 x2 x3 M1)
      else
        f_X9_anyOf_40 (f_X9_anyOf_2 n) x1 x2 x3 M)
    else
      f_X9_anyOf_40 (f_X9_anyOf_2 n) x1 x2 x3 M)
theorem s_X9_anyOf_2 (n : Nat) : ∀ (x1 : Int32) (x2 : Int32) (x3 : Int32) (M : mm_M), Sim sysC Y_X9_anyOf 2 2 [(0, .ref 4), (1, .int (x1)), (2, .int (x2)), (3, .int (x3))] [] M mm_fI (f_X9_anyOf_2 n x1 x2 x3 M) := by
  induction n with
  | zero => intros; exact sim_none
  | succ n ih =>
    intro x1 x2 x3 M
    rw [f_X9_anyOf_2]
    refine sim_iload_n 3 d_X9_anyOf_2 rfl rfl ?_
    refine sim_aload_n 0 d_X9_anyOf_3 rfl rfl ?_
    refine sim_geti d_X9_anyOf_4 fl_X9_33 ob_C_4 rfl ?_
    refine sim_icmp_ge d_X9_anyOf_7 ?_ ?_
    ·
      refine sim_iconst (0 : Int32) d_X9_anyOf_46 rfl ?_
      exact sim_zret d_X9_anyOf_47 rfl rfl
    ·
      refine sim_aload_n 0 d_X9_anyOf_10 rfl rfl ?_
      refine sim_geta d_X9_anyOf_11 fl_X9_15 ob_C_4 rfl ?_
      refine sim_iload_n 3 d_X9_anyOf_14 rfl rfl ?_
      refine sim_iald d_X9_anyOf_15 ar_C_40 ?_
      refine sim_iload_n 1 d_X9_anyOf_16 rfl rfl ?_
      refine sim_icmp_ne d_X9_anyOf_17 ?_ ?_
      ·
        exact sim_sub [0, 1, 2, 3] rfl (s_X9_anyOf_40 (f_X9_anyOf_2 n) ih x1 x2 x3 M)
      ·
        refine sim_aload_n 0 d_X9_anyOf_20 rfl rfl ?_
        refine sim_geta d_X9_anyOf_21 fl_X9_9 ob_C_4 rfl ?_
        refine sim_iload_n 3 d_X9_anyOf_24 rfl rfl ?_
        refine sim_iald d_X9_anyOf_25 ar_C_39 ?_
        refine sim_iload_n 2 d_X9_anyOf_26 rfl rfl ?_
        refine sim_icmp_ne d_X9_anyOf_27 ?_ ?_
        ·
          exact sim_sub [0, 1, 2, 3] rfl (s_X9_anyOf_40 (f_X9_anyOf_2 n) ih x1 x2 x3 M)
        ·
          refine sim_aload_n 0 d_X9_anyOf_30 rfl rfl ?_
          refine sim_iload_n 3 d_X9_anyOf_31 rfl rfl ?_
          refine sim_callVi Y_X9_isVoided 1 [.int (x3)] [] d_X9_anyOf_32 lk_X9_41 cv_X9_isVoided ob_C_4 rfl (by omega) (Nat.le_of_ble_eq_true rfl) (ct_X9_isVoided x3 M) (fun r1 M1 => ?_)
          refine sim_if_ne d_X9_anyOf_35 ?_ ?_
          ·
            exact sim_sub [0, 1, 2, 3] rfl (s_X9_anyOf_40 (f_X9_anyOf_2 n) ih x1 x2 x3 M1)
          ·
            refine sim_iconst (1 : Int32) d_X9_anyOf_38 rfl ?_
            exact sim_zret d_X9_anyOf_39 rfl rfl
def f_X9_anyOf (a1 : Int32) (a2 : Int32) (M : mm_M) : Option (Int32 × mm_M) :=
  f_X9_anyOf_2 mm_fu a1 a2 (0 : Int32) M
theorem s_X9_anyOf (a1 : Int32) (a2 : Int32) (M : mm_M) : Sim sysC Y_X9_anyOf 2 0 [(0, .ref 4), (1, .int (a1)), (2, .int (a2))] [] M mm_fI (f_X9_anyOf a1 a2 M) := by
  unfold f_X9_anyOf
  refine sim_iconst (0 : Int32) d_X9_anyOf_0 rfl ?_
  refine sim_istore_n (L' := [(0, .ref 4), (1, .int (a1)), (2, .int (a2)), (3, .int ((0 : Int32)))]) d_X9_anyOf_1 rfl (Nat.le_of_ble_eq_true rfl) rfl ?_
  exact sim_sub [0, 1, 2, 3] rfl (s_X9_anyOf_2 mm_fu a1 a2 (0 : Int32) M)
theorem ct_X9_anyOf (a1 : Int32) (a2 : Int32) (M : mm_M) : Ct sysC Y_X9_anyOf 2 [.ref 4, .int (a1), .int (a2)] M mm_fI (f_X9_anyOf a1 a2 M) :=
  ct_of_sim (by decide) rfl (Nat.le_of_ble_eq_true rfl) (s_X9_anyOf a1 a2 M)
def f_X11_mayGo (a1 : Int32) (a2 : Int32) (M : mm_M) : Option (Int32 × mm_M) :=
  mm_bi (f_X0_isKnown a1 a2 M) (fun r1 M1 =>
  if r1 = 0 then
    mm_bi (f_X9_anyOf a1 a2 M1) (fun r2 M2 =>
    if r2 = 0 then
      some ((1 : Int32), M2)
    else
      some ((0 : Int32), M2))
  else
    some ((0 : Int32), M1))
theorem s_X11_mayGo (a1 : Int32) (a2 : Int32) (M : mm_M) : Sim sysC Y_X11_mayGo 3 0 [(0, .ref 0), (1, .int (a1)), (2, .int (a2))] [] M mm_fI (f_X11_mayGo a1 a2 M) := by
  unfold f_X11_mayGo
  refine sim_aload_n 0 d_X11_mayGo_0 rfl rfl ?_
  refine sim_geta d_X11_mayGo_1 fl_X11_25 ob_C_0 rfl ?_
  refine sim_iload_n 1 d_X11_mayGo_4 rfl rfl ?_
  refine sim_iload_n 2 d_X11_mayGo_5 rfl rfl ?_
  refine sim_callVi Y_X0_isKnown 1 [.int (a1), .int (a2)] [] d_X11_mayGo_6 lk_X11_396 cv_X0_isKnown ob_C_3 rfl (by omega) (Nat.le_of_ble_eq_true rfl) (ct_X0_isKnown a1 a2 M) (fun r1 M1 => ?_)
  refine sim_if_ne d_X11_mayGo_9 ?_ ?_
  ·
    refine sim_iconst (0 : Int32) d_X11_mayGo_28 rfl ?_
    exact sim_zret d_X11_mayGo_29 rfl rfl
  ·
    refine sim_aload_n 0 d_X11_mayGo_12 rfl rfl ?_
    refine sim_geta d_X11_mayGo_13 fl_X11_30 ob_C_0 rfl ?_
    refine sim_iload_n 1 d_X11_mayGo_16 rfl rfl ?_
    refine sim_iload_n 2 d_X11_mayGo_17 rfl rfl ?_
    refine sim_callVi Y_X9_anyOf 2 [.int (a1), .int (a2)] [] d_X11_mayGo_18 lk_X11_399 cv_X9_anyOf ob_C_4 rfl (by omega) (Nat.le_of_ble_eq_true rfl) (ct_X9_anyOf a1 a2 M1) (fun r2 M2 => ?_)
    refine sim_if_ne d_X11_mayGo_21 ?_ ?_
    ·
      refine sim_iconst (0 : Int32) d_X11_mayGo_28 rfl ?_
      exact sim_zret d_X11_mayGo_29 rfl rfl
    ·
      refine sim_iconst (1 : Int32) d_X11_mayGo_24 rfl ?_
      refine sim_goto d_X11_mayGo_25 ?_
      exact sim_zret d_X11_mayGo_29 rfl rfl
theorem ct_X11_mayGo (a1 : Int32) (a2 : Int32) (M : mm_M) : Ct sysC Y_X11_mayGo 3 [.ref 0, .int (a1), .int (a2)] M mm_fI (f_X11_mayGo a1 a2 M) :=
  ct_of_sim (by decide) rfl (Nat.le_of_ble_eq_true rfl) (s_X11_mayGo a1 a2 M)
def f_X4_addStop (a1 : Int32) (a2 : Int32) (a3 : Int32) (a4 : Int32) (a5 : Int32) (M : mm_M) : Option (mm_M) :=
  if (mI M 10 7) < (8 : Int32) then
    mm_ck (mI M 10 7) 8 (
    mm_let (sI M 61 (mI M 10 7).toNatClampNeg a1) (fun M1 =>
    mm_ck (mI M1 10 7) 9 (
    mm_let (sI M1 62 (mI M1 10 7).toNatClampNeg a2) (fun M2 =>
    mm_ck (mI M2 10 7) 9 (
    mm_let (sI M2 63 (mI M2 10 7).toNatClampNeg a3) (fun M3 =>
    mm_ck (mI M3 10 7) 8 (
    mm_let (sI M3 66 (mI M3 10 7).toNatClampNeg (a4 &&& 1)) (fun M4 =>
    mm_ck (mI M4 10 7) 8 (
    mm_let (sI M4 67 (mI M4 10 7).toNatClampNeg (a5 &&& 1)) (fun M5 =>
    mm_let (sI M5 10 7 ((mI M5 10 7) + (1 : Int32))) (fun M6 =>
    some M6)))))))))))
  else
    some M
theorem s_X4_addStop (a1 : Int32) (a2 : Int32) (a3 : Int32) (a4 : Int32) (a5 : Int32) (M : mm_M) : Sim sysC Y_X4_addStop 0 0 [(0, .ref 10), (1, .int (a1)), (2, .int (a2)), (3, .int (a3)), (4, .int (a4)), (5, .int (a5))] [] M mm_fV (f_X4_addStop a1 a2 a3 a4 a5 M) := by
  unfold f_X4_addStop
  refine sim_aload_n 0 d_X4_addStop_0 rfl rfl ?_
  refine sim_geti d_X4_addStop_1 fl_X4_34 ob_C_10 rfl ?_
  refine sim_bipush (8 : Int32) d_X4_addStop_4 rfl ?_
  refine sim_icmp_lt d_X4_addStop_6 ?_ ?_
  ·
    refine sim_aload_n 0 d_X4_addStop_10 rfl rfl ?_
    refine sim_geta d_X4_addStop_11 fl_X4_11 ob_C_10 rfl ?_
    refine sim_aload_n 0 d_X4_addStop_14 rfl rfl ?_
    refine sim_geti d_X4_addStop_15 fl_X4_34 ob_C_10 rfl ?_
    refine sim_iload_n 1 d_X4_addStop_18 rfl rfl ?_
    refine sim_iast d_X4_addStop_19 ar_C_61 ?_
    refine sim_nmM (fun M1 => ?_)
    refine sim_aload_n 0 d_X4_addStop_20 rfl rfl ?_
    refine sim_geta d_X4_addStop_21 fl_X4_15 ob_C_10 rfl ?_
    refine sim_aload_n 0 d_X4_addStop_24 rfl rfl ?_
    refine sim_geti d_X4_addStop_25 fl_X4_34 ob_C_10 rfl ?_
    refine sim_iload_n 2 d_X4_addStop_28 rfl rfl ?_
    refine sim_iast d_X4_addStop_29 ar_C_62 ?_
    refine sim_nmM (fun M2 => ?_)
    refine sim_aload_n 0 d_X4_addStop_30 rfl rfl ?_
    refine sim_geta d_X4_addStop_31 fl_X4_18 ob_C_10 rfl ?_
    refine sim_aload_n 0 d_X4_addStop_34 rfl rfl ?_
    refine sim_geti d_X4_addStop_35 fl_X4_34 ob_C_10 rfl ?_
    refine sim_iload_n 3 d_X4_addStop_38 rfl rfl ?_
    refine sim_iast d_X4_addStop_39 ar_C_63 ?_
    refine sim_nmM (fun M3 => ?_)
    refine sim_aload_n 0 d_X4_addStop_40 rfl rfl ?_
    refine sim_geta d_X4_addStop_41 fl_X4_27 ob_C_10 rfl ?_
    refine sim_aload_n 0 d_X4_addStop_44 rfl rfl ?_
    refine sim_geti d_X4_addStop_45 fl_X4_34 ob_C_10 rfl ?_
    refine sim_iload 4 d_X4_addStop_48 rfl ?_
    refine sim_zast d_X4_addStop_50 ar_C_66 ?_
    refine sim_nmM (fun M4 => ?_)
    refine sim_aload_n 0 d_X4_addStop_51 rfl rfl ?_
    refine sim_geta d_X4_addStop_52 fl_X4_31 ob_C_10 rfl ?_
    refine sim_aload_n 0 d_X4_addStop_55 rfl rfl ?_
    refine sim_geti d_X4_addStop_56 fl_X4_34 ob_C_10 rfl ?_
    refine sim_iload 5 d_X4_addStop_59 rfl ?_
    refine sim_zast d_X4_addStop_61 ar_C_67 ?_
    refine sim_nmM (fun M5 => ?_)
    refine sim_aload_n 0 d_X4_addStop_62 rfl rfl ?_
    refine sim_dup d_X4_addStop_63 rfl ?_
    refine sim_geti d_X4_addStop_64 fl_X4_34 ob_C_10 rfl ?_
    refine sim_iconst (1 : Int32) d_X4_addStop_67 rfl ?_
    refine sim_iadd d_X4_addStop_68 ?_
    refine sim_puti d_X4_addStop_69 fl_X4_34 ob_C_10 rfl ?_
    refine sim_nmM (fun M6 => ?_)
    exact sim_vret d_X4_addStop_72 rfl
  ·
    exact sim_vret d_X4_addStop_9 rfl
theorem ct_X4_addStop (a1 : Int32) (a2 : Int32) (a3 : Int32) (a4 : Int32) (a5 : Int32) (M : mm_M) : Ct sysC Y_X4_addStop 0 [.ref 10, .int (a1), .int (a2), .int (a3), .int (a4), .int (a5)] M mm_fV (f_X4_addStop a1 a2 a3 a4 a5 M) :=
  ct_of_sim (by decide) rfl (Nat.le_of_ble_eq_true rfl) (s_X4_addStop a1 a2 a3 a4 a5 M)
def f_X4_bit (a1 : Int32) (M : mm_M) : Option (Int32 × mm_M) :=
  some ((1 : Int32) <<< ((((mI M 10 7) - (1 : Int32)) - a1) &&& 31), M)
theorem s_X4_bit (a1 : Int32) (M : mm_M) : Sim sysC Y_X4_bit 0 0 [(0, .ref 10), (1, .int (a1))] [] M mm_fI (f_X4_bit a1 M) := by
  unfold f_X4_bit
  refine sim_iconst (1 : Int32) d_X4_bit_0 rfl ?_
  refine sim_aload_n 0 d_X4_bit_1 rfl rfl ?_
  refine sim_geti d_X4_bit_2 fl_X4_34 ob_C_10 rfl ?_
  refine sim_iconst (1 : Int32) d_X4_bit_5 rfl ?_
  refine sim_isub d_X4_bit_6 ?_
  refine sim_iload_n 1 d_X4_bit_7 rfl rfl ?_
  refine sim_isub d_X4_bit_8 ?_
  refine sim_ishl d_X4_bit_9 ?_
  exact sim_iret d_X4_bit_10 rfl
theorem ct_X4_bit (a1 : Int32) (M : mm_M) : Ct sysC Y_X4_bit 0 [.ref 10, .int (a1)] M mm_fI (f_X4_bit a1 M) :=
  ct_of_sim (by decide) rfl (Nat.le_of_ble_eq_true rfl) (s_X4_bit a1 M)
def f_X4_isAllowed_43 (k2 : Int32 → Int32 → mm_M → Option (Int32 × mm_M)) (x1 : Int32) (x2 : Int32) (M : mm_M) : Option (Int32 × mm_M) :=
  k2 x1 (x2 + (1 : Int32)) M
theorem s_X4_isAllowed_43 (k2 : Int32 → Int32 → mm_M → Option (Int32 × mm_M)) (hk2 : ∀ (x1 : Int32) (x2 : Int32) (M : mm_M), Sim sysC Y_X4_isAllowed 1 2 [(0, .ref 10), (1, .int (x1)), (2, .int (x2))] [] M mm_fI (k2 x1 x2 M)) (x1 : Int32) (x2 : Int32) (M : mm_M) : Sim sysC Y_X4_isAllowed 1 43 [(0, .ref 10), (1, .int (x1)), (2, .int (x2))] [] M mm_fI (f_X4_isAllowed_43 k2 x1 x2 M) := by
  unfold f_X4_isAllowed_43
  refine sim_iinc (v := x2 + (1 : Int32)) (L' := [(0, .ref 10), (1, .int (x1)), (2, .int (x2 + (1 : Int32)))]) 2 d_X4_isAllowed_43 (Nat.le_of_ble_eq_true rfl) rfl rfl rfl ?_
  refine sim_goto d_X4_isAllowed_46 ?_
  exact sim_sub [0, 1, 2] rfl (hk2 x1 (x2 + (1 : Int32)) M)
def f_X4_isAllowed_2 : Nat → Int32 → Int32 → mm_M → Option (Int32 × mm_M)
  | 0, _, _, _ => none
  | n + 1, x1, x2, M =>
  if (mI M 10 7) ≤ x2 then
    some ((1 : Int32), M)
  else
    mm_bi (f_X4_bit x2 M) (fun r1 M1 =>
    if (x1 &&& r1) = 0 then
      mm_ck x2 8 (
      if (mI M1 67 x2.toNatClampNeg) = 0 then
        some ((0 : Int32), M1)
      else
        f_X4_isAllowed_43 (f_X4_isAllowed_2 n) x1 x2 M1)
    else
      mm_ck x2 8 (
      if (mI M1 66 x2.toNatClampNeg) = 0 then
        some ((0 : Int32), M1)
      else
        f_X4_isAllowed_43 (f_X4_isAllowed_2 n) x1 x2 M1))
theorem s_X4_isAllowed_2 (n : Nat) : ∀ (x1 : Int32) (x2 : Int32) (M : mm_M), Sim sysC Y_X4_isAllowed 1 2 [(0, .ref 10), (1, .int (x1)), (2, .int (x2))] [] M mm_fI (f_X4_isAllowed_2 n x1 x2 M) := by
  induction n with
  | zero => intros; exact sim_none
  | succ n ih =>
    intro x1 x2 M
    rw [f_X4_isAllowed_2]
    refine sim_iload_n 2 d_X4_isAllowed_2 rfl rfl ?_
    refine sim_aload_n 0 d_X4_isAllowed_3 rfl rfl ?_
    refine sim_geti d_X4_isAllowed_4 fl_X4_34 ob_C_10 rfl ?_
    refine sim_icmp_ge d_X4_isAllowed_7 ?_ ?_
    ·
      refine sim_iconst (1 : Int32) d_X4_isAllowed_49 rfl ?_
      exact sim_zret d_X4_isAllowed_50 rfl rfl
    ·
      refine sim_iload_n 1 d_X4_isAllowed_10 rfl rfl ?_
      refine sim_aload_n 0 d_X4_isAllowed_11 rfl rfl ?_
      refine sim_iload_n 2 d_X4_isAllowed_12 rfl rfl ?_
      refine sim_callVi Y_X4_bit 0 [.int (x2)] [.int (x1)] d_X4_isAllowed_13 lk_X4_75 cv_X4_bit ob_C_10 rfl (by omega) (Nat.le_of_ble_eq_true rfl) (ct_X4_bit x2 M) (fun r1 M1 => ?_)
      refine sim_iand d_X4_isAllowed_16 ?_
      refine sim_if_eq d_X4_isAllowed_17 ?_ ?_
      ·
        refine sim_aload_n 0 d_X4_isAllowed_32 rfl rfl ?_
        refine sim_geta d_X4_isAllowed_33 fl_X4_31 ob_C_10 rfl ?_
        refine sim_iload_n 2 d_X4_isAllowed_36 rfl rfl ?_
        refine sim_zald d_X4_isAllowed_37 ar_C_67 ?_
        refine sim_if_ne d_X4_isAllowed_38 ?_ ?_
        ·
          exact sim_sub [0, 1, 2] rfl (s_X4_isAllowed_43 (f_X4_isAllowed_2 n) ih x1 x2 M1)
        ·
          refine sim_iconst (0 : Int32) d_X4_isAllowed_41 rfl ?_
          exact sim_zret d_X4_isAllowed_42 rfl rfl
      ·
        refine sim_aload_n 0 d_X4_isAllowed_20 rfl rfl ?_
        refine sim_geta d_X4_isAllowed_21 fl_X4_27 ob_C_10 rfl ?_
        refine sim_iload_n 2 d_X4_isAllowed_24 rfl rfl ?_
        refine sim_zald d_X4_isAllowed_25 ar_C_66 ?_
        refine sim_if_eq d_X4_isAllowed_26 ?_ ?_
        ·
          refine sim_iconst (0 : Int32) d_X4_isAllowed_41 rfl ?_
          exact sim_zret d_X4_isAllowed_42 rfl rfl
        ·
          refine sim_goto d_X4_isAllowed_29 ?_
          exact sim_sub [0, 1, 2] rfl (s_X4_isAllowed_43 (f_X4_isAllowed_2 n) ih x1 x2 M1)
def f_X4_isAllowed (a1 : Int32) (M : mm_M) : Option (Int32 × mm_M) :=
  f_X4_isAllowed_2 mm_fu a1 (0 : Int32) M
theorem s_X4_isAllowed (a1 : Int32) (M : mm_M) : Sim sysC Y_X4_isAllowed 1 0 [(0, .ref 10), (1, .int (a1))] [] M mm_fI (f_X4_isAllowed a1 M) := by
  unfold f_X4_isAllowed
  refine sim_iconst (0 : Int32) d_X4_isAllowed_0 rfl ?_
  refine sim_istore_n (L' := [(0, .ref 10), (1, .int (a1)), (2, .int ((0 : Int32)))]) d_X4_isAllowed_1 rfl (Nat.le_of_ble_eq_true rfl) rfl ?_
  exact sim_sub [0, 1, 2] rfl (s_X4_isAllowed_2 mm_fu a1 (0 : Int32) M)
theorem ct_X4_isAllowed (a1 : Int32) (M : mm_M) : Ct sysC Y_X4_isAllowed 1 [.ref 10, .int (a1)] M mm_fI (f_X4_isAllowed a1 M) :=
  ct_of_sim (by decide) rfl (Nat.le_of_ble_eq_true rfl) (s_X4_isAllowed a1 M)
def f_X4_all (M : mm_M) : Option (Int32 × mm_M) :=
  some (((1 : Int32) <<< ((mI M 10 7) &&& 31)) - (1 : Int32), M)
theorem s_X4_all (M : mm_M) : Sim sysC Y_X4_all 0 0 [(0, .ref 10)] [] M mm_fI (f_X4_all M) := by
  unfold f_X4_all
  refine sim_iconst (1 : Int32) d_X4_all_0 rfl ?_
  refine sim_aload_n 0 d_X4_all_1 rfl rfl ?_
  refine sim_geti d_X4_all_2 fl_X4_34 ob_C_10 rfl ?_
  refine sim_ishl d_X4_all_5 ?_
  refine sim_iconst (1 : Int32) d_X4_all_6 rfl ?_
  refine sim_isub d_X4_all_7 ?_
  exact sim_iret d_X4_all_8 rfl
theorem ct_X4_all (M : mm_M) : Ct sysC Y_X4_all 0 [.ref 10] M mm_fI (f_X4_all M) :=
  ct_of_sim (by decide) rfl (Nat.le_of_ble_eq_true rfl) (s_X4_all M)
def f_X4_offer_38 (x1 : Int32) (x2 : Int32) (x3 : Int32) (M : mm_M) : Option (mm_M) :=
  mm_let (sI M 10 9 (1 : Int32)) (fun M1 =>
  mm_let (sI M1 10 8 x1) (fun M2 =>
  mm_let (sI M2 10 10 x2) (fun M3 =>
  mm_let (sI M3 10 11 x3) (fun M4 =>
  some M4))))
theorem s_X4_offer_38 (x1 : Int32) (x2 : Int32) (x3 : Int32) (M : mm_M) : Sim sysC Y_X4_offer 0 38 [(0, .ref 10), (1, .int (x1)), (2, .int (x2)), (3, .int (x3))] [] M mm_fV (f_X4_offer_38 x1 x2 x3 M) := by
  unfold f_X4_offer_38
  refine sim_aload_n 0 d_X4_offer_38 rfl rfl ?_
  refine sim_iconst (1 : Int32) d_X4_offer_39 rfl ?_
  refine sim_putz d_X4_offer_40 fl_X4_41 ob_C_10 rfl (Or.inr rfl) ?_
  refine sim_nmM (fun M1 => ?_)
  refine sim_aload_n 0 d_X4_offer_43 rfl rfl ?_
  refine sim_iload_n 1 d_X4_offer_44 rfl rfl ?_
  refine sim_puti d_X4_offer_45 fl_X4_38 ob_C_10 rfl ?_
  refine sim_nmM (fun M2 => ?_)
  refine sim_aload_n 0 d_X4_offer_48 rfl rfl ?_
  refine sim_iload_n 2 d_X4_offer_49 rfl rfl ?_
  refine sim_puti d_X4_offer_50 fl_X4_45 ob_C_10 rfl ?_
  refine sim_nmM (fun M3 => ?_)
  refine sim_aload_n 0 d_X4_offer_53 rfl rfl ?_
  refine sim_iload_n 3 d_X4_offer_54 rfl rfl ?_
  refine sim_puti d_X4_offer_55 fl_X4_48 ob_C_10 rfl ?_
  refine sim_nmM (fun M4 => ?_)
  exact sim_vret d_X4_offer_58 rfl
def f_X4_offer (a1 : Int32) (a2 : Int32) (a3 : Int32) (a4 : Int32) (M : mm_M) : Option (mm_M) :=
  if a2 ≤ a4 then
    if (mI M 10 9) = 0 then
      f_X4_offer_38 a1 a2 a3 M
    else
      if a2 < (mI M 10 10) then
        f_X4_offer_38 a1 a2 a3 M
      else
        if a2 = (mI M 10 10) then
          if (mI M 10 11) ≤ a3 then
            some M
          else
            f_X4_offer_38 a1 a2 a3 M
        else
          some M
  else
    some M
theorem s_X4_offer (a1 : Int32) (a2 : Int32) (a3 : Int32) (a4 : Int32) (M : mm_M) : Sim sysC Y_X4_offer 0 0 [(0, .ref 10), (1, .int (a1)), (2, .int (a2)), (3, .int (a3)), (4, .int (a4))] [] M mm_fV (f_X4_offer a1 a2 a3 a4 M) := by
  unfold f_X4_offer
  refine sim_iload_n 2 d_X4_offer_0 rfl rfl ?_
  refine sim_iload 4 d_X4_offer_1 rfl ?_
  refine sim_icmp_le d_X4_offer_3 ?_ ?_
  ·
    refine sim_aload_n 0 d_X4_offer_7 rfl rfl ?_
    refine sim_getz d_X4_offer_8 fl_X4_41 ob_C_10 rfl ?_
    refine sim_if_eq d_X4_offer_11 ?_ ?_
    ·
      exact sim_sub [0, 1, 2, 3] rfl (s_X4_offer_38 a1 a2 a3 M)
    ·
      refine sim_iload_n 2 d_X4_offer_14 rfl rfl ?_
      refine sim_aload_n 0 d_X4_offer_15 rfl rfl ?_
      refine sim_geti d_X4_offer_16 fl_X4_45 ob_C_10 rfl ?_
      refine sim_icmp_lt d_X4_offer_19 ?_ ?_
      ·
        exact sim_sub [0, 1, 2, 3] rfl (s_X4_offer_38 a1 a2 a3 M)
      ·
        refine sim_iload_n 2 d_X4_offer_22 rfl rfl ?_
        refine sim_aload_n 0 d_X4_offer_23 rfl rfl ?_
        refine sim_geti d_X4_offer_24 fl_X4_45 ob_C_10 rfl ?_
        refine sim_icmp_ne d_X4_offer_27 ?_ ?_
        ·
          exact sim_vret d_X4_offer_58 rfl
        ·
          refine sim_iload_n 3 d_X4_offer_30 rfl rfl ?_
          refine sim_aload_n 0 d_X4_offer_31 rfl rfl ?_
          refine sim_geti d_X4_offer_32 fl_X4_48 ob_C_10 rfl ?_
          refine sim_icmp_ge d_X4_offer_35 ?_ ?_
          ·
            exact sim_vret d_X4_offer_58 rfl
          ·
            exact sim_sub [0, 1, 2, 3] rfl (s_X4_offer_38 a1 a2 a3 M)
  ·
    exact sim_vret d_X4_offer_6 rfl
theorem ct_X4_offer (a1 : Int32) (a2 : Int32) (a3 : Int32) (a4 : Int32) (M : mm_M) : Ct sysC Y_X4_offer 0 [.ref 10, .int (a1), .int (a2), .int (a3), .int (a4)] M mm_fV (f_X4_offer a1 a2 a3 a4 M) :=
  ct_of_sim (by decide) rfl (Nat.le_of_ble_eq_true rfl) (s_X4_offer a1 a2 a3 a4 M)
def f_X4_leg (a1 : Int32) (a2 : Int32) (M : mm_M) : Option (Int32 × mm_M) :=
  mm_ck a1 9 (
  mm_ck a2 9 (
  mm_let (if 0 ≤ ((mI M 62 a1.toNatClampNeg) - (mI M 62 a2.toNatClampNeg)) then ((mI M 62 a1.toNatClampNeg) - (mI M 62 a2.toNatClampNeg)) else 0 - ((mI M 62 a1.toNatClampNeg) - (mI M 62 a2.toNatClampNeg))) (fun v1 =>
  mm_ck a1 9 (
  mm_ck a2 9 (
  mm_let (if 0 ≤ ((mI M 63 a1.toNatClampNeg) - (mI M 63 a2.toNatClampNeg)) then ((mI M 63 a1.toNatClampNeg) - (mI M 63 a2.toNatClampNeg)) else 0 - ((mI M 63 a1.toNatClampNeg) - (mI M 63 a2.toNatClampNeg))) (fun v2 =>
  some (v1 + v2, M)))))))
theorem s_X4_leg (a1 : Int32) (a2 : Int32) (M : mm_M) : Sim sysC Y_X4_leg 1 0 [(0, .ref 10), (1, .int (a1)), (2, .int (a2))] [] M mm_fI (f_X4_leg a1 a2 M) := by
  unfold f_X4_leg
  refine sim_aload_n 0 d_X4_leg_0 rfl rfl ?_
  refine sim_geta d_X4_leg_1 fl_X4_15 ob_C_10 rfl ?_
  refine sim_iload_n 1 d_X4_leg_4 rfl rfl ?_
  refine sim_iald d_X4_leg_5 ar_C_62 ?_
  refine sim_aload_n 0 d_X4_leg_6 rfl rfl ?_
  refine sim_geta d_X4_leg_7 fl_X4_15 ob_C_10 rfl ?_
  refine sim_iload_n 2 d_X4_leg_10 rfl rfl ?_
  refine sim_iald d_X4_leg_11 ar_C_62 ?_
  refine sim_isub d_X4_leg_12 ?_
  refine sim_mabs d_X4_leg_13 lk_X4_91 cs_J9_abs_0f7a4.2 cs_J9_abs_0f7a4.1.1 cs_J9_abs_0f7a4.1.2.1 (by omega) (Nat.le_of_ble_eq_true rfl) ?_
  refine sim_nmi (fun v1 => ?_)
  refine sim_aload_n 0 d_X4_leg_16 rfl rfl ?_
  refine sim_geta d_X4_leg_17 fl_X4_18 ob_C_10 rfl ?_
  refine sim_iload_n 1 d_X4_leg_20 rfl rfl ?_
  refine sim_iald d_X4_leg_21 ar_C_63 ?_
  refine sim_aload_n 0 d_X4_leg_22 rfl rfl ?_
  refine sim_geta d_X4_leg_23 fl_X4_18 ob_C_10 rfl ?_
  refine sim_iload_n 2 d_X4_leg_26 rfl rfl ?_
  refine sim_iald d_X4_leg_27 ar_C_63 ?_
  refine sim_isub d_X4_leg_28 ?_
  refine sim_mabs d_X4_leg_29 lk_X4_91 cs_J9_abs_0f7a4.2 cs_J9_abs_0f7a4.1.1 cs_J9_abs_0f7a4.1.2.1 (by omega) (Nat.le_of_ble_eq_true rfl) ?_
  refine sim_nmi (fun v2 => ?_)
  refine sim_iadd d_X4_leg_32 ?_
  exact sim_iret d_X4_leg_33 rfl
theorem ct_X4_leg (a1 : Int32) (a2 : Int32) (M : mm_M) : Ct sysC Y_X4_leg 1 [.ref 10, .int (a1), .int (a2)] M mm_fI (f_X4_leg a1 a2 M) :=
  ct_of_sim (by decide) rfl (Nat.le_of_ble_eq_true rfl) (s_X4_leg a1 a2 M)
def f_X4_shortestTo_63 (k18 : Int32 → Int32 → Int32 → Int32 → mm_M → Option (Int32 × mm_M)) (x1 : Int32) (x2 : Int32) (x3 : Int32) (x4 : Int32) (M : mm_M) : Option (Int32 × mm_M) :=
  k18 x1 x2 x3 (x4 + (1 : Int32)) M
theorem s_X4_shortestTo_63 (k18 : Int32 → Int32 → Int32 → Int32 → mm_M → Option (Int32 × mm_M)) (hk18 : ∀ (x1 : Int32) (x2 : Int32) (x3 : Int32) (x4 : Int32) (M : mm_M), Sim sysC Y_X4_shortestTo 2 18 [(0, .ref 10), (1, .int (x1)), (2, .int (x2)), (3, .int (x3)), (4, .int (x4))] [] M mm_fI (k18 x1 x2 x3 x4 M)) (x1 : Int32) (x2 : Int32) (x3 : Int32) (x4 : Int32) (M : mm_M) : Sim sysC Y_X4_shortestTo 2 63 [(0, .ref 10), (1, .int (x1)), (2, .int (x2)), (3, .int (x3)), (4, .int (x4))] [] M mm_fI (f_X4_shortestTo_63 k18 x1 x2 x3 x4 M) := by
  unfold f_X4_shortestTo_63
  refine sim_iinc (v := x4 + (1 : Int32)) (L' := [(0, .ref 10), (1, .int (x1)), (2, .int (x2)), (3, .int (x3)), (4, .int (x4 + (1 : Int32)))]) 4 d_X4_shortestTo_63 (Nat.le_of_ble_eq_true rfl) rfl rfl rfl ?_
  refine sim_goto d_X4_shortestTo_66 ?_
  exact sim_sub [0, 1, 2, 3, 4] rfl (hk18 x1 x2 x3 (x4 + (1 : Int32)) M)
def f_X4_shortestTo_18 : Nat → Int32 → Int32 → Int32 → Int32 → mm_M → Option (Int32 × mm_M)
  | 0, _, _, _, _, _ => none
  | n + 1, x1, x2, x3, x4, M =>
  if (mI M 10 7) ≤ x4 then
    some (x3, M)
  else
    mm_bi (f_X4_bit x4 M) (fun r1 M1 =>
    if (x2 &&& r1) = 0 then
      f_X4_shortestTo_63 (f_X4_shortestTo_18 n) x1 x2 x3 x4 M1
    else
      mm_ck ((x2 * (8 : Int32)) + x4) 2048 (
      mm_bi (f_X4_leg x4 x1 M1) (fun r2 M2 =>
      mm_let (if ((mI M1 64 ((x2 * (8 : Int32)) + x4).toNatClampNeg) + r2) < x3 then ((mI M1 64 ((x2 * (8 : Int32)) + x4).toNatClampNeg) + r2) else x3) (fun v1 =>
      f_X4_shortestTo_63 (f_X4_shortestTo_18 n) x1 x2 v1 x4 M2))))
theorem s_X4_shortestTo_18 (n : Nat) : ∀ (x1 : Int32) (x2 : Int32) (x3 : Int32) (x4 : Int32) (M : mm_M), Sim sysC Y_X4_shortestTo 2 18 [(0, .ref 10), (1, .int (x1)), (2, .int (x2)), (3, .int (x3)), (4, .int (x4))] [] M mm_fI (f_X4_shortestTo_18 n x1 x2 x3 x4 M) := by
  induction n with
  | zero => intros; exact sim_none
  | succ n ih =>
    intro x1 x2 x3 x4 M
    rw [f_X4_shortestTo_18]
    refine sim_iload 4 d_X4_shortestTo_18 rfl ?_
    refine sim_aload_n 0 d_X4_shortestTo_20 rfl rfl ?_
    refine sim_geti d_X4_shortestTo_21 fl_X4_34 ob_C_10 rfl ?_
    refine sim_icmp_ge d_X4_shortestTo_24 ?_ ?_
    ·
      refine sim_iload_n 3 d_X4_shortestTo_69 rfl rfl ?_
      exact sim_iret d_X4_shortestTo_70 rfl
    ·
      refine sim_iload_n 2 d_X4_shortestTo_27 rfl rfl ?_
      refine sim_aload_n 0 d_X4_shortestTo_28 rfl rfl ?_
      refine sim_iload 4 d_X4_shortestTo_29 rfl ?_
      refine sim_callVi Y_X4_bit 0 [.int (x4)] [.int (x2)] d_X4_shortestTo_31 lk_X4_75 cv_X4_bit ob_C_10 rfl (by omega) (Nat.le_of_ble_eq_true rfl) (ct_X4_bit x4 M) (fun r1 M1 => ?_)
      refine sim_iand d_X4_shortestTo_34 ?_
      refine sim_if_eq d_X4_shortestTo_35 ?_ ?_
      ·
        exact sim_sub [0, 1, 2, 3, 4] rfl (s_X4_shortestTo_63 (f_X4_shortestTo_18 n) ih x1 x2 x3 x4 M1)
      ·
        refine sim_iload_n 3 d_X4_shortestTo_38 rfl rfl ?_
        refine sim_aload_n 0 d_X4_shortestTo_39 rfl rfl ?_
        refine sim_geta d_X4_shortestTo_40 fl_X4_21 ob_C_10 rfl ?_
        refine sim_iload_n 2 d_X4_shortestTo_43 rfl rfl ?_
        refine sim_bipush (8 : Int32) d_X4_shortestTo_44 rfl ?_
        refine sim_imul d_X4_shortestTo_46 ?_
        refine sim_iload 4 d_X4_shortestTo_47 rfl ?_
        refine sim_iadd d_X4_shortestTo_49 ?_
        refine sim_iald d_X4_shortestTo_50 ar_C_64 ?_
        refine sim_aload_n 0 d_X4_shortestTo_51 rfl rfl ?_
        refine sim_iload 4 d_X4_shortestTo_52 rfl ?_
        refine sim_iload_n 1 d_X4_shortestTo_54 rfl rfl ?_
        refine sim_callVi Y_X4_leg 1 [.int (x4), .int (x1)] [.int (mI M1 64 ((x2 * (8 : Int32)) + x4).toNatClampNeg), .int (x3)] d_X4_shortestTo_55 lk_X4_83 cv_X4_leg ob_C_10 rfl (by omega) (Nat.le_of_ble_eq_true rfl) (ct_X4_leg x4 x1 M1) (fun r2 M2 => ?_)
        refine sim_iadd d_X4_shortestTo_58 ?_
        refine sim_mmin d_X4_shortestTo_59 lk_X4_68 cs_J9_min_7cf53.2 cs_J9_min_7cf53.1.1 cs_J9_min_7cf53.1.2.1 (by omega) (Nat.le_of_ble_eq_true rfl) ?_
        refine sim_nmi (fun v1 => ?_)
        refine sim_istore_n (L' := [(0, .ref 10), (1, .int (x1)), (2, .int (x2)), (4, .int (x4)), (3, .int (v1))]) d_X4_shortestTo_62 rfl (Nat.le_of_ble_eq_true rfl) rfl ?_
        exact sim_sub [0, 1, 2, 4, 3] rfl (s_X4_shortestTo_63 (f_X4_shortestTo_18 n) ih x1 x2 v1 x4 M2)
def f_X4_shortestTo (a1 : Int32) (a2 : Int32) (M : mm_M) : Option (Int32 × mm_M) :=
  if a2 = 0 then
    mm_bi (f_X4_leg (8 : Int32) a1 M) (fun r1 M1 =>
    some (r1, M1))
  else
    f_X4_shortestTo_18 mm_fu a1 a2 (1000000 : Int32) (0 : Int32) M
theorem s_X4_shortestTo (a1 : Int32) (a2 : Int32) (M : mm_M) : Sim sysC Y_X4_shortestTo 2 0 [(0, .ref 10), (1, .int (a1)), (2, .int (a2))] [] M mm_fI (f_X4_shortestTo a1 a2 M) := by
  unfold f_X4_shortestTo
  refine sim_iload_n 2 d_X4_shortestTo_0 rfl rfl ?_
  refine sim_if_ne d_X4_shortestTo_1 ?_ ?_
  ·
    refine sim_ldc (1000000 : Int32) d_X4_shortestTo_12 kn_X4_79 ?_
    refine sim_istore_n (L' := [(0, .ref 10), (1, .int (a1)), (2, .int (a2)), (3, .int ((1000000 : Int32)))]) d_X4_shortestTo_14 rfl (Nat.le_of_ble_eq_true rfl) rfl ?_
    refine sim_iconst (0 : Int32) d_X4_shortestTo_15 rfl ?_
    refine sim_istore (L' := [(0, .ref 10), (1, .int (a1)), (2, .int (a2)), (3, .int ((1000000 : Int32))), (4, .int ((0 : Int32)))]) d_X4_shortestTo_16 (Nat.le_of_ble_eq_true rfl) rfl ?_
    exact sim_sub [0, 1, 2, 3, 4] rfl (s_X4_shortestTo_18 mm_fu a1 a2 (1000000 : Int32) (0 : Int32) M)
  ·
    refine sim_aload_n 0 d_X4_shortestTo_4 rfl rfl ?_
    refine sim_bipush (8 : Int32) d_X4_shortestTo_5 rfl ?_
    refine sim_iload_n 1 d_X4_shortestTo_7 rfl rfl ?_
    refine sim_callVi Y_X4_leg 1 [.int ((8 : Int32)), .int (a1)] [] d_X4_shortestTo_8 lk_X4_83 cv_X4_leg ob_C_10 rfl (by omega) (Nat.le_of_ble_eq_true rfl) (ct_X4_leg (8 : Int32) a1 M) (fun r1 M1 => ?_)
    exact sim_iret d_X4_shortestTo_11 rfl
theorem ct_X4_shortestTo (a1 : Int32) (a2 : Int32) (M : mm_M) : Ct sysC Y_X4_shortestTo 2 [.ref 10, .int (a1), .int (a2)] M mm_fI (f_X4_shortestTo a1 a2 M) :=
  ct_of_sim (by decide) rfl (Nat.le_of_ble_eq_true rfl) (s_X4_shortestTo a1 a2 M)
def f_J6_bitCount_0f7a4 (a1 : Int32) (M : mm_M) : Option (Int32 × mm_M) :=
  mm_let (a1 - ((((a1).toUInt32 >>> (((1 : Int32)).toUInt32 &&& Int32.toUInt32 31)).toInt32) &&& (1431655765 : Int32))) (fun v1 =>
  mm_let ((v1 &&& (858993459 : Int32)) + ((((v1).toUInt32 >>> (((2 : Int32)).toUInt32 &&& Int32.toUInt32 31)).toInt32) &&& (858993459 : Int32))) (fun v2 =>
  mm_let ((v2 + (((v2).toUInt32 >>> (((4 : Int32)).toUInt32 &&& Int32.toUInt32 31)).toInt32)) &&& (252645135 : Int32)) (fun v3 =>
  mm_let (v3 + (((v3).toUInt32 >>> (((8 : Int32)).toUInt32 &&& Int32.toUInt32 31)).toInt32)) (fun v4 =>
  mm_let (v4 + (((v4).toUInt32 >>> (((16 : Int32)).toUInt32 &&& Int32.toUInt32 31)).toInt32)) (fun v5 =>
  some (v5 &&& (63 : Int32), M))))))
theorem s_J6_bitCount_0f7a4 (a1 : Int32) (M : mm_M) : Sim sysC Y_J6_bitCount_0f7a4 0 0 [(0, .int (a1))] [] M mm_fI (f_J6_bitCount_0f7a4 a1 M) := by
  unfold f_J6_bitCount_0f7a4
  refine sim_iload_n 0 d_J6_bitCount_0f7a4_0 rfl rfl ?_
  refine sim_iload_n 0 d_J6_bitCount_0f7a4_1 rfl rfl ?_
  refine sim_iconst (1 : Int32) d_J6_bitCount_0f7a4_2 rfl ?_
  refine sim_iushr d_J6_bitCount_0f7a4_3 ?_
  refine sim_ldcw (1431655765 : Int32) d_J6_bitCount_0f7a4_4 kn_J6_265 ?_
  refine sim_iand d_J6_bitCount_0f7a4_7 ?_
  refine sim_isub d_J6_bitCount_0f7a4_8 ?_
  refine sim_nmi (fun v1 => ?_)
  refine sim_istore_n (L' := [(0, .int (v1))]) d_J6_bitCount_0f7a4_9 rfl (Nat.le_of_ble_eq_true rfl) rfl ?_
  refine sim_iload_n 0 d_J6_bitCount_0f7a4_10 rfl rfl ?_
  refine sim_ldcw (858993459 : Int32) d_J6_bitCount_0f7a4_11 kn_J6_266 ?_
  refine sim_iand d_J6_bitCount_0f7a4_14 ?_
  refine sim_iload_n 0 d_J6_bitCount_0f7a4_15 rfl rfl ?_
  refine sim_iconst (2 : Int32) d_J6_bitCount_0f7a4_16 rfl ?_
  refine sim_iushr d_J6_bitCount_0f7a4_17 ?_
  refine sim_ldcw (858993459 : Int32) d_J6_bitCount_0f7a4_18 kn_J6_266 ?_
  refine sim_iand d_J6_bitCount_0f7a4_21 ?_
  refine sim_iadd d_J6_bitCount_0f7a4_22 ?_
  refine sim_nmi (fun v2 => ?_)
  refine sim_istore_n (L' := [(0, .int (v2))]) d_J6_bitCount_0f7a4_23 rfl (Nat.le_of_ble_eq_true rfl) rfl ?_
  refine sim_iload_n 0 d_J6_bitCount_0f7a4_24 rfl rfl ?_
  refine sim_iload_n 0 d_J6_bitCount_0f7a4_25 rfl rfl ?_
  refine sim_iconst (4 : Int32) d_J6_bitCount_0f7a4_26 rfl ?_
  refine sim_iushr d_J6_bitCount_0f7a4_27 ?_
  refine sim_iadd d_J6_bitCount_0f7a4_28 ?_
  refine sim_ldcw (252645135 : Int32) d_J6_bitCount_0f7a4_29 kn_J6_267 ?_
  refine sim_iand d_J6_bitCount_0f7a4_32 ?_
  refine sim_nmi (fun v3 => ?_)
  refine sim_istore_n (L' := [(0, .int (v3))]) d_J6_bitCount_0f7a4_33 rfl (Nat.le_of_ble_eq_true rfl) rfl ?_
  refine sim_iload_n 0 d_J6_bitCount_0f7a4_34 rfl rfl ?_
  refine sim_iload_n 0 d_J6_bitCount_0f7a4_35 rfl rfl ?_
  refine sim_bipush (8 : Int32) d_J6_bitCount_0f7a4_36 rfl ?_
  refine sim_iushr d_J6_bitCount_0f7a4_38 ?_
  refine sim_iadd d_J6_bitCount_0f7a4_39 ?_
  refine sim_nmi (fun v4 => ?_)
  refine sim_istore_n (L' := [(0, .int (v4))]) d_J6_bitCount_0f7a4_40 rfl (Nat.le_of_ble_eq_true rfl) rfl ?_
  refine sim_iload_n 0 d_J6_bitCount_0f7a4_41 rfl rfl ?_
  refine sim_iload_n 0 d_J6_bitCount_0f7a4_42 rfl rfl ?_
  refine sim_bipush (16 : Int32) d_J6_bitCount_0f7a4_43 rfl ?_
  refine sim_iushr d_J6_bitCount_0f7a4_45 ?_
  refine sim_iadd d_J6_bitCount_0f7a4_46 ?_
  refine sim_nmi (fun v5 => ?_)
  refine sim_istore_n (L' := [(0, .int (v5))]) d_J6_bitCount_0f7a4_47 rfl (Nat.le_of_ble_eq_true rfl) rfl ?_
  refine sim_iload_n 0 d_J6_bitCount_0f7a4_48 rfl rfl ?_
  refine sim_bipush (63 : Int32) d_J6_bitCount_0f7a4_49 rfl ?_
  refine sim_iand d_J6_bitCount_0f7a4_51 ?_
  exact sim_iret d_J6_bitCount_0f7a4_52 rfl
theorem ct_J6_bitCount_0f7a4 (a1 : Int32) (M : mm_M) : Ct sysC Y_J6_bitCount_0f7a4 0 [.int (a1)] M mm_fI (f_J6_bitCount_0f7a4 a1 M) :=
  ct_of_sim (by decide) rfl (Nat.le_of_ble_eq_true rfl) (s_J6_bitCount_0f7a4 a1 M)
def f_X4_reckonTimes_89 (k29 : Int32 → Int32 → Int32 → mm_M → Option (mm_M)) (x1 : Int32) (x2 : Int32) (x3 : Int32) (M : mm_M) : Option (mm_M) :=
  k29 x1 x2 (x3 + (1 : Int32)) M
theorem s_X4_reckonTimes_89 (k29 : Int32 → Int32 → Int32 → mm_M → Option (mm_M)) (hk29 : ∀ (x1 : Int32) (x2 : Int32) (x3 : Int32) (M : mm_M), Sim sysC Y_X4_reckonTimes 3 29 [(0, .ref 10), (1, .int (x1)), (2, .int (x2)), (3, .int (x3))] [] M mm_fV (k29 x1 x2 x3 M)) (x1 : Int32) (x2 : Int32) (x3 : Int32) (M : mm_M) : Sim sysC Y_X4_reckonTimes 3 89 [(0, .ref 10), (1, .int (x1)), (2, .int (x2)), (3, .int (x3))] [] M mm_fV (f_X4_reckonTimes_89 k29 x1 x2 x3 M) := by
  unfold f_X4_reckonTimes_89
  refine sim_iinc (v := x3 + (1 : Int32)) (L' := [(0, .ref 10), (1, .int (x1)), (2, .int (x2)), (3, .int (x3 + (1 : Int32)))]) 3 d_X4_reckonTimes_89 (Nat.le_of_ble_eq_true rfl) rfl rfl rfl ?_
  refine sim_goto d_X4_reckonTimes_92 ?_
  exact sim_sub [0, 1, 2, 3] rfl (hk29 x1 x2 (x3 + (1 : Int32)) M)
def f_X4_reckonTimes_29 (k95 : Int32 → Int32 → mm_M → Option (mm_M)) : Nat → Int32 → Int32 → Int32 → mm_M → Option (mm_M)
  | 0, _, _, _, _ => none
  | n + 1, x1, x2, x3, M =>
  if (mI M 10 7) ≤ x3 then
    k95 x1 x2 M
  else
    mm_bi (f_X4_bit x3 M) (fun r1 M1 =>
    if (x1 &&& r1) = 0 then
      f_X4_reckonTimes_89 (f_X4_reckonTimes_29 k95 n) x1 x2 x3 M1
    else
      mm_bi (f_X4_bit x3 M1) (fun r2 M2 =>
      mm_bi (f_X4_shortestTo x3 (x1 - r2) M2) (fun r3 M3 =>
      mm_ck ((x1 * (8 : Int32)) + x3) 2048 (
      mm_let (sI M3 64 ((x1 * (8 : Int32)) + x3).toNatClampNeg r3) (fun M4 =>
      mm_bi (f_X4_leg x3 (8 : Int32) M4) (fun r4 M5 =>
      mm_let (if (r3 + r4) < x2 then (r3 + r4) else x2) (fun v1 =>
      f_X4_reckonTimes_89 (f_X4_reckonTimes_29 k95 n) x1 v1 x3 M5)))))))
theorem s_X4_reckonTimes_29 (k95 : Int32 → Int32 → mm_M → Option (mm_M)) (hk95 : ∀ (x1 : Int32) (x2 : Int32) (M : mm_M), Sim sysC Y_X4_reckonTimes 3 95 [(0, .ref 10), (1, .int (x1)), (2, .int (x2))] [] M mm_fV (k95 x1 x2 M)) (n : Nat) : ∀ (x1 : Int32) (x2 : Int32) (x3 : Int32) (M : mm_M), Sim sysC Y_X4_reckonTimes 3 29 [(0, .ref 10), (1, .int (x1)), (2, .int (x2)), (3, .int (x3))] [] M mm_fV (f_X4_reckonTimes_29 k95 n x1 x2 x3 M) := by
  induction n with
  | zero => intros; exact sim_none
  | succ n ih =>
    intro x1 x2 x3 M
    rw [f_X4_reckonTimes_29]
    refine sim_iload_n 3 d_X4_reckonTimes_29 rfl rfl ?_
    refine sim_aload_n 0 d_X4_reckonTimes_30 rfl rfl ?_
    refine sim_geti d_X4_reckonTimes_31 fl_X4_34 ob_C_10 rfl ?_
    refine sim_icmp_ge d_X4_reckonTimes_34 ?_ ?_
    ·
      exact sim_sub [0, 1, 2] rfl (hk95 x1 x2 M)
    ·
      refine sim_iload_n 1 d_X4_reckonTimes_37 rfl rfl ?_
      refine sim_aload_n 0 d_X4_reckonTimes_38 rfl rfl ?_
      refine sim_iload_n 3 d_X4_reckonTimes_39 rfl rfl ?_
      refine sim_callVi Y_X4_bit 0 [.int (x3)] [.int (x1)] d_X4_reckonTimes_40 lk_X4_75 cv_X4_bit ob_C_10 rfl (by omega) (Nat.le_of_ble_eq_true rfl) (ct_X4_bit x3 M) (fun r1 M1 => ?_)
      refine sim_iand d_X4_reckonTimes_43 ?_
      refine sim_if_eq d_X4_reckonTimes_44 ?_ ?_
      ·
        exact sim_sub [0, 1, 2, 3] rfl (s_X4_reckonTimes_89 (f_X4_reckonTimes_29 k95 n) ih x1 x2 x3 M1)
      ·
        refine sim_aload_n 0 d_X4_reckonTimes_47 rfl rfl ?_
        refine sim_iload_n 3 d_X4_reckonTimes_48 rfl rfl ?_
        refine sim_iload_n 1 d_X4_reckonTimes_49 rfl rfl ?_
        refine sim_aload_n 0 d_X4_reckonTimes_50 rfl rfl ?_
        refine sim_iload_n 3 d_X4_reckonTimes_51 rfl rfl ?_
        refine sim_callVi Y_X4_bit 0 [.int (x3)] [.int (x1), .int (x3), .ref 10] d_X4_reckonTimes_52 lk_X4_75 cv_X4_bit ob_C_10 rfl (by omega) (Nat.le_of_ble_eq_true rfl) (ct_X4_bit x3 M1) (fun r2 M2 => ?_)
        refine sim_isub d_X4_reckonTimes_55 ?_
        refine sim_callVi Y_X4_shortestTo 2 [.int (x3), .int (x1 - r2)] [] d_X4_reckonTimes_56 lk_X4_80 cv_X4_shortestTo ob_C_10 rfl (by omega) (Nat.le_of_ble_eq_true rfl) (ct_X4_shortestTo x3 (x1 - r2) M2) (fun r3 M3 => ?_)
        refine sim_istore (L' := [(0, .ref 10), (1, .int (x1)), (2, .int (x2)), (3, .int (x3)), (4, .int (r3))]) d_X4_reckonTimes_59 (Nat.le_of_ble_eq_true rfl) rfl ?_
        refine sim_aload_n 0 d_X4_reckonTimes_61 rfl rfl ?_
        refine sim_geta d_X4_reckonTimes_62 fl_X4_21 ob_C_10 rfl ?_
        refine sim_iload_n 1 d_X4_reckonTimes_65 rfl rfl ?_
        refine sim_bipush (8 : Int32) d_X4_reckonTimes_66 rfl ?_
        refine sim_imul d_X4_reckonTimes_68 ?_
        refine sim_iload_n 3 d_X4_reckonTimes_69 rfl rfl ?_
        refine sim_iadd d_X4_reckonTimes_70 ?_
        refine sim_iload 4 d_X4_reckonTimes_71 rfl ?_
        refine sim_iast d_X4_reckonTimes_73 ar_C_64 ?_
        refine sim_nmM (fun M4 => ?_)
        refine sim_iload_n 2 d_X4_reckonTimes_74 rfl rfl ?_
        refine sim_iload 4 d_X4_reckonTimes_75 rfl ?_
        refine sim_aload_n 0 d_X4_reckonTimes_77 rfl rfl ?_
        refine sim_iload_n 3 d_X4_reckonTimes_78 rfl rfl ?_
        refine sim_bipush (8 : Int32) d_X4_reckonTimes_79 rfl ?_
        refine sim_callVi Y_X4_leg 1 [.int (x3), .int ((8 : Int32))] [.int (r3), .int (x2)] d_X4_reckonTimes_81 lk_X4_83 cv_X4_leg ob_C_10 rfl (by omega) (Nat.le_of_ble_eq_true rfl) (ct_X4_leg x3 (8 : Int32) M4) (fun r4 M5 => ?_)
        refine sim_iadd d_X4_reckonTimes_84 ?_
        refine sim_mmin d_X4_reckonTimes_85 lk_X4_68 cs_J9_min_7cf53.2 cs_J9_min_7cf53.1.1 cs_J9_min_7cf53.1.2.1 (by omega) (Nat.le_of_ble_eq_true rfl) ?_
        refine sim_nmi (fun v1 => ?_)
        refine sim_istore_n (L' := [(0, .ref 10), (1, .int (x1)), (3, .int (x3)), (4, .int (r3)), (2, .int (v1))]) d_X4_reckonTimes_88 rfl (Nat.le_of_ble_eq_true rfl) rfl ?_
        exact sim_sub [0, 1, 4, 2] rfl (s_X4_reckonTimes_89 (f_X4_reckonTimes_29 k95 n) ih x1 v1 x3 M5)
def f_X4_reckonTimes_95 (k9 : Int32 → mm_M → Option (mm_M)) (x1 : Int32) (x2 : Int32) (M : mm_M) : Option (mm_M) :=
  mm_bi (f_J6_bitCount_0f7a4 x1 M) (fun r1 M1 =>
  mm_ck x1 256 (
  mm_let (sI M1 65 x1.toNatClampNeg (x2 + ((10 : Int32) * r1))) (fun M2 =>
  k9 (x1 + (1 : Int32)) M2)))
theorem s_X4_reckonTimes_95 (k9 : Int32 → mm_M → Option (mm_M)) (hk9 : ∀ (x1 : Int32) (M : mm_M), Sim sysC Y_X4_reckonTimes 3 9 [(0, .ref 10), (1, .int (x1))] [] M mm_fV (k9 x1 M)) (x1 : Int32) (x2 : Int32) (M : mm_M) : Sim sysC Y_X4_reckonTimes 3 95 [(0, .ref 10), (1, .int (x1)), (2, .int (x2))] [] M mm_fV (f_X4_reckonTimes_95 k9 x1 x2 M) := by
  unfold f_X4_reckonTimes_95
  refine sim_aload_n 0 d_X4_reckonTimes_95 rfl rfl ?_
  refine sim_geta d_X4_reckonTimes_96 fl_X4_24 ob_C_10 rfl ?_
  refine sim_iload_n 1 d_X4_reckonTimes_99 rfl rfl ?_
  refine sim_iload_n 2 d_X4_reckonTimes_100 rfl rfl ?_
  refine sim_bipush (10 : Int32) d_X4_reckonTimes_101 rfl ?_
  refine sim_iload_n 1 d_X4_reckonTimes_103 rfl rfl ?_
  refine sim_callSi Y_J6_bitCount_0f7a4 0 [.int (x1)] [.int ((10 : Int32)), .int (x2), .int (x1), .ref 65] d_X4_reckonTimes_104 lk_X4_86 cs_J6_bitCount_0f7a4 rfl (by omega) (Nat.le_of_ble_eq_true rfl) (ct_J6_bitCount_0f7a4 x1 M) (fun r1 M1 => ?_)
  refine sim_imul d_X4_reckonTimes_107 ?_
  refine sim_iadd d_X4_reckonTimes_108 ?_
  refine sim_iast d_X4_reckonTimes_109 ar_C_65 ?_
  refine sim_nmM (fun M2 => ?_)
  refine sim_iinc (v := x1 + (1 : Int32)) (L' := [(0, .ref 10), (2, .int (x2)), (1, .int (x1 + (1 : Int32)))]) 1 d_X4_reckonTimes_110 (Nat.le_of_ble_eq_true rfl) rfl rfl rfl ?_
  refine sim_goto d_X4_reckonTimes_113 ?_
  exact sim_sub [0, 2] rfl (hk9 (x1 + (1 : Int32)) M2)
def f_X4_reckonTimes_9 : Nat → Int32 → mm_M → Option (mm_M)
  | 0, _, _ => none
  | n + 1, x1, M =>
  mm_bi (f_X4_all M) (fun r1 M1 =>
  if r1 < x1 then
    some M1
  else
    if (256 : Int32) ≤ x1 then
      some M1
    else
      f_X4_reckonTimes_29 (f_X4_reckonTimes_95 (f_X4_reckonTimes_9 n)) mm_fu x1 (1000000 : Int32) (0 : Int32) M1)
theorem s_X4_reckonTimes_9 (n : Nat) : ∀ (x1 : Int32) (M : mm_M), Sim sysC Y_X4_reckonTimes 3 9 [(0, .ref 10), (1, .int (x1))] [] M mm_fV (f_X4_reckonTimes_9 n x1 M) := by
  induction n with
  | zero => intros; exact sim_none
  | succ n ih =>
    intro x1 M
    rw [f_X4_reckonTimes_9]
    refine sim_iload_n 1 d_X4_reckonTimes_9 rfl rfl ?_
    refine sim_aload_n 0 d_X4_reckonTimes_10 rfl rfl ?_
    refine sim_callVi Y_X4_all 0 [] [.int (x1)] d_X4_reckonTimes_11 lk_X4_54 cv_X4_all ob_C_10 rfl (by omega) (Nat.le_of_ble_eq_true rfl) (ct_X4_all M) (fun r1 M1 => ?_)
    refine sim_icmp_gt d_X4_reckonTimes_14 ?_ ?_
    ·
      exact sim_vret d_X4_reckonTimes_116 rfl
    ·
      refine sim_iload_n 1 d_X4_reckonTimes_17 rfl rfl ?_
      refine sim_sipush (256 : Int32) d_X4_reckonTimes_18 rfl ?_
      refine sim_icmp_ge d_X4_reckonTimes_21 ?_ ?_
      ·
        exact sim_vret d_X4_reckonTimes_116 rfl
      ·
        refine sim_ldc (1000000 : Int32) d_X4_reckonTimes_24 kn_X4_79 ?_
        refine sim_istore_n (L' := [(0, .ref 10), (1, .int (x1)), (2, .int ((1000000 : Int32)))]) d_X4_reckonTimes_26 rfl (Nat.le_of_ble_eq_true rfl) rfl ?_
        refine sim_iconst (0 : Int32) d_X4_reckonTimes_27 rfl ?_
        refine sim_istore_n (L' := [(0, .ref 10), (1, .int (x1)), (2, .int ((1000000 : Int32))), (3, .int ((0 : Int32)))]) d_X4_reckonTimes_28 rfl (Nat.le_of_ble_eq_true rfl) rfl ?_
        exact sim_sub [0, 1, 2, 3] rfl (s_X4_reckonTimes_29 (f_X4_reckonTimes_95 (f_X4_reckonTimes_9 n)) (s_X4_reckonTimes_95 (f_X4_reckonTimes_9 n) ih) mm_fu x1 (1000000 : Int32) (0 : Int32) M1)
def f_X4_reckonTimes (M : mm_M) : Option (mm_M) :=
  mm_ck (0 : Int32) 256 (
  mm_let (sI M 65 (0 : Int32).toNatClampNeg (0 : Int32)) (fun M1 =>
  f_X4_reckonTimes_9 mm_fu (1 : Int32) M1))
theorem s_X4_reckonTimes (M : mm_M) : Sim sysC Y_X4_reckonTimes 3 0 [(0, .ref 10)] [] M mm_fV (f_X4_reckonTimes M) := by
  unfold f_X4_reckonTimes
  refine sim_aload_n 0 d_X4_reckonTimes_0 rfl rfl ?_
  refine sim_geta d_X4_reckonTimes_1 fl_X4_24 ob_C_10 rfl ?_
  refine sim_iconst (0 : Int32) d_X4_reckonTimes_4 rfl ?_
  refine sim_iconst (0 : Int32) d_X4_reckonTimes_5 rfl ?_
  refine sim_iast d_X4_reckonTimes_6 ar_C_65 ?_
  refine sim_nmM (fun M1 => ?_)
  refine sim_iconst (1 : Int32) d_X4_reckonTimes_7 rfl ?_
  refine sim_istore_n (L' := [(0, .ref 10), (1, .int ((1 : Int32)))]) d_X4_reckonTimes_8 rfl (Nat.le_of_ble_eq_true rfl) rfl ?_
  exact sim_sub [0, 1] rfl (s_X4_reckonTimes_9 mm_fu (1 : Int32) M1)
theorem ct_X4_reckonTimes (M : mm_M) : Ct sysC Y_X4_reckonTimes 3 [.ref 10] M mm_fV (f_X4_reckonTimes M) :=
  ct_of_sim (by decide) rfl (Nat.le_of_ble_eq_true rfl) (s_X4_reckonTimes M)
def f_X4_plan_67 (k14 : Int32 → Int32 → mm_M → Option (mm_M)) (x1 : Int32) (x2 : Int32) (M : mm_M) : Option (mm_M) :=
  k14 x1 (x2 + (-1 : Int32)) M
theorem s_X4_plan_67 (k14 : Int32 → Int32 → mm_M → Option (mm_M)) (hk14 : ∀ (x1 : Int32) (x2 : Int32) (M : mm_M), Sim sysC Y_X4_plan 4 14 [(0, .ref 10), (1, .int (x1)), (2, .int (x2))] [] M mm_fV (k14 x1 x2 M)) (x1 : Int32) (x2 : Int32) (M : mm_M) : Sim sysC Y_X4_plan 4 67 [(0, .ref 10), (1, .int (x1)), (2, .int (x2))] [] M mm_fV (f_X4_plan_67 k14 x1 x2 M) := by
  unfold f_X4_plan_67
  refine sim_iinc (v := x2 + (-1 : Int32)) (L' := [(0, .ref 10), (1, .int (x1)), (2, .int (x2 + (-1 : Int32)))]) 2 d_X4_plan_67 (Nat.le_of_ble_eq_true rfl) rfl rfl rfl ?_
  refine sim_goto d_X4_plan_70 ?_
  exact sim_sub [0, 1, 2] rfl (hk14 x1 (x2 + (-1 : Int32)) M)
def f_X4_plan_14 : Nat → Int32 → Int32 → mm_M → Option (mm_M)
  | 0, _, _, _ => none
  | n + 1, x1, x2, M =>
  if x2 < 0 then
    some M
  else
    mm_bi (f_X4_isAllowed x2 M) (fun r1 M1 =>
    if r1 = 0 then
      f_X4_plan_67 (f_X4_plan_14 n) x1 x2 M1
    else
      mm_ck x2 256 (
      mm_let (mI M1 65 x2.toNatClampNeg) (fun v1 =>
      mm_bi (f_X4_all M1) (fun r2 M2 =>
      mm_ck (r2 - x2) 256 (
      mm_let (mI M2 65 (r2 - x2).toNatClampNeg) (fun v2 =>
      mm_let (if v1 < v2 then v2 else v1) (fun v3 =>
      mm_let (if v2 < v1 then v2 else v1) (fun v4 =>
      mm_bv (f_X4_offer x2 v3 v4 x1 M2) (fun M3 =>
      f_X4_plan_67 (f_X4_plan_14 n) x1 x2 M3)))))))))
theorem s_X4_plan_14 (n : Nat) : ∀ (x1 : Int32) (x2 : Int32) (M : mm_M), Sim sysC Y_X4_plan 4 14 [(0, .ref 10), (1, .int (x1)), (2, .int (x2))] [] M mm_fV (f_X4_plan_14 n x1 x2 M) := by
  induction n with
  | zero => intros; exact sim_none
  | succ n ih =>
    intro x1 x2 M
    rw [f_X4_plan_14]
    refine sim_iload_n 2 d_X4_plan_14 rfl rfl ?_
    refine sim_if_lt d_X4_plan_15 ?_ ?_
    ·
      exact sim_vret d_X4_plan_73 rfl
    ·
      refine sim_aload_n 0 d_X4_plan_18 rfl rfl ?_
      refine sim_iload_n 2 d_X4_plan_19 rfl rfl ?_
      refine sim_callVi Y_X4_isAllowed 1 [.int (x2)] [] d_X4_plan_20 lk_X4_58 cv_X4_isAllowed ob_C_10 rfl (by omega) (Nat.le_of_ble_eq_true rfl) (ct_X4_isAllowed x2 M) (fun r1 M1 => ?_)
      refine sim_if_ne d_X4_plan_23 ?_ ?_
      ·
        refine sim_aload_n 0 d_X4_plan_29 rfl rfl ?_
        refine sim_geta d_X4_plan_30 fl_X4_24 ob_C_10 rfl ?_
        refine sim_iload_n 2 d_X4_plan_33 rfl rfl ?_
        refine sim_iald d_X4_plan_34 ar_C_65 ?_
        refine sim_nmi (fun v1 => ?_)
        refine sim_istore_n (L' := [(0, .ref 10), (1, .int (x1)), (2, .int (x2)), (3, .int (v1))]) d_X4_plan_35 rfl (Nat.le_of_ble_eq_true rfl) rfl ?_
        refine sim_aload_n 0 d_X4_plan_36 rfl rfl ?_
        refine sim_geta d_X4_plan_37 fl_X4_24 ob_C_10 rfl ?_
        refine sim_aload_n 0 d_X4_plan_40 rfl rfl ?_
        refine sim_callVi Y_X4_all 0 [] [.ref 65] d_X4_plan_41 lk_X4_54 cv_X4_all ob_C_10 rfl (by omega) (Nat.le_of_ble_eq_true rfl) (ct_X4_all M1) (fun r2 M2 => ?_)
        refine sim_iload_n 2 d_X4_plan_44 rfl rfl ?_
        refine sim_isub d_X4_plan_45 ?_
        refine sim_iald d_X4_plan_46 ar_C_65 ?_
        refine sim_nmi (fun v2 => ?_)
        refine sim_istore (L' := [(0, .ref 10), (1, .int (x1)), (2, .int (x2)), (3, .int (v1)), (4, .int (v2))]) d_X4_plan_47 (Nat.le_of_ble_eq_true rfl) rfl ?_
        refine sim_aload_n 0 d_X4_plan_49 rfl rfl ?_
        refine sim_iload_n 2 d_X4_plan_50 rfl rfl ?_
        refine sim_iload_n 3 d_X4_plan_51 rfl rfl ?_
        refine sim_iload 4 d_X4_plan_52 rfl ?_
        refine sim_mmax d_X4_plan_54 lk_X4_62 cs_J9_max_7cf53.2 cs_J9_max_7cf53.1.1 cs_J9_max_7cf53.1.2.1 (by omega) (Nat.le_of_ble_eq_true rfl) ?_
        refine sim_nmi (fun v3 => ?_)
        refine sim_iload_n 3 d_X4_plan_57 rfl rfl ?_
        refine sim_iload 4 d_X4_plan_58 rfl ?_
        refine sim_mmin d_X4_plan_60 lk_X4_68 cs_J9_min_7cf53.2 cs_J9_min_7cf53.1.1 cs_J9_min_7cf53.1.2.1 (by omega) (Nat.le_of_ble_eq_true rfl) ?_
        refine sim_nmi (fun v4 => ?_)
        refine sim_iload_n 1 d_X4_plan_63 rfl rfl ?_
        refine sim_callVv Y_X4_offer 0 [.int (x2), .int (v3), .int (v4), .int (x1)] [] d_X4_plan_64 lk_X4_71 cv_X4_offer ob_C_10 rfl (by omega) (Nat.le_of_ble_eq_true rfl) (ct_X4_offer x2 v3 v4 x1 M2) (fun M3 => ?_)
        exact sim_sub [0, 1, 2] rfl (s_X4_plan_67 (f_X4_plan_14 n) ih x1 x2 M3)
      ·
        refine sim_goto d_X4_plan_26 ?_
        exact sim_sub [0, 1, 2] rfl (s_X4_plan_67 (f_X4_plan_14 n) ih x1 x2 M1)
def f_X4_plan (a1 : Int32) (M : mm_M) : Option (mm_M) :=
  mm_bv (f_X4_reckonTimes M) (fun M1 =>
  mm_let (sI M1 10 9 (0 : Int32)) (fun M2 =>
  mm_bi (f_X4_all M2) (fun r1 M3 =>
  f_X4_plan_14 mm_fu a1 r1 M3)))
theorem s_X4_plan (a1 : Int32) (M : mm_M) : Sim sysC Y_X4_plan 4 0 [(0, .ref 10), (1, .int (a1))] [] M mm_fV (f_X4_plan a1 M) := by
  unfold f_X4_plan
  refine sim_aload_n 0 d_X4_plan_0 rfl rfl ?_
  refine sim_callVv Y_X4_reckonTimes 3 [] [] d_X4_plan_1 lk_X4_51 cv_X4_reckonTimes ob_C_10 rfl (by omega) (Nat.le_of_ble_eq_true rfl) (ct_X4_reckonTimes M) (fun M1 => ?_)
  refine sim_aload_n 0 d_X4_plan_4 rfl rfl ?_
  refine sim_iconst (0 : Int32) d_X4_plan_5 rfl ?_
  refine sim_putz d_X4_plan_6 fl_X4_41 ob_C_10 rfl (Or.inl rfl) ?_
  refine sim_nmM (fun M2 => ?_)
  refine sim_aload_n 0 d_X4_plan_9 rfl rfl ?_
  refine sim_callVi Y_X4_all 0 [] [] d_X4_plan_10 lk_X4_54 cv_X4_all ob_C_10 rfl (by omega) (Nat.le_of_ble_eq_true rfl) (ct_X4_all M2) (fun r1 M3 => ?_)
  refine sim_istore_n (L' := [(0, .ref 10), (1, .int (a1)), (2, .int (r1))]) d_X4_plan_13 rfl (Nat.le_of_ble_eq_true rfl) rfl ?_
  exact sim_sub [0, 1, 2] rfl (s_X4_plan_14 mm_fu a1 r1 M3)
theorem ct_X4_plan (a1 : Int32) (M : mm_M) : Ct sysC Y_X4_plan 4 [.ref 10, .int (a1)] M mm_fV (f_X4_plan a1 M) :=
  ct_of_sim (by decide) rfl (Nat.le_of_ble_eq_true rfl) (s_X4_plan a1 M)
def f_X4_clear (M : mm_M) : Option (mm_M) :=
  mm_let (sI M 10 7 (0 : Int32)) (fun M1 =>
  some M1)
theorem s_X4_clear (M : mm_M) : Sim sysC Y_X4_clear 0 0 [(0, .ref 10)] [] M mm_fV (f_X4_clear M) := by
  unfold f_X4_clear
  refine sim_aload_n 0 d_X4_clear_0 rfl rfl ?_
  refine sim_iconst (0 : Int32) d_X4_clear_1 rfl ?_
  refine sim_puti d_X4_clear_2 fl_X4_34 ob_C_10 rfl ?_
  refine sim_nmM (fun M1 => ?_)
  exact sim_vret d_X4_clear_5 rfl
theorem ct_X4_clear (M : mm_M) : Ct sysC Y_X4_clear 0 [.ref 10] M mm_fV (f_X4_clear M) :=
  ct_of_sim (by decide) rfl (Nat.le_of_ble_eq_true rfl) (s_X4_clear M)
def f_X11_planWork_82 (k9 : Int32 → Int32 → Int32 → mm_M → Option (mm_M)) (x1 : Int32) (x2 : Int32) (x3 : Int32) (M : mm_M) : Option (mm_M) :=
  k9 x1 x2 (x3 + (1 : Int32)) M
theorem s_X11_planWork_82 (k9 : Int32 → Int32 → Int32 → mm_M → Option (mm_M)) (hk9 : ∀ (x1 : Int32) (x2 : Int32) (x3 : Int32) (M : mm_M), Sim sysC Y_X11_planWork 5 9 [(0, .ref 0), (1, .int (x1)), (2, .int (x2)), (3, .int (x3))] [] M mm_fV (k9 x1 x2 x3 M)) (x1 : Int32) (x2 : Int32) (x3 : Int32) (M : mm_M) : Sim sysC Y_X11_planWork 5 82 [(0, .ref 0), (1, .int (x1)), (2, .int (x2)), (3, .int (x3))] [] M mm_fV (f_X11_planWork_82 k9 x1 x2 x3 M) := by
  unfold f_X11_planWork_82
  refine sim_iinc (v := x3 + (1 : Int32)) (L' := [(0, .ref 0), (1, .int (x1)), (2, .int (x2)), (3, .int (x3 + (1 : Int32)))]) 3 d_X11_planWork_82 (Nat.le_of_ble_eq_true rfl) rfl rfl rfl ?_
  refine sim_goto d_X11_planWork_85 ?_
  exact sim_sub [0, 1, 2, 3] rfl (hk9 x1 x2 (x3 + (1 : Int32)) M)
def f_X11_planWork_9 (k88 : mm_M → Option (mm_M)) : Nat → Int32 → Int32 → Int32 → mm_M → Option (mm_M)
  | 0, _, _, _, _ => none
  | n + 1, x1, x2, x3, M =>
  if (mI M 2 8) ≤ x3 then
    k88 M
  else
    mm_ck x3 40 (
    if (mI M 51 x3.toNatClampNeg) = 0 then
      f_X11_planWork_82 (f_X11_planWork_9 k88 n) x1 x2 x3 M
    else
      mm_ck x3 40 (
      if (mI M 31 x3.toNatClampNeg) = 0 then
        f_X11_planWork_82 (f_X11_planWork_9 k88 n) x1 x2 x3 M
      else
        mm_ck x3 40 (
        mm_ck x3 40 (
        mm_bi (f_X11_mayGo x1 x3 M) (fun r1 M1 =>
        mm_bi (f_X11_mayGo x2 x3 M1) (fun r2 M2 =>
        mm_bv (f_X4_addStop x3 (mI M 28 x3.toNatClampNeg) (mI M 29 x3.toNatClampNeg) r1 r2 M2) (fun M3 =>
        f_X11_planWork_82 (f_X11_planWork_9 k88 n) x1 x2 x3 M3)))))))
theorem s_X11_planWork_9 (k88 : mm_M → Option (mm_M)) (hk88 : ∀  (M : mm_M), Sim sysC Y_X11_planWork 5 88 [(0, .ref 0)] [] M mm_fV (k88 M)) (n : Nat) : ∀ (x1 : Int32) (x2 : Int32) (x3 : Int32) (M : mm_M), Sim sysC Y_X11_planWork 5 9 [(0, .ref 0), (1, .int (x1)), (2, .int (x2)), (3, .int (x3))] [] M mm_fV (f_X11_planWork_9 k88 n x1 x2 x3 M) := by
  induction n with
  | zero => intros; exact sim_none
  | succ n ih =>
    intro x1 x2 x3 M
    rw [f_X11_planWork_9]
    refine sim_iload_n 3 d_X11_planWork_9 rfl rfl ?_
    refine sim_aload_n 0 d_X11_planWork_10 rfl rfl ?_
    refine sim_geta d_X11_planWork_11 fl_X11_20 ob_C_0 rfl ?_
    refine sim_geti d_X11_planWork_14 fl_X11_119 ob_C_2 rfl ?_
    refine sim_icmp_ge d_X11_planWork_17 ?_ ?_
    ·
      exact sim_sub [0] rfl (hk88 M)
    ·
      refine sim_aload_n 0 d_X11_planWork_20 rfl rfl ?_
      refine sim_geta d_X11_planWork_21 fl_X11_39 ob_C_0 rfl ?_
      refine sim_geta d_X11_planWork_24 fl_X11_192 ob_C_6 rfl ?_
      refine sim_iload_n 3 d_X11_planWork_27 rfl rfl ?_
      refine sim_zald d_X11_planWork_28 ar_C_51 ?_
      refine sim_if_eq d_X11_planWork_29 ?_ ?_
      ·
        exact sim_sub [0, 1, 2, 3] rfl (s_X11_planWork_82 (f_X11_planWork_9 k88 n) ih x1 x2 x3 M)
      ·
        refine sim_aload_n 0 d_X11_planWork_32 rfl rfl ?_
        refine sim_geta d_X11_planWork_33 fl_X11_20 ob_C_0 rfl ?_
        refine sim_geta d_X11_planWork_36 fl_X11_138 ob_C_2 rfl ?_
        refine sim_iload_n 3 d_X11_planWork_39 rfl rfl ?_
        refine sim_zald d_X11_planWork_40 ar_C_31 ?_
        refine sim_if_eq d_X11_planWork_41 ?_ ?_
        ·
          exact sim_sub [0, 1, 2, 3] rfl (s_X11_planWork_82 (f_X11_planWork_9 k88 n) ih x1 x2 x3 M)
        ·
          refine sim_aload_n 0 d_X11_planWork_44 rfl rfl ?_
          refine sim_geta d_X11_planWork_45 fl_X11_63 ob_C_0 rfl ?_
          refine sim_iload_n 3 d_X11_planWork_48 rfl rfl ?_
          refine sim_aload_n 0 d_X11_planWork_49 rfl rfl ?_
          refine sim_geta d_X11_planWork_50 fl_X11_20 ob_C_0 rfl ?_
          refine sim_geta d_X11_planWork_53 fl_X11_380 ob_C_2 rfl ?_
          refine sim_iload_n 3 d_X11_planWork_56 rfl rfl ?_
          refine sim_iald d_X11_planWork_57 ar_C_28 ?_
          refine sim_aload_n 0 d_X11_planWork_58 rfl rfl ?_
          refine sim_geta d_X11_planWork_59 fl_X11_20 ob_C_0 rfl ?_
          refine sim_geta d_X11_planWork_62 fl_X11_383 ob_C_2 rfl ?_
          refine sim_iload_n 3 d_X11_planWork_65 rfl rfl ?_
          refine sim_iald d_X11_planWork_66 ar_C_29 ?_
          refine sim_aload_n 0 d_X11_planWork_67 rfl rfl ?_
          refine sim_iload_n 1 d_X11_planWork_68 rfl rfl ?_
          refine sim_iload_n 3 d_X11_planWork_69 rfl rfl ?_
          refine sim_callVi Y_X11_mayGo 3 [.int (x1), .int (x3)] [.int (mI M 29 x3.toNatClampNeg), .int (mI M 28 x3.toNatClampNeg), .int (x3), .ref 10] d_X11_planWork_70 lk_X11_386 cv_X11_mayGo ob_C_0 rfl (by omega) (Nat.le_of_ble_eq_true rfl) (ct_X11_mayGo x1 x3 M) (fun r1 M1 => ?_)
          refine sim_aload_n 0 d_X11_planWork_73 rfl rfl ?_
          refine sim_iload_n 2 d_X11_planWork_74 rfl rfl ?_
          refine sim_iload_n 3 d_X11_planWork_75 rfl rfl ?_
          refine sim_callVi Y_X11_mayGo 3 [.int (x2), .int (x3)] [.int (r1), .int (mI M 29 x3.toNatClampNeg), .int (mI M 28 x3.toNatClampNeg), .int (x3), .ref 10] d_X11_planWork_76 lk_X11_386 cv_X11_mayGo ob_C_0 rfl (by omega) (Nat.le_of_ble_eq_true rfl) (ct_X11_mayGo x2 x3 M1) (fun r2 M2 => ?_)
          refine sim_callVv Y_X4_addStop 0 [.int (x3), .int (mI M 28 x3.toNatClampNeg), .int (mI M 29 x3.toNatClampNeg), .int (r1), .int (r2)] [] d_X11_planWork_79 lk_X11_389 cv_X4_addStop ob_C_10 rfl (by omega) (Nat.le_of_ble_eq_true rfl) (ct_X4_addStop x3 (mI M 28 x3.toNatClampNeg) (mI M 29 x3.toNatClampNeg) r1 r2 M2) (fun M3 => ?_)
          exact sim_sub [0, 1, 2, 3] rfl (s_X11_planWork_82 (f_X11_planWork_9 k88 n) ih x1 x2 x3 M3)
def f_X11_planWork_88 (M : mm_M) : Option (mm_M) :=
  mm_bv (f_X4_plan (mI M 0 17) M) (fun M1 =>
  some M1)
theorem s_X11_planWork_88 (M : mm_M) : Sim sysC Y_X11_planWork 5 88 [(0, .ref 0)] [] M mm_fV (f_X11_planWork_88 M) := by
  unfold f_X11_planWork_88
  refine sim_aload_n 0 d_X11_planWork_88 rfl rfl ?_
  refine sim_geta d_X11_planWork_89 fl_X11_63 ob_C_0 rfl ?_
  refine sim_aload_n 0 d_X11_planWork_92 rfl rfl ?_
  refine sim_geti d_X11_planWork_93 fl_X11_105 ob_C_0 rfl ?_
  refine sim_callVv Y_X4_plan 4 [.int (mI M 0 17)] [] d_X11_planWork_96 lk_X11_393 cv_X4_plan ob_C_10 rfl (by omega) (Nat.le_of_ble_eq_true rfl) (ct_X4_plan (mI M 0 17) M) (fun M1 => ?_)
  exact sim_vret d_X11_planWork_99 rfl
def f_X11_planWork (a1 : Int32) (a2 : Int32) (M : mm_M) : Option (mm_M) :=
  mm_bv (f_X4_clear M) (fun M1 =>
  f_X11_planWork_9 f_X11_planWork_88 mm_fu a1 a2 (0 : Int32) M1)
theorem s_X11_planWork (a1 : Int32) (a2 : Int32) (M : mm_M) : Sim sysC Y_X11_planWork 5 0 [(0, .ref 0), (1, .int (a1)), (2, .int (a2))] [] M mm_fV (f_X11_planWork a1 a2 M) := by
  unfold f_X11_planWork
  refine sim_aload_n 0 d_X11_planWork_0 rfl rfl ?_
  refine sim_geta d_X11_planWork_1 fl_X11_63 ob_C_0 rfl ?_
  refine sim_callVv Y_X4_clear 0 [] [] d_X11_planWork_4 lk_X11_379 cv_X4_clear ob_C_10 rfl (by omega) (Nat.le_of_ble_eq_true rfl) (ct_X4_clear M) (fun M1 => ?_)
  refine sim_iconst (0 : Int32) d_X11_planWork_7 rfl ?_
  refine sim_istore_n (L' := [(0, .ref 0), (1, .int (a1)), (2, .int (a2)), (3, .int ((0 : Int32)))]) d_X11_planWork_8 rfl (Nat.le_of_ble_eq_true rfl) rfl ?_
  exact sim_sub [0, 1, 2, 3] rfl (s_X11_planWork_9 f_X11_planWork_88 s_X11_planWork_88 mm_fu a1 a2 (0 : Int32) M1)
theorem ct_X11_planWork (a1 : Int32) (a2 : Int32) (M : mm_M) : Ct sysC Y_X11_planWork 5 [.ref 0, .int (a1), .int (a2)] M mm_fV (f_X11_planWork a1 a2 M) :=
  ct_of_sim (by decide) rfl (Nat.le_of_ble_eq_true rfl) (s_X11_planWork a1 a2 M)
def f_X11_workRefusal (a1 : Int32) (a2 : Int32) (M : mm_M) : Option (Int32 × mm_M) :=
  mm_bi (f_X0_has a1 M) (fun r1 M1 =>
  if r1 = 0 then
    some ((-1 : Int32), M1)
  else
    mm_bi (f_X0_has a2 M1) (fun r2 M2 =>
    if r2 = 0 then
      some ((-1 : Int32), M2)
    else
      if a1 = a2 then
        some ((-1 : Int32), M2)
      else
        mm_ck a1 8 (
        if (mI M2 34 a1.toNatClampNeg) = 0 then
          some ((-5 : Int32), M2)
        else
          mm_ck a2 8 (
          if (mI M2 34 a2.toNatClampNeg) = 0 then
            some ((-5 : Int32), M2)
          else
            if (mI M2 6 6) = 0 then
              some ((-5 : Int32), M2)
            else
              some ((0 : Int32), M2)))))
theorem s_X11_workRefusal (a1 : Int32) (a2 : Int32) (M : mm_M) : Sim sysC Y_X11_workRefusal 1 0 [(0, .ref 0), (1, .int (a1)), (2, .int (a2))] [] M mm_fI (f_X11_workRefusal a1 a2 M) := by
  unfold f_X11_workRefusal
  refine sim_aload_n 0 d_X11_workRefusal_0 rfl rfl ?_
  refine sim_geta d_X11_workRefusal_1 fl_X11_25 ob_C_0 rfl ?_
  refine sim_iload_n 1 d_X11_workRefusal_4 rfl rfl ?_
  refine sim_callVi Y_X0_has 0 [.int (a1)] [] d_X11_workRefusal_5 lk_X11_151 cv_X0_has ob_C_3 rfl (by omega) (Nat.le_of_ble_eq_true rfl) (ct_X0_has a1 M) (fun r1 M1 => ?_)
  refine sim_if_eq d_X11_workRefusal_8 ?_ ?_
  ·
    refine sim_iconst (-1 : Int32) d_X11_workRefusal_27 rfl ?_
    exact sim_iret d_X11_workRefusal_28 rfl
  ·
    refine sim_aload_n 0 d_X11_workRefusal_11 rfl rfl ?_
    refine sim_geta d_X11_workRefusal_12 fl_X11_25 ob_C_0 rfl ?_
    refine sim_iload_n 2 d_X11_workRefusal_15 rfl rfl ?_
    refine sim_callVi Y_X0_has 0 [.int (a2)] [] d_X11_workRefusal_16 lk_X11_151 cv_X0_has ob_C_3 rfl (by omega) (Nat.le_of_ble_eq_true rfl) (ct_X0_has a2 M1) (fun r2 M2 => ?_)
    refine sim_if_eq d_X11_workRefusal_19 ?_ ?_
    ·
      refine sim_iconst (-1 : Int32) d_X11_workRefusal_27 rfl ?_
      exact sim_iret d_X11_workRefusal_28 rfl
    ·
      refine sim_iload_n 1 d_X11_workRefusal_22 rfl rfl ?_
      refine sim_iload_n 2 d_X11_workRefusal_23 rfl rfl ?_
      refine sim_icmp_ne d_X11_workRefusal_24 ?_ ?_
      ·
        refine sim_aload_n 0 d_X11_workRefusal_29 rfl rfl ?_
        refine sim_geta d_X11_workRefusal_30 fl_X11_25 ob_C_0 rfl ?_
        refine sim_geta d_X11_workRefusal_33 fl_X11_158 ob_C_3 rfl ?_
        refine sim_iload_n 1 d_X11_workRefusal_36 rfl rfl ?_
        refine sim_zald d_X11_workRefusal_37 ar_C_34 ?_
        refine sim_if_eq d_X11_workRefusal_38 ?_ ?_
        ·
          refine sim_bipush (-5 : Int32) d_X11_workRefusal_63 rfl ?_
          exact sim_iret d_X11_workRefusal_65 rfl
        ·
          refine sim_aload_n 0 d_X11_workRefusal_41 rfl rfl ?_
          refine sim_geta d_X11_workRefusal_42 fl_X11_25 ob_C_0 rfl ?_
          refine sim_geta d_X11_workRefusal_45 fl_X11_158 ob_C_3 rfl ?_
          refine sim_iload_n 2 d_X11_workRefusal_48 rfl rfl ?_
          refine sim_zald d_X11_workRefusal_49 ar_C_34 ?_
          refine sim_if_eq d_X11_workRefusal_50 ?_ ?_
          ·
            refine sim_bipush (-5 : Int32) d_X11_workRefusal_63 rfl ?_
            exact sim_iret d_X11_workRefusal_65 rfl
          ·
            refine sim_aload_n 0 d_X11_workRefusal_53 rfl rfl ?_
            refine sim_geta d_X11_workRefusal_54 fl_X11_39 ob_C_0 rfl ?_
            refine sim_geti d_X11_workRefusal_57 fl_X11_191 ob_C_6 rfl ?_
            refine sim_if_ne d_X11_workRefusal_60 ?_ ?_
            ·
              refine sim_iconst (0 : Int32) d_X11_workRefusal_66 rfl ?_
              exact sim_iret d_X11_workRefusal_67 rfl
            ·
              refine sim_bipush (-5 : Int32) d_X11_workRefusal_63 rfl ?_
              exact sim_iret d_X11_workRefusal_65 rfl
      ·
        refine sim_iconst (-1 : Int32) d_X11_workRefusal_27 rfl ?_
        exact sim_iret d_X11_workRefusal_28 rfl
theorem ct_X11_workRefusal (a1 : Int32) (a2 : Int32) (M : mm_M) : Ct sysC Y_X11_workRefusal 1 [.ref 0, .int (a1), .int (a2)] M mm_fI (f_X11_workRefusal a1 a2 M) :=
  ct_of_sim (by decide) rfl (Nat.le_of_ble_eq_true rfl) (s_X11_workRefusal a1 a2 M)
def f_X11_work_36 (x1 : Int32) (x2 : Int32) (x3 : Int32) (M : mm_M) : Option (Int32 × mm_M) :=
  mm_bv (f_X11_planWork x1 x2 M) (fun M1 =>
  if (mI M1 10 9) = 0 then
    some ((-9 : Int32), M1)
  else
    if x3 = 0 then
      some (mI M1 10 10, M1)
    else
      some (mI M1 10 11, M1))
theorem s_X11_work_36 (x1 : Int32) (x2 : Int32) (x3 : Int32) (M : mm_M) : Sim sysC Y_X11_work 6 36 [(0, .ref 0), (1, .int (x1)), (2, .int (x2)), (3, .int (x3))] [] M mm_fI (f_X11_work_36 x1 x2 x3 M) := by
  unfold f_X11_work_36
  refine sim_aload_n 0 d_X11_work_36 rfl rfl ?_
  refine sim_iload_n 1 d_X11_work_37 rfl rfl ?_
  refine sim_iload_n 2 d_X11_work_38 rfl rfl ?_
  refine sim_callVv Y_X11_planWork 5 [.int (x1), .int (x2)] [] d_X11_work_39 lk_X11_306 cv_X11_planWork ob_C_0 rfl (by omega) (Nat.le_of_ble_eq_true rfl) (ct_X11_planWork x1 x2 M) (fun M1 => ?_)
  refine sim_aload_n 0 d_X11_work_42 rfl rfl ?_
  refine sim_geta d_X11_work_43 fl_X11_63 ob_C_0 rfl ?_
  refine sim_getz d_X11_work_46 fl_X11_309 ob_C_10 rfl ?_
  refine sim_if_ne d_X11_work_49 ?_ ?_
  ·
    refine sim_iload_n 3 d_X11_work_55 rfl rfl ?_
    refine sim_if_ne d_X11_work_56 ?_ ?_
    ·
      refine sim_aload_n 0 d_X11_work_69 rfl rfl ?_
      refine sim_geta d_X11_work_70 fl_X11_63 ob_C_0 rfl ?_
      refine sim_geti d_X11_work_73 fl_X11_316 ob_C_10 rfl ?_
      exact sim_iret d_X11_work_76 rfl
    ·
      refine sim_aload_n 0 d_X11_work_59 rfl rfl ?_
      refine sim_geta d_X11_work_60 fl_X11_63 ob_C_0 rfl ?_
      refine sim_geti d_X11_work_63 fl_X11_313 ob_C_10 rfl ?_
      refine sim_goto d_X11_work_66 ?_
      exact sim_iret d_X11_work_76 rfl
  ·
    refine sim_bipush (-9 : Int32) d_X11_work_52 rfl ?_
    exact sim_iret d_X11_work_54 rfl
def f_X11_work (a1 : Int32) (a2 : Int32) (a3 : Int32) (M : mm_M) : Option (Int32 × mm_M) :=
  mm_bi (f_X11_workRefusal a1 a2 M) (fun r1 M1 =>
  if r1 = 0 then
    if a3 = 0 then
      f_X11_work_36 a1 a2 a3 M1
    else
      if a3 = (1 : Int32) then
        f_X11_work_36 a1 a2 a3 M1
      else
        mm_bi (f_X11_refuse (-2 : Int32) M1) (fun r2 M2 =>
        some (r2, M2))
  else
    mm_bi (f_X11_refuse r1 M1) (fun r3 M3 =>
    some (r3, M3)))
theorem s_X11_work (a1 : Int32) (a2 : Int32) (a3 : Int32) (M : mm_M) : Sim sysC Y_X11_work 6 0 [(0, .ref 0), (1, .int (a1)), (2, .int (a2)), (3, .int (a3))] [] M mm_fI (f_X11_work a1 a2 a3 M) := by
  unfold f_X11_work
  refine sim_aload_n 0 d_X11_work_0 rfl rfl ?_
  refine sim_iload_n 1 d_X11_work_1 rfl rfl ?_
  refine sim_iload_n 2 d_X11_work_2 rfl rfl ?_
  refine sim_callVi Y_X11_workRefusal 1 [.int (a1), .int (a2)] [] d_X11_work_3 lk_X11_303 cv_X11_workRefusal ob_C_0 rfl (by omega) (Nat.le_of_ble_eq_true rfl) (ct_X11_workRefusal a1 a2 M) (fun r1 M1 => ?_)
  refine sim_istore (L' := [(0, .ref 0), (1, .int (a1)), (2, .int (a2)), (3, .int (a3)), (4, .int (r1))]) d_X11_work_6 (Nat.le_of_ble_eq_true rfl) rfl ?_
  refine sim_iload 4 d_X11_work_8 rfl ?_
  refine sim_if_eq d_X11_work_10 ?_ ?_
  ·
    refine sim_iload_n 3 d_X11_work_20 rfl rfl ?_
    refine sim_if_eq d_X11_work_21 ?_ ?_
    ·
      exact sim_sub [0, 1, 2, 3] rfl (s_X11_work_36 a1 a2 a3 M1)
    ·
      refine sim_iload_n 3 d_X11_work_24 rfl rfl ?_
      refine sim_iconst (1 : Int32) d_X11_work_25 rfl ?_
      refine sim_icmp_eq d_X11_work_26 ?_ ?_
      ·
        exact sim_sub [0, 1, 2, 3] rfl (s_X11_work_36 a1 a2 a3 M1)
      ·
        refine sim_aload_n 0 d_X11_work_29 rfl rfl ?_
        refine sim_bipush (-2 : Int32) d_X11_work_30 rfl ?_
        refine sim_callVi Y_X11_refuse 0 [.int ((-2 : Int32))] [] d_X11_work_32 lk_X11_108 cv_X11_refuse ob_C_0 rfl (by omega) (Nat.le_of_ble_eq_true rfl) (ct_X11_refuse (-2 : Int32) M1) (fun r2 M2 => ?_)
        exact sim_iret d_X11_work_35 rfl
  ·
    refine sim_aload_n 0 d_X11_work_13 rfl rfl ?_
    refine sim_iload 4 d_X11_work_14 rfl ?_
    refine sim_callVi Y_X11_refuse 0 [.int (r1)] [] d_X11_work_16 lk_X11_108 cv_X11_refuse ob_C_0 rfl (by omega) (Nat.le_of_ble_eq_true rfl) (ct_X11_refuse r1 M1) (fun r3 M3 => ?_)
    exact sim_iret d_X11_work_19 rfl
theorem ct_X11_work (a1 : Int32) (a2 : Int32) (a3 : Int32) (M : mm_M) : Ct sysC Y_X11_work 6 [.ref 0, .int (a1), .int (a2), .int (a3)] M mm_fI (f_X11_work a1 a2 a3 M) :=
  ct_of_sim (by decide) rfl (Nat.le_of_ble_eq_true rfl) (s_X11_work a1 a2 a3 M)
def f_X4_nextStop_78 (k9 : Int32 → Int32 → Int32 → Int32 → Int32 → mm_M → Option (Int32 × mm_M)) (x1 : Int32) (x2 : Int32) (x3 : Int32) (x4 : Int32) (x5 : Int32) (M : mm_M) : Option (Int32 × mm_M) :=
  k9 x1 x2 x3 x4 (x5 + (1 : Int32)) M
theorem s_X4_nextStop_78 (k9 : Int32 → Int32 → Int32 → Int32 → Int32 → mm_M → Option (Int32 × mm_M)) (hk9 : ∀ (x1 : Int32) (x2 : Int32) (x3 : Int32) (x4 : Int32) (x5 : Int32) (M : mm_M), Sim sysC Y_X4_nextStop 2 9 [(0, .ref 10), (1, .int (x1)), (2, .int (x2)), (3, .int (x3)), (4, .int (x4)), (5, .int (x5))] [] M mm_fI (k9 x1 x2 x3 x4 x5 M)) (x1 : Int32) (x2 : Int32) (x3 : Int32) (x4 : Int32) (x5 : Int32) (M : mm_M) : Sim sysC Y_X4_nextStop 2 78 [(0, .ref 10), (1, .int (x1)), (2, .int (x2)), (3, .int (x3)), (4, .int (x4)), (5, .int (x5))] [] M mm_fI (f_X4_nextStop_78 k9 x1 x2 x3 x4 x5 M) := by
  unfold f_X4_nextStop_78
  refine sim_iinc (v := x5 + (1 : Int32)) (L' := [(0, .ref 10), (1, .int (x1)), (2, .int (x2)), (3, .int (x3)), (4, .int (x4)), (5, .int (x5 + (1 : Int32)))]) 5 d_X4_nextStop_78 (Nat.le_of_ble_eq_true rfl) rfl rfl rfl ?_
  refine sim_goto d_X4_nextStop_81 ?_
  exact sim_sub [0, 1, 2, 3, 4, 5] rfl (hk9 x1 x2 x3 x4 (x5 + (1 : Int32)) M)
def f_X4_nextStop_9 : Nat → Int32 → Int32 → Int32 → Int32 → Int32 → mm_M → Option (Int32 × mm_M)
  | 0, _, _, _, _, _, _ => none
  | n + 1, x1, x2, x3, x4, x5, M =>
  if (mI M 10 7) ≤ x5 then
    some (x4, M)
  else
    mm_bi (f_X4_bit x5 M) (fun r1 M1 =>
    if (x2 &&& r1) = 0 then
      f_X4_nextStop_78 (f_X4_nextStop_9 n) x1 x2 x3 x4 x5 M1
    else
      mm_bi (f_X4_leg x1 x5 M1) (fun r2 M2 =>
      mm_ck ((x2 * (8 : Int32)) + x5) 2048 (
      if x3 ≤ (r2 + (mI M2 64 ((x2 * (8 : Int32)) + x5).toNatClampNeg)) then
        f_X4_nextStop_78 (f_X4_nextStop_9 n) x1 x2 x3 x4 x5 M2
      else
        mm_bi (f_X4_leg x1 x5 M2) (fun r3 M3 =>
        mm_ck ((x2 * (8 : Int32)) + x5) 2048 (
        mm_let (r3 + (mI M3 64 ((x2 * (8 : Int32)) + x5).toNatClampNeg)) (fun v1 =>
        f_X4_nextStop_78 (f_X4_nextStop_9 n) x1 x2 v1 x5 x5 M3))))))
theorem s_X4_nextStop_9 (n : Nat) : ∀ (x1 : Int32) (x2 : Int32) (x3 : Int32) (x4 : Int32) (x5 : Int32) (M : mm_M), Sim sysC Y_X4_nextStop 2 9 [(0, .ref 10), (1, .int (x1)), (2, .int (x2)), (3, .int (x3)), (4, .int (x4)), (5, .int (x5))] [] M mm_fI (f_X4_nextStop_9 n x1 x2 x3 x4 x5 M) := by
  induction n with
  | zero => intros; exact sim_none
  | succ n ih =>
    intro x1 x2 x3 x4 x5 M
    rw [f_X4_nextStop_9]
    refine sim_iload 5 d_X4_nextStop_9 rfl ?_
    refine sim_aload_n 0 d_X4_nextStop_11 rfl rfl ?_
    refine sim_geti d_X4_nextStop_12 fl_X4_34 ob_C_10 rfl ?_
    refine sim_icmp_ge d_X4_nextStop_15 ?_ ?_
    ·
      refine sim_iload 4 d_X4_nextStop_84 rfl ?_
      exact sim_iret d_X4_nextStop_86 rfl
    ·
      refine sim_iload_n 2 d_X4_nextStop_18 rfl rfl ?_
      refine sim_aload_n 0 d_X4_nextStop_19 rfl rfl ?_
      refine sim_iload 5 d_X4_nextStop_20 rfl ?_
      refine sim_callVi Y_X4_bit 0 [.int (x5)] [.int (x2)] d_X4_nextStop_22 lk_X4_75 cv_X4_bit ob_C_10 rfl (by omega) (Nat.le_of_ble_eq_true rfl) (ct_X4_bit x5 M) (fun r1 M1 => ?_)
      refine sim_iand d_X4_nextStop_25 ?_
      refine sim_if_eq d_X4_nextStop_26 ?_ ?_
      ·
        exact sim_sub [0, 1, 2, 3, 4, 5] rfl (s_X4_nextStop_78 (f_X4_nextStop_9 n) ih x1 x2 x3 x4 x5 M1)
      ·
        refine sim_aload_n 0 d_X4_nextStop_29 rfl rfl ?_
        refine sim_iload_n 1 d_X4_nextStop_30 rfl rfl ?_
        refine sim_iload 5 d_X4_nextStop_31 rfl ?_
        refine sim_callVi Y_X4_leg 1 [.int (x1), .int (x5)] [] d_X4_nextStop_33 lk_X4_83 cv_X4_leg ob_C_10 rfl (by omega) (Nat.le_of_ble_eq_true rfl) (ct_X4_leg x1 x5 M1) (fun r2 M2 => ?_)
        refine sim_aload_n 0 d_X4_nextStop_36 rfl rfl ?_
        refine sim_geta d_X4_nextStop_37 fl_X4_21 ob_C_10 rfl ?_
        refine sim_iload_n 2 d_X4_nextStop_40 rfl rfl ?_
        refine sim_bipush (8 : Int32) d_X4_nextStop_41 rfl ?_
        refine sim_imul d_X4_nextStop_43 ?_
        refine sim_iload 5 d_X4_nextStop_44 rfl ?_
        refine sim_iadd d_X4_nextStop_46 ?_
        refine sim_iald d_X4_nextStop_47 ar_C_64 ?_
        refine sim_iadd d_X4_nextStop_48 ?_
        refine sim_iload_n 3 d_X4_nextStop_49 rfl rfl ?_
        refine sim_icmp_ge d_X4_nextStop_50 ?_ ?_
        ·
          exact sim_sub [0, 1, 2, 3, 4, 5] rfl (s_X4_nextStop_78 (f_X4_nextStop_9 n) ih x1 x2 x3 x4 x5 M2)
        ·
          refine sim_aload_n 0 d_X4_nextStop_53 rfl rfl ?_
          refine sim_iload_n 1 d_X4_nextStop_54 rfl rfl ?_
          refine sim_iload 5 d_X4_nextStop_55 rfl ?_
          refine sim_callVi Y_X4_leg 1 [.int (x1), .int (x5)] [] d_X4_nextStop_57 lk_X4_83 cv_X4_leg ob_C_10 rfl (by omega) (Nat.le_of_ble_eq_true rfl) (ct_X4_leg x1 x5 M2) (fun r3 M3 => ?_)
          refine sim_aload_n 0 d_X4_nextStop_60 rfl rfl ?_
          refine sim_geta d_X4_nextStop_61 fl_X4_21 ob_C_10 rfl ?_
          refine sim_iload_n 2 d_X4_nextStop_64 rfl rfl ?_
          refine sim_bipush (8 : Int32) d_X4_nextStop_65 rfl ?_
          refine sim_imul d_X4_nextStop_67 ?_
          refine sim_iload 5 d_X4_nextStop_68 rfl ?_
          refine sim_iadd d_X4_nextStop_70 ?_
          refine sim_iald d_X4_nextStop_71 ar_C_64 ?_
          refine sim_iadd d_X4_nextStop_72 ?_
          refine sim_nmi (fun v1 => ?_)
          refine sim_istore_n (L' := [(0, .ref 10), (1, .int (x1)), (2, .int (x2)), (4, .int (x4)), (5, .int (x5)), (3, .int (v1))]) d_X4_nextStop_73 rfl (Nat.le_of_ble_eq_true rfl) rfl ?_
          refine sim_iload 4 d_X4_nextStop_74 rfl ?_
          refine sim_istore (L' := [(0, .ref 10), (1, .int (x1)), (2, .int (x2)), (5, .int (x5)), (3, .int (v1)), (4, .int (x5))]) d_X4_nextStop_76 (Nat.le_of_ble_eq_true rfl) rfl ?_
          exact sim_sub [0, 1, 2, 4, 5, 3] rfl (s_X4_nextStop_78 (f_X4_nextStop_9 n) ih x1 x2 v1 x5 x5 M3)
def f_X4_nextStop (a1 : Int32) (a2 : Int32) (M : mm_M) : Option (Int32 × mm_M) :=
  f_X4_nextStop_9 mm_fu a1 a2 (1000000 : Int32) (0 : Int32) (0 : Int32) M
theorem s_X4_nextStop (a1 : Int32) (a2 : Int32) (M : mm_M) : Sim sysC Y_X4_nextStop 2 0 [(0, .ref 10), (1, .int (a1)), (2, .int (a2))] [] M mm_fI (f_X4_nextStop a1 a2 M) := by
  unfold f_X4_nextStop
  refine sim_ldc (1000000 : Int32) d_X4_nextStop_0 kn_X4_79 ?_
  refine sim_istore_n (L' := [(0, .ref 10), (1, .int (a1)), (2, .int (a2)), (3, .int ((1000000 : Int32)))]) d_X4_nextStop_2 rfl (Nat.le_of_ble_eq_true rfl) rfl ?_
  refine sim_iconst (0 : Int32) d_X4_nextStop_3 rfl ?_
  refine sim_istore (L' := [(0, .ref 10), (1, .int (a1)), (2, .int (a2)), (3, .int ((1000000 : Int32))), (4, .int ((0 : Int32)))]) d_X4_nextStop_4 (Nat.le_of_ble_eq_true rfl) rfl ?_
  refine sim_iconst (0 : Int32) d_X4_nextStop_6 rfl ?_
  refine sim_istore (L' := [(0, .ref 10), (1, .int (a1)), (2, .int (a2)), (3, .int ((1000000 : Int32))), (4, .int ((0 : Int32))), (5, .int ((0 : Int32)))]) d_X4_nextStop_7 (Nat.le_of_ble_eq_true rfl) rfl ?_
  exact sim_sub [0, 1, 2, 3, 4, 5] rfl (s_X4_nextStop_9 mm_fu a1 a2 (1000000 : Int32) (0 : Int32) (0 : Int32) M)
theorem ct_X4_nextStop (a1 : Int32) (a2 : Int32) (M : mm_M) : Ct sysC Y_X4_nextStop 2 [.ref 10, .int (a1), .int (a2)] M mm_fI (f_X4_nextStop a1 a2 M) :=
  ct_of_sim (by decide) rfl (Nat.le_of_ble_eq_true rfl) (s_X4_nextStop a1 a2 M)
def f_X4_stopAt_43 (k80 : Int32 → mm_M → Option (Int32 × mm_M)) : Nat → Int32 → Int32 → Int32 → Int32 → mm_M → Option (Int32 × mm_M)
  | 0, _, _, _, _, _ => none
  | n + 1, x2, x3, x4, x5, M =>
  if x2 < x5 then
    k80 x4 M
  else
    if (8 : Int32) ≤ x5 then
      k80 x4 M
    else
      mm_bi (f_X4_nextStop x4 x3 M) (fun r1 M1 =>
      mm_bi (f_X4_bit r1 M1) (fun r2 M2 =>
      mm_let (x3 - r2) (fun v1 =>
      f_X4_stopAt_43 k80 n x2 v1 r1 (x5 + (1 : Int32)) M2)))
theorem s_X4_stopAt_43 (k80 : Int32 → mm_M → Option (Int32 × mm_M)) (hk80 : ∀ (x4 : Int32) (M : mm_M), Sim sysC Y_X4_stopAt 3 80 [(0, .ref 10), (4, .int (x4))] [] M mm_fI (k80 x4 M)) (n : Nat) : ∀ (x2 : Int32) (x3 : Int32) (x4 : Int32) (x5 : Int32) (M : mm_M), Sim sysC Y_X4_stopAt 3 43 [(0, .ref 10), (2, .int (x2)), (3, .int (x3)), (4, .int (x4)), (5, .int (x5))] [] M mm_fI (f_X4_stopAt_43 k80 n x2 x3 x4 x5 M) := by
  induction n with
  | zero => intros; exact sim_none
  | succ n ih =>
    intro x2 x3 x4 x5 M
    rw [f_X4_stopAt_43]
    refine sim_iload 4 d_X4_stopAt_43 rfl ?_
    refine sim_iload_n 1 d_X4_stopAt_45 rfl rfl ?_
    refine sim_icmp_gt d_X4_stopAt_46 ?_ ?_
    ·
      exact sim_sub [0, 3] rfl (hk80 x4 M)
    ·
      refine sim_iload 4 d_X4_stopAt_49 rfl ?_
      refine sim_bipush (8 : Int32) d_X4_stopAt_51 rfl ?_
      refine sim_icmp_ge d_X4_stopAt_53 ?_ ?_
      ·
        exact sim_sub [0, 3] rfl (hk80 x4 M)
      ·
        refine sim_aload_n 0 d_X4_stopAt_56 rfl rfl ?_
        refine sim_iload 3 d_X4_stopAt_57 rfl ?_
        refine sim_iload_n 2 d_X4_stopAt_59 rfl rfl ?_
        refine sim_callVi Y_X4_nextStop 2 [.int (x4), .int (x3)] [] d_X4_stopAt_60 lk_X4_94 cv_X4_nextStop ob_C_10 rfl (by omega) (Nat.le_of_ble_eq_true rfl) (ct_X4_nextStop x4 x3 M) (fun r1 M1 => ?_)
        refine sim_istore (L' := [(0, .ref 10), (2, .int (x2)), (3, .int (x3)), (5, .int (x5)), (4, .int (r1))]) d_X4_stopAt_63 (Nat.le_of_ble_eq_true rfl) rfl ?_
        refine sim_iload_n 2 d_X4_stopAt_65 rfl rfl ?_
        refine sim_aload_n 0 d_X4_stopAt_66 rfl rfl ?_
        refine sim_iload 4 d_X4_stopAt_67 rfl ?_
        refine sim_callVi Y_X4_bit 0 [.int (r1)] [.int (x3)] d_X4_stopAt_69 lk_X4_75 cv_X4_bit ob_C_10 rfl (by omega) (Nat.le_of_ble_eq_true rfl) (ct_X4_bit r1 M1) (fun r2 M2 => ?_)
        refine sim_isub d_X4_stopAt_72 ?_
        refine sim_nmi (fun v1 => ?_)
        refine sim_istore_n (L' := [(0, .ref 10), (2, .int (x2)), (5, .int (x5)), (4, .int (r1)), (3, .int (v1))]) d_X4_stopAt_73 rfl (Nat.le_of_ble_eq_true rfl) rfl ?_
        refine sim_iinc (v := x5 + (1 : Int32)) (L' := [(0, .ref 10), (2, .int (x2)), (4, .int (r1)), (3, .int (v1)), (5, .int (x5 + (1 : Int32)))]) 2 d_X4_stopAt_74 (Nat.le_of_ble_eq_true rfl) rfl rfl rfl ?_
        refine sim_goto d_X4_stopAt_77 ?_
        exact sim_sub [0, 1, 3, 2, 4] rfl (ih x2 v1 r1 (x5 + (1 : Int32)) M2)
def f_X4_stopAt_80 (x4 : Int32) (M : mm_M) : Option (Int32 × mm_M) :=
  if (8 : Int32) ≤ x4 then
    some ((-9 : Int32), M)
  else
    mm_ck x4 8 (
    some (mI M 61 x4.toNatClampNeg, M))
theorem s_X4_stopAt_80 (x4 : Int32) (M : mm_M) : Sim sysC Y_X4_stopAt 3 80 [(0, .ref 10), (4, .int (x4))] [] M mm_fI (f_X4_stopAt_80 x4 M) := by
  unfold f_X4_stopAt_80
  refine sim_iload 1 d_X4_stopAt_80 rfl ?_
  refine sim_bipush (8 : Int32) d_X4_stopAt_82 rfl ?_
  refine sim_icmp_ge d_X4_stopAt_84 ?_ ?_
  ·
    refine sim_bipush (-9 : Int32) d_X4_stopAt_97 rfl ?_
    exact sim_iret d_X4_stopAt_99 rfl
  ·
    refine sim_aload_n 0 d_X4_stopAt_87 rfl rfl ?_
    refine sim_geta d_X4_stopAt_88 fl_X4_11 ob_C_10 rfl ?_
    refine sim_iload 1 d_X4_stopAt_91 rfl ?_
    refine sim_iald d_X4_stopAt_93 ar_C_61 ?_
    refine sim_goto d_X4_stopAt_94 ?_
    exact sim_iret d_X4_stopAt_99 rfl
def f_X4_stopAt_20 (x2 : Int32) (t0 : Int32) (M : mm_M) : Option (Int32 × mm_M) :=
  if x2 < 0 then
    some ((-9 : Int32), M)
  else
    mm_bi (f_J6_bitCount_0f7a4 t0 M) (fun r1 M1 =>
    if x2 < r1 then
      f_X4_stopAt_43 f_X4_stopAt_80 mm_fu x2 t0 (8 : Int32) (0 : Int32) M1
    else
      some ((-9 : Int32), M1))
theorem s_X4_stopAt_20 (x2 : Int32) (t0 : Int32) (M : mm_M) : Sim sysC Y_X4_stopAt 3 20 [(0, .ref 10), (2, .int (x2))] [.int (t0)] M mm_fI (f_X4_stopAt_20 x2 t0 M) := by
  unfold f_X4_stopAt_20
  refine sim_istore_n (L' := [(0, .ref 10), (2, .int (x2)), (3, .int (t0))]) d_X4_stopAt_20 rfl (Nat.le_of_ble_eq_true rfl) rfl ?_
  refine sim_iload_n 1 d_X4_stopAt_21 rfl rfl ?_
  refine sim_if_lt d_X4_stopAt_22 ?_ ?_
  ·
    refine sim_bipush (-9 : Int32) d_X4_stopAt_33 rfl ?_
    exact sim_iret d_X4_stopAt_35 rfl
  ·
    refine sim_iload_n 1 d_X4_stopAt_25 rfl rfl ?_
    refine sim_iload_n 2 d_X4_stopAt_26 rfl rfl ?_
    refine sim_callSi Y_J6_bitCount_0f7a4 0 [.int (t0)] [.int (x2)] d_X4_stopAt_27 lk_X4_86 cs_J6_bitCount_0f7a4 rfl (by omega) (Nat.le_of_ble_eq_true rfl) (ct_J6_bitCount_0f7a4 t0 M) (fun r1 M1 => ?_)
    refine sim_icmp_lt d_X4_stopAt_30 ?_ ?_
    ·
      refine sim_bipush (8 : Int32) d_X4_stopAt_36 rfl ?_
      refine sim_istore (L' := [(0, .ref 10), (2, .int (x2)), (3, .int (t0)), (4, .int ((8 : Int32)))]) d_X4_stopAt_38 (Nat.le_of_ble_eq_true rfl) rfl ?_
      refine sim_iconst (0 : Int32) d_X4_stopAt_40 rfl ?_
      refine sim_istore (L' := [(0, .ref 10), (2, .int (x2)), (3, .int (t0)), (4, .int ((8 : Int32))), (5, .int ((0 : Int32)))]) d_X4_stopAt_41 (Nat.le_of_ble_eq_true rfl) rfl ?_
      exact sim_sub [0, 1, 2, 3, 4] rfl (s_X4_stopAt_43 f_X4_stopAt_80 s_X4_stopAt_80 mm_fu x2 t0 (8 : Int32) (0 : Int32) M1)
    ·
      refine sim_bipush (-9 : Int32) d_X4_stopAt_33 rfl ?_
      exact sim_iret d_X4_stopAt_35 rfl
def f_X4_stopAt (a1 : Int32) (a2 : Int32) (M : mm_M) : Option (Int32 × mm_M) :=
  if a1 = 0 then
    f_X4_stopAt_20 a2 (mI M 10 8) M
  else
    mm_bi (f_X4_all M) (fun r1 M1 =>
    f_X4_stopAt_20 a2 (r1 - (mI M1 10 8)) M1)
theorem s_X4_stopAt (a1 : Int32) (a2 : Int32) (M : mm_M) : Sim sysC Y_X4_stopAt 3 0 [(0, .ref 10), (1, .int (a1)), (2, .int (a2))] [] M mm_fI (f_X4_stopAt a1 a2 M) := by
  unfold f_X4_stopAt
  refine sim_iload_n 1 d_X4_stopAt_0 rfl rfl ?_
  refine sim_if_eq d_X4_stopAt_1 ?_ ?_
  ·
    refine sim_aload_n 0 d_X4_stopAt_16 rfl rfl ?_
    refine sim_geti d_X4_stopAt_17 fl_X4_38 ob_C_10 rfl ?_
    exact sim_sub [0, 2] rfl (s_X4_stopAt_20 a2 (mI M 10 8) M)
  ·
    refine sim_aload_n 0 d_X4_stopAt_4 rfl rfl ?_
    refine sim_callVi Y_X4_all 0 [] [] d_X4_stopAt_5 lk_X4_54 cv_X4_all ob_C_10 rfl (by omega) (Nat.le_of_ble_eq_true rfl) (ct_X4_all M) (fun r1 M1 => ?_)
    refine sim_aload_n 0 d_X4_stopAt_8 rfl rfl ?_
    refine sim_geti d_X4_stopAt_9 fl_X4_38 ob_C_10 rfl ?_
    refine sim_isub d_X4_stopAt_12 ?_
    refine sim_goto d_X4_stopAt_13 ?_
    exact sim_sub [0, 2] rfl (s_X4_stopAt_20 a2 (r1 - (mI M1 10 8)) M1)
theorem ct_X4_stopAt (a1 : Int32) (a2 : Int32) (M : mm_M) : Ct sysC Y_X4_stopAt 3 [.ref 10, .int (a1), .int (a2)] M mm_fI (f_X4_stopAt a1 a2 M) :=
  ct_of_sim (by decide) rfl (Nat.le_of_ble_eq_true rfl) (s_X4_stopAt a1 a2 M)
def f_X11_workAt (a1 : Int32) (a2 : Int32) (a3 : Int32) (a4 : Int32) (M : mm_M) : Option (Int32 × mm_M) :=
  mm_bi (f_X11_workRefusal a1 a2 M) (fun r1 M1 =>
  if r1 = 0 then
    mm_bv (f_X11_planWork a1 a2 M1) (fun M2 =>
    if (mI M2 10 9) = 0 then
      some ((-9 : Int32), M2)
    else
      mm_bi (f_X4_stopAt a3 a4 M2) (fun r2 M3 =>
      some (r2, M3)))
  else
    mm_bi (f_X11_refuse r1 M1) (fun r3 M4 =>
    some (r3, M4)))
theorem s_X11_workAt (a1 : Int32) (a2 : Int32) (a3 : Int32) (a4 : Int32) (M : mm_M) : Sim sysC Y_X11_workAt 6 0 [(0, .ref 0), (1, .int (a1)), (2, .int (a2)), (3, .int (a3)), (4, .int (a4))] [] M mm_fI (f_X11_workAt a1 a2 a3 a4 M) := by
  unfold f_X11_workAt
  refine sim_aload_n 0 d_X11_workAt_0 rfl rfl ?_
  refine sim_iload_n 1 d_X11_workAt_1 rfl rfl ?_
  refine sim_iload_n 2 d_X11_workAt_2 rfl rfl ?_
  refine sim_callVi Y_X11_workRefusal 1 [.int (a1), .int (a2)] [] d_X11_workAt_3 lk_X11_303 cv_X11_workRefusal ob_C_0 rfl (by omega) (Nat.le_of_ble_eq_true rfl) (ct_X11_workRefusal a1 a2 M) (fun r1 M1 => ?_)
  refine sim_istore (L' := [(0, .ref 0), (1, .int (a1)), (2, .int (a2)), (3, .int (a3)), (4, .int (a4)), (5, .int (r1))]) d_X11_workAt_6 (Nat.le_of_ble_eq_true rfl) rfl ?_
  refine sim_iload 5 d_X11_workAt_8 rfl ?_
  refine sim_if_eq d_X11_workAt_10 ?_ ?_
  ·
    refine sim_aload_n 0 d_X11_workAt_20 rfl rfl ?_
    refine sim_iload_n 1 d_X11_workAt_21 rfl rfl ?_
    refine sim_iload_n 2 d_X11_workAt_22 rfl rfl ?_
    refine sim_callVv Y_X11_planWork 5 [.int (a1), .int (a2)] [] d_X11_workAt_23 lk_X11_306 cv_X11_planWork ob_C_0 rfl (by omega) (Nat.le_of_ble_eq_true rfl) (ct_X11_planWork a1 a2 M1) (fun M2 => ?_)
    refine sim_aload_n 0 d_X11_workAt_26 rfl rfl ?_
    refine sim_geta d_X11_workAt_27 fl_X11_63 ob_C_0 rfl ?_
    refine sim_getz d_X11_workAt_30 fl_X11_309 ob_C_10 rfl ?_
    refine sim_if_ne d_X11_workAt_33 ?_ ?_
    ·
      refine sim_aload_n 0 d_X11_workAt_39 rfl rfl ?_
      refine sim_geta d_X11_workAt_40 fl_X11_63 ob_C_0 rfl ?_
      refine sim_iload_n 3 d_X11_workAt_43 rfl rfl ?_
      refine sim_iload 4 d_X11_workAt_44 rfl ?_
      refine sim_callVi Y_X4_stopAt 3 [.int (a3), .int (a4)] [] d_X11_workAt_46 lk_X11_319 cv_X4_stopAt ob_C_10 rfl (by omega) (Nat.le_of_ble_eq_true rfl) (ct_X4_stopAt a3 a4 M2) (fun r2 M3 => ?_)
      exact sim_iret d_X11_workAt_49 rfl
    ·
      refine sim_bipush (-9 : Int32) d_X11_workAt_36 rfl ?_
      exact sim_iret d_X11_workAt_38 rfl
  ·
    refine sim_aload_n 0 d_X11_workAt_13 rfl rfl ?_
    refine sim_iload 5 d_X11_workAt_14 rfl ?_
    refine sim_callVi Y_X11_refuse 0 [.int (r1)] [] d_X11_workAt_16 lk_X11_108 cv_X11_refuse ob_C_0 rfl (by omega) (Nat.le_of_ble_eq_true rfl) (ct_X11_refuse r1 M1) (fun r3 M4 => ?_)
    exact sim_iret d_X11_workAt_19 rfl
theorem ct_X11_workAt (a1 : Int32) (a2 : Int32) (a3 : Int32) (a4 : Int32) (M : mm_M) : Ct sysC Y_X11_workAt 6 [.ref 0, .int (a1), .int (a2), .int (a3), .int (a4)] M mm_fI (f_X11_workAt a1 a2 a3 a4 M) :=
  ct_of_sim (by decide) rfl (Nat.le_of_ble_eq_true rfl) (s_X11_workAt a1 a2 a3 a4 M)
def f_X11_giveLetters_98 (k24 : Int32 → Int32 → Int32 → Int32 → mm_M → Option (mm_M)) (x2 : Int32) (x3 : Int32) (x4 : Int32) (x5 : Int32) (M : mm_M) : Option (mm_M) :=
  k24 x2 x3 x4 (x5 + (1 : Int32)) M
theorem s_X11_giveLetters_98 (k24 : Int32 → Int32 → Int32 → Int32 → mm_M → Option (mm_M)) (hk24 : ∀ (x2 : Int32) (x3 : Int32) (x4 : Int32) (x5 : Int32) (M : mm_M), Sim sysC Y_X11_giveLetters 0 24 [(0, .ref 0), (2, .int (x2)), (3, .int (x3)), (4, .int (x4)), (5, .int (x5))] [] M mm_fV (k24 x2 x3 x4 x5 M)) (x2 : Int32) (x3 : Int32) (x4 : Int32) (x5 : Int32) (M : mm_M) : Sim sysC Y_X11_giveLetters 0 98 [(0, .ref 0), (2, .int (x2)), (3, .int (x3)), (4, .int (x4)), (5, .int (x5))] [] M mm_fV (f_X11_giveLetters_98 k24 x2 x3 x4 x5 M) := by
  unfold f_X11_giveLetters_98
  refine sim_iinc (v := x5 + (1 : Int32)) (L' := [(0, .ref 0), (2, .int (x2)), (3, .int (x3)), (4, .int (x4)), (5, .int (x5 + (1 : Int32)))]) 4 d_X11_giveLetters_98 (Nat.le_of_ble_eq_true rfl) rfl rfl rfl ?_
  refine sim_goto d_X11_giveLetters_101 ?_
  exact sim_sub [0, 1, 2, 3, 4] rfl (hk24 x2 x3 x4 (x5 + (1 : Int32)) M)
def f_X11_giveLetters_95 (k24 : Int32 → Int32 → Int32 → Int32 → mm_M → Option (mm_M)) (x2 : Int32) (x3 : Int32) (x4 : Int32) (x5 : Int32) (M : mm_M) : Option (mm_M) :=
  f_X11_giveLetters_98 k24 x2 (x3 + (-1 : Int32)) x4 x5 M
theorem s_X11_giveLetters_95 (k24 : Int32 → Int32 → Int32 → Int32 → mm_M → Option (mm_M)) (hk24 : ∀ (x2 : Int32) (x3 : Int32) (x4 : Int32) (x5 : Int32) (M : mm_M), Sim sysC Y_X11_giveLetters 0 24 [(0, .ref 0), (2, .int (x2)), (3, .int (x3)), (4, .int (x4)), (5, .int (x5))] [] M mm_fV (k24 x2 x3 x4 x5 M)) (x2 : Int32) (x3 : Int32) (x4 : Int32) (x5 : Int32) (M : mm_M) : Sim sysC Y_X11_giveLetters 0 95 [(0, .ref 0), (2, .int (x2)), (3, .int (x3)), (4, .int (x4)), (5, .int (x5))] [] M mm_fV (f_X11_giveLetters_95 k24 x2 x3 x4 x5 M) := by
  unfold f_X11_giveLetters_95
  refine sim_iinc (v := x3 + (-1 : Int32)) (L' := [(0, .ref 0), (2, .int (x2)), (4, .int (x4)), (5, .int (x5)), (3, .int (x3 + (-1 : Int32)))]) 2 d_X11_giveLetters_95 (Nat.le_of_ble_eq_true rfl) rfl rfl rfl ?_
  exact sim_sub [0, 1, 4, 2, 3] rfl (s_X11_giveLetters_98 k24 hk24 x2 (x3 + (-1 : Int32)) x4 x5 M)
def f_X11_giveLetters_24 : Nat → Int32 → Int32 → Int32 → Int32 → mm_M → Option (mm_M)
  | 0, _, _, _, _, _ => none
  | n + 1, x2, x3, x4, x5, M =>
  if (40 : Int32) ≤ x5 then
    some M
  else
    mm_ck x5 40 (
    if (mI M 51 x5.toNatClampNeg) = 0 then
      f_X11_giveLetters_98 (f_X11_giveLetters_24 n) x2 x3 x4 x5 M
    else
      if (1 : Int32) ≤ x3 then
        mm_let (((x2 * (171 : Int32)) + (11213 : Int32)) - ((x2 * (171 : Int32)) + (11213 : Int32)) / (53125 : Int32) * (53125 : Int32)) (fun v1 =>
        mm_nz x3 (
        if x4 ≤ (v1 - v1 / x3 * x3) then
          f_X11_giveLetters_95 (f_X11_giveLetters_24 n) v1 x3 x4 x5 M
        else
          mm_ck x5 40 (
          mm_let (sI M 16 x5.toNatClampNeg ((1 : Int32) &&& 1)) (fun M1 =>
          mm_let (sI M1 0 15 ((mI M1 0 15) + (1 : Int32))) (fun M2 =>
          f_X11_giveLetters_95 (f_X11_giveLetters_24 n) v1 x3 (x4 + (-1 : Int32)) x5 M2)))))
      else
        f_X11_giveLetters_98 (f_X11_giveLetters_24 n) x2 x3 x4 x5 M)
theorem s_X11_giveLetters_24 (n : Nat) : ∀ (x2 : Int32) (x3 : Int32) (x4 : Int32) (x5 : Int32) (M : mm_M), Sim sysC Y_X11_giveLetters 0 24 [(0, .ref 0), (2, .int (x2)), (3, .int (x3)), (4, .int (x4)), (5, .int (x5))] [] M mm_fV (f_X11_giveLetters_24 n x2 x3 x4 x5 M) := by
  induction n with
  | zero => intros; exact sim_none
  | succ n ih =>
    intro x2 x3 x4 x5 M
    rw [f_X11_giveLetters_24]
    refine sim_iload 4 d_X11_giveLetters_24 rfl ?_
    refine sim_bipush (40 : Int32) d_X11_giveLetters_26 rfl ?_
    refine sim_icmp_ge d_X11_giveLetters_28 ?_ ?_
    ·
      exact sim_vret d_X11_giveLetters_104 rfl
    ·
      refine sim_aload_n 0 d_X11_giveLetters_31 rfl rfl ?_
      refine sim_geta d_X11_giveLetters_32 fl_X11_39 ob_C_0 rfl ?_
      refine sim_geta d_X11_giveLetters_35 fl_X11_192 ob_C_6 rfl ?_
      refine sim_iload 4 d_X11_giveLetters_38 rfl ?_
      refine sim_zald d_X11_giveLetters_40 ar_C_51 ?_
      refine sim_if_eq d_X11_giveLetters_41 ?_ ?_
      ·
        exact sim_sub [0, 1, 2, 3, 4] rfl (s_X11_giveLetters_98 (f_X11_giveLetters_24 n) ih x2 x3 x4 x5 M)
      ·
        refine sim_iload_n 2 d_X11_giveLetters_44 rfl rfl ?_
        refine sim_iconst (1 : Int32) d_X11_giveLetters_45 rfl ?_
        refine sim_icmp_ge d_X11_giveLetters_46 ?_ ?_
        ·
          refine sim_iload_n 1 d_X11_giveLetters_52 rfl rfl ?_
          refine sim_sipush (171 : Int32) d_X11_giveLetters_53 rfl ?_
          refine sim_imul d_X11_giveLetters_56 ?_
          refine sim_sipush (11213 : Int32) d_X11_giveLetters_57 rfl ?_
          refine sim_iadd d_X11_giveLetters_60 ?_
          refine sim_ldcw (53125 : Int32) d_X11_giveLetters_61 kn_X11_373 ?_
          refine sim_iremc d_X11_giveLetters_64 (by decide) ?_
          refine sim_nmi (fun v1 => ?_)
          refine sim_istore_n (L' := [(0, .ref 0), (3, .int (x3)), (4, .int (x4)), (5, .int (x5)), (2, .int (v1))]) d_X11_giveLetters_65 rfl (Nat.le_of_ble_eq_true rfl) rfl ?_
          refine sim_iload_n 4 d_X11_giveLetters_66 rfl rfl ?_
          refine sim_iload_n 1 d_X11_giveLetters_67 rfl rfl ?_
          refine sim_irem d_X11_giveLetters_68 ?_
          refine sim_iload 2 d_X11_giveLetters_69 rfl ?_
          refine sim_icmp_ge d_X11_giveLetters_71 ?_ ?_
          ·
            exact sim_sub [0, 4, 1, 2, 3] rfl (s_X11_giveLetters_95 (f_X11_giveLetters_24 n) ih v1 x3 x4 x5 M)
          ·
            refine sim_aload_n 0 d_X11_giveLetters_74 rfl rfl ?_
            refine sim_geta d_X11_giveLetters_75 fl_X11_94 ob_C_0 rfl ?_
            refine sim_iload 3 d_X11_giveLetters_78 rfl ?_
            refine sim_iconst (1 : Int32) d_X11_giveLetters_80 rfl ?_
            refine sim_zast d_X11_giveLetters_81 ar_C_16 ?_
            refine sim_nmM (fun M1 => ?_)
            refine sim_aload_n 0 d_X11_giveLetters_82 rfl rfl ?_
            refine sim_dup d_X11_giveLetters_83 rfl ?_
            refine sim_geti d_X11_giveLetters_84 fl_X11_98 ob_C_0 rfl ?_
            refine sim_iconst (1 : Int32) d_X11_giveLetters_87 rfl ?_
            refine sim_iadd d_X11_giveLetters_88 ?_
            refine sim_puti d_X11_giveLetters_89 fl_X11_98 ob_C_0 rfl ?_
            refine sim_nmM (fun M2 => ?_)
            refine sim_iinc (v := x4 + (-1 : Int32)) (L' := [(0, .ref 0), (3, .int (x3)), (5, .int (x5)), (2, .int (v1)), (4, .int (x4 + (-1 : Int32)))]) 2 d_X11_giveLetters_92 (Nat.le_of_ble_eq_true rfl) rfl rfl rfl ?_
            exact sim_sub [0, 3, 1, 4, 2] rfl (s_X11_giveLetters_95 (f_X11_giveLetters_24 n) ih v1 x3 (x4 + (-1 : Int32)) x5 M2)
        ·
          refine sim_goto d_X11_giveLetters_49 ?_
          exact sim_sub [0, 1, 2, 3, 4] rfl (s_X11_giveLetters_98 (f_X11_giveLetters_24 n) ih x2 x3 x4 x5 M)
def f_X11_giveLetters (a1 : Int32) (M : mm_M) : Option (mm_M) :=
  mm_let (mI M 6 6) (fun v1 =>
  mm_let ((mI M 6 6) / (2 : Int32)) (fun v2 =>
  f_X11_giveLetters_24 mm_fu a1 v1 v2 (0 : Int32) M))
theorem s_X11_giveLetters (a1 : Int32) (M : mm_M) : Sim sysC Y_X11_giveLetters 0 0 [(0, .ref 0), (1, .int (a1))] [] M mm_fV (f_X11_giveLetters a1 M) := by
  unfold f_X11_giveLetters
  refine sim_iload_n 1 d_X11_giveLetters_0 rfl rfl ?_
  refine sim_istore_n (L' := [(0, .ref 0), (1, .int (a1)), (2, .int (a1))]) d_X11_giveLetters_1 rfl (Nat.le_of_ble_eq_true rfl) rfl ?_
  refine sim_aload_n 0 d_X11_giveLetters_2 rfl rfl ?_
  refine sim_geta d_X11_giveLetters_3 fl_X11_39 ob_C_0 rfl ?_
  refine sim_geti d_X11_giveLetters_6 fl_X11_191 ob_C_6 rfl ?_
  refine sim_nmi (fun v1 => ?_)
  refine sim_istore_n (L' := [(0, .ref 0), (1, .int (a1)), (2, .int (a1)), (3, .int (v1))]) d_X11_giveLetters_9 rfl (Nat.le_of_ble_eq_true rfl) rfl ?_
  refine sim_aload_n 0 d_X11_giveLetters_10 rfl rfl ?_
  refine sim_geta d_X11_giveLetters_11 fl_X11_39 ob_C_0 rfl ?_
  refine sim_geti d_X11_giveLetters_14 fl_X11_191 ob_C_6 rfl ?_
  refine sim_iconst (2 : Int32) d_X11_giveLetters_17 rfl ?_
  refine sim_idivc d_X11_giveLetters_18 (by decide) ?_
  refine sim_nmi (fun v2 => ?_)
  refine sim_istore (L' := [(0, .ref 0), (1, .int (a1)), (2, .int (a1)), (3, .int (v1)), (4, .int (v2))]) d_X11_giveLetters_19 (Nat.le_of_ble_eq_true rfl) rfl ?_
  refine sim_iconst (0 : Int32) d_X11_giveLetters_21 rfl ?_
  refine sim_istore (L' := [(0, .ref 0), (1, .int (a1)), (2, .int (a1)), (3, .int (v1)), (4, .int (v2)), (5, .int ((0 : Int32)))]) d_X11_giveLetters_22 (Nat.le_of_ble_eq_true rfl) rfl ?_
  exact sim_sub [0, 2, 3, 4, 5] rfl (s_X11_giveLetters_24 mm_fu a1 v1 v2 (0 : Int32) M)
theorem ct_X11_giveLetters (a1 : Int32) (M : mm_M) : Ct sysC Y_X11_giveLetters 0 [.ref 0, .int (a1)] M mm_fV (f_X11_giveLetters a1 M) :=
  ct_of_sim (by decide) rfl (Nat.le_of_ble_eq_true rfl) (s_X11_giveLetters a1 M)
def f_X11_letters (a1 : Int32) (M : mm_M) : Option (Int32 × mm_M) :=
  if (mI M 6 6) = 0 then
    mm_bi (f_X11_refuse (-5 : Int32) M) (fun r3 M5 =>
    some (r3, M5))
  else
    mm_bi (f_X11_outside a1 (0 : Int32) (99999 : Int32) M) (fun r1 M1 =>
    if r1 = 0 then
      mm_bv (f_X11_takeLettersAway M1) (fun M2 =>
      mm_bv (f_X11_giveLetters a1 M2) (fun M3 =>
      some (mI M3 0 15, M3)))
    else
      mm_bi (f_X11_refuse r1 M1) (fun r2 M4 =>
      some (r2, M4)))
theorem s_X11_letters (a1 : Int32) (M : mm_M) : Sim sysC Y_X11_letters 1 0 [(0, .ref 0), (1, .int (a1))] [] M mm_fI (f_X11_letters a1 M) := by
  unfold f_X11_letters
  refine sim_aload_n 0 d_X11_letters_0 rfl rfl ?_
  refine sim_geta d_X11_letters_1 fl_X11_39 ob_C_0 rfl ?_
  refine sim_geti d_X11_letters_4 fl_X11_191 ob_C_6 rfl ?_
  refine sim_if_ne d_X11_letters_7 ?_ ?_
  ·
    refine sim_iload_n 1 d_X11_letters_17 rfl rfl ?_
    refine sim_iconst (0 : Int32) d_X11_letters_18 rfl ?_
    refine sim_ldcw (99999 : Int32) d_X11_letters_19 kn_X11_323 ?_
    refine sim_callSi Y_X11_outside 0 [.int (a1), .int ((0 : Int32)), .int ((99999 : Int32))] [] d_X11_letters_22 lk_X11_131 cs_X11_outside rfl (by omega) (Nat.le_of_ble_eq_true rfl) (ct_X11_outside a1 (0 : Int32) (99999 : Int32) M) (fun r1 M1 => ?_)
    refine sim_istore_n (L' := [(0, .ref 0), (1, .int (a1)), (2, .int (r1))]) d_X11_letters_25 rfl (Nat.le_of_ble_eq_true rfl) rfl ?_
    refine sim_iload_n 2 d_X11_letters_26 rfl rfl ?_
    refine sim_if_eq d_X11_letters_27 ?_ ?_
    ·
      refine sim_aload_n 0 d_X11_letters_36 rfl rfl ?_
      refine sim_callVv Y_X11_takeLettersAway 0 [] [] d_X11_letters_37 lk_X11_181 cv_X11_takeLettersAway ob_C_0 rfl (by omega) (Nat.le_of_ble_eq_true rfl) (ct_X11_takeLettersAway M1) (fun M2 => ?_)
      refine sim_aload_n 0 d_X11_letters_40 rfl rfl ?_
      refine sim_iload_n 1 d_X11_letters_41 rfl rfl ?_
      refine sim_callVv Y_X11_giveLetters 0 [.int (a1)] [] d_X11_letters_42 lk_X11_324 cv_X11_giveLetters ob_C_0 rfl (by omega) (Nat.le_of_ble_eq_true rfl) (ct_X11_giveLetters a1 M2) (fun M3 => ?_)
      refine sim_aload_n 0 d_X11_letters_45 rfl rfl ?_
      refine sim_geti d_X11_letters_46 fl_X11_98 ob_C_0 rfl ?_
      exact sim_iret d_X11_letters_49 rfl
    ·
      refine sim_aload_n 0 d_X11_letters_30 rfl rfl ?_
      refine sim_iload_n 2 d_X11_letters_31 rfl rfl ?_
      refine sim_callVi Y_X11_refuse 0 [.int (r1)] [] d_X11_letters_32 lk_X11_108 cv_X11_refuse ob_C_0 rfl (by omega) (Nat.le_of_ble_eq_true rfl) (ct_X11_refuse r1 M1) (fun r2 M4 => ?_)
      exact sim_iret d_X11_letters_35 rfl
  ·
    refine sim_aload_n 0 d_X11_letters_10 rfl rfl ?_
    refine sim_bipush (-5 : Int32) d_X11_letters_11 rfl ?_
    refine sim_callVi Y_X11_refuse 0 [.int ((-5 : Int32))] [] d_X11_letters_13 lk_X11_108 cv_X11_refuse ob_C_0 rfl (by omega) (Nat.le_of_ble_eq_true rfl) (ct_X11_refuse (-5 : Int32) M) (fun r3 M5 => ?_)
    exact sim_iret d_X11_letters_16 rfl
theorem ct_X11_letters (a1 : Int32) (M : mm_M) : Ct sysC Y_X11_letters 1 [.ref 0, .int (a1)] M mm_fI (f_X11_letters a1 M) :=
  ct_of_sim (by decide) rfl (Nat.le_of_ble_eq_true rfl) (s_X11_letters a1 M)
def f_X11_letter (a1 : Int32) (M : mm_M) : Option (Int32 × mm_M) :=
  mm_bi (f_X6_has a1 M) (fun r1 M1 =>
  if r1 = 0 then
    mm_bi (f_X11_refuse (-1 : Int32) M1) (fun r2 M2 =>
    some (r2, M2))
  else
    mm_ck a1 40 (
    if (mI M1 16 a1.toNatClampNeg) = 0 then
      some ((0 : Int32), M1)
    else
      some ((1 : Int32), M1)))
theorem s_X11_letter (a1 : Int32) (M : mm_M) : Sim sysC Y_X11_letter 1 0 [(0, .ref 0), (1, .int (a1))] [] M mm_fI (f_X11_letter a1 M) := by
  unfold f_X11_letter
  refine sim_aload_n 0 d_X11_letter_0 rfl rfl ?_
  refine sim_geta d_X11_letter_1 fl_X11_20 ob_C_0 rfl ?_
  refine sim_iload_n 1 d_X11_letter_4 rfl rfl ?_
  refine sim_callVi Y_X6_has 0 [.int (a1)] [] d_X11_letter_5 lk_X11_128 cv_X6_has ob_C_2 rfl (by omega) (Nat.le_of_ble_eq_true rfl) (ct_X6_has a1 M) (fun r1 M1 => ?_)
  refine sim_if_ne d_X11_letter_8 ?_ ?_
  ·
    refine sim_aload_n 0 d_X11_letter_17 rfl rfl ?_
    refine sim_geta d_X11_letter_18 fl_X11_94 ob_C_0 rfl ?_
    refine sim_iload_n 1 d_X11_letter_21 rfl rfl ?_
    refine sim_zald d_X11_letter_22 ar_C_16 ?_
    refine sim_if_eq d_X11_letter_23 ?_ ?_
    ·
      refine sim_iconst (0 : Int32) d_X11_letter_30 rfl ?_
      exact sim_iret d_X11_letter_31 rfl
    ·
      refine sim_iconst (1 : Int32) d_X11_letter_26 rfl ?_
      refine sim_goto d_X11_letter_27 ?_
      exact sim_iret d_X11_letter_31 rfl
  ·
    refine sim_aload_n 0 d_X11_letter_11 rfl rfl ?_
    refine sim_iconst (-1 : Int32) d_X11_letter_12 rfl ?_
    refine sim_callVi Y_X11_refuse 0 [.int ((-1 : Int32))] [] d_X11_letter_13 lk_X11_108 cv_X11_refuse ob_C_0 rfl (by omega) (Nat.le_of_ble_eq_true rfl) (ct_X11_refuse (-1 : Int32) M1) (fun r2 M2 => ?_)
    exact sim_iret d_X11_letter_16 rfl
theorem ct_X11_letter (a1 : Int32) (M : mm_M) : Ct sysC Y_X11_letter 1 [.ref 0, .int (a1)] M mm_fI (f_X11_letter a1 M) :=
  ct_of_sim (by decide) rfl (Nat.le_of_ble_eq_true rfl) (s_X11_letter a1 M)
def f_X10_firstGood_50 (k2 : Int32 → Int32 → Int32 → mm_M → Option (Int32 × mm_M)) (x1 : Int32) (x2 : Int32) (x3 : Int32) (M : mm_M) : Option (Int32 × mm_M) :=
  k2 x1 x2 (x3 + (1 : Int32)) M
theorem s_X10_firstGood_50 (k2 : Int32 → Int32 → Int32 → mm_M → Option (Int32 × mm_M)) (hk2 : ∀ (x1 : Int32) (x2 : Int32) (x3 : Int32) (M : mm_M), Sim sysC Y_X10_firstGood 0 2 [(0, .ref 1), (1, .int (x1)), (2, .int (x2)), (3, .int (x3))] [] M mm_fI (k2 x1 x2 x3 M)) (x1 : Int32) (x2 : Int32) (x3 : Int32) (M : mm_M) : Sim sysC Y_X10_firstGood 0 50 [(0, .ref 1), (1, .int (x1)), (2, .int (x2)), (3, .int (x3))] [] M mm_fI (f_X10_firstGood_50 k2 x1 x2 x3 M) := by
  unfold f_X10_firstGood_50
  refine sim_iinc (v := x3 + (1 : Int32)) (L' := [(0, .ref 1), (1, .int (x1)), (2, .int (x2)), (3, .int (x3 + (1 : Int32)))]) 3 d_X10_firstGood_50 (Nat.le_of_ble_eq_true rfl) rfl rfl rfl ?_
  refine sim_goto d_X10_firstGood_53 ?_
  exact sim_sub [0, 1, 2, 3] rfl (hk2 x1 x2 (x3 + (1 : Int32)) M)
def f_X10_firstGood_2 : Nat → Int32 → Int32 → Int32 → mm_M → Option (Int32 × mm_M)
  | 0, _, _, _, _ => none
  | n + 1, x1, x2, x3, M =>
  if (mI M 4 7) ≤ x3 then
    some ((-1 : Int32), M)
  else
    mm_ck x3 100 (
    if (mI M 17 x3.toNatClampNeg) = 0 then
      f_X10_firstGood_50 (f_X10_firstGood_2 n) x1 x2 x3 M
    else
      mm_ck x3 100 (
      if (mI M 39 x3.toNatClampNeg) = x1 then
        mm_ck x3 100 (
        if (mI M 41 x3.toNatClampNeg) < x2 then
          f_X10_firstGood_50 (f_X10_firstGood_2 n) x1 x2 x3 M
        else
          some (x3, M))
      else
        f_X10_firstGood_50 (f_X10_firstGood_2 n) x1 x2 x3 M))
theorem s_X10_firstGood_2 (n : Nat) : ∀ (x1 : Int32) (x2 : Int32) (x3 : Int32) (M : mm_M), Sim sysC Y_X10_firstGood 0 2 [(0, .ref 1), (1, .int (x1)), (2, .int (x2)), (3, .int (x3))] [] M mm_fI (f_X10_firstGood_2 n x1 x2 x3 M) := by
  induction n with
  | zero => intros; exact sim_none
  | succ n ih =>
    intro x1 x2 x3 M
    rw [f_X10_firstGood_2]
    refine sim_iload_n 3 d_X10_firstGood_2 rfl rfl ?_
    refine sim_aload_n 0 d_X10_firstGood_3 rfl rfl ?_
    refine sim_geta d_X10_firstGood_4 fl_X10_28 ob_C_1 rfl ?_
    refine sim_geti d_X10_firstGood_7 fl_X10_71 ob_C_4 rfl ?_
    refine sim_icmp_ge d_X10_firstGood_10 ?_ ?_
    ·
      refine sim_iconst (-1 : Int32) d_X10_firstGood_56 rfl ?_
      exact sim_iret d_X10_firstGood_57 rfl
    ·
      refine sim_aload_n 0 d_X10_firstGood_13 rfl rfl ?_
      refine sim_geta d_X10_firstGood_14 fl_X10_39 ob_C_1 rfl ?_
      refine sim_iload_n 3 d_X10_firstGood_17 rfl rfl ?_
      refine sim_zald d_X10_firstGood_18 ar_C_17 ?_
      refine sim_if_eq d_X10_firstGood_19 ?_ ?_
      ·
        exact sim_sub [0, 1, 2, 3] rfl (s_X10_firstGood_50 (f_X10_firstGood_2 n) ih x1 x2 x3 M)
      ·
        refine sim_aload_n 0 d_X10_firstGood_22 rfl rfl ?_
        refine sim_geta d_X10_firstGood_23 fl_X10_28 ob_C_1 rfl ?_
        refine sim_geta d_X10_firstGood_26 fl_X10_118 ob_C_4 rfl ?_
        refine sim_iload_n 3 d_X10_firstGood_29 rfl rfl ?_
        refine sim_iald d_X10_firstGood_30 ar_C_39 ?_
        refine sim_iload_n 1 d_X10_firstGood_31 rfl rfl ?_
        refine sim_icmp_ne d_X10_firstGood_32 ?_ ?_
        ·
          exact sim_sub [0, 1, 2, 3] rfl (s_X10_firstGood_50 (f_X10_firstGood_2 n) ih x1 x2 x3 M)
        ·
          refine sim_aload_n 0 d_X10_firstGood_35 rfl rfl ?_
          refine sim_geta d_X10_firstGood_36 fl_X10_28 ob_C_1 rfl ?_
          refine sim_geta d_X10_firstGood_39 fl_X10_102 ob_C_4 rfl ?_
          refine sim_iload_n 3 d_X10_firstGood_42 rfl rfl ?_
          refine sim_iald d_X10_firstGood_43 ar_C_41 ?_
          refine sim_iload_n 2 d_X10_firstGood_44 rfl rfl ?_
          refine sim_icmp_lt d_X10_firstGood_45 ?_ ?_
          ·
            exact sim_sub [0, 1, 2, 3] rfl (s_X10_firstGood_50 (f_X10_firstGood_2 n) ih x1 x2 x3 M)
          ·
            refine sim_iload_n 3 d_X10_firstGood_48 rfl rfl ?_
            exact sim_iret d_X10_firstGood_49 rfl
def f_X10_firstGood (a1 : Int32) (a2 : Int32) (M : mm_M) : Option (Int32 × mm_M) :=
  f_X10_firstGood_2 mm_fu a1 a2 (0 : Int32) M
theorem s_X10_firstGood (a1 : Int32) (a2 : Int32) (M : mm_M) : Sim sysC Y_X10_firstGood 0 0 [(0, .ref 1), (1, .int (a1)), (2, .int (a2))] [] M mm_fI (f_X10_firstGood a1 a2 M) := by
  unfold f_X10_firstGood
  refine sim_iconst (0 : Int32) d_X10_firstGood_0 rfl ?_
  refine sim_istore_n (L' := [(0, .ref 1), (1, .int (a1)), (2, .int (a2)), (3, .int ((0 : Int32)))]) d_X10_firstGood_1 rfl (Nat.le_of_ble_eq_true rfl) rfl ?_
  exact sim_sub [0, 1, 2, 3] rfl (s_X10_firstGood_2 mm_fu a1 a2 (0 : Int32) M)
theorem ct_X10_firstGood (a1 : Int32) (a2 : Int32) (M : mm_M) : Ct sysC Y_X10_firstGood 0 [.ref 1, .int (a1), .int (a2)] M mm_fI (f_X10_firstGood a1 a2 M) :=
  ct_of_sim (by decide) rfl (Nat.le_of_ble_eq_true rfl) (s_X10_firstGood a1 a2 M)
def f_X7_put_9 (x1 : Int32) (t0 : Int32) (M : mm_M) : Option (mm_M) :=
  if x1 = 0 then
    mm_let (sI M 11 3 ((mI M 11 3) + (1 : Int32))) (fun M1 =>
    mm_let (sI M1 11 4 ((mI M1 11 4) + t0)) (fun M2 =>
    some M2))
  else
    mm_let (sI M 11 1 ((mI M 11 1) + (1 : Int32))) (fun M3 =>
    mm_let (sI M3 11 2 ((mI M3 11 2) + t0)) (fun M4 =>
    some M4))
theorem s_X7_put_9 (x1 : Int32) (t0 : Int32) (M : mm_M) : Sim sysC Y_X7_put 0 9 [(0, .ref 11), (1, .int (x1))] [.int (t0)] M mm_fV (f_X7_put_9 x1 t0 M) := by
  unfold f_X7_put_9
  refine sim_istore_n (L' := [(0, .ref 11), (1, .int (x1)), (3, .int (t0))]) d_X7_put_9 rfl (Nat.le_of_ble_eq_true rfl) rfl ?_
  refine sim_iload_n 1 d_X7_put_10 rfl rfl ?_
  refine sim_if_eq d_X7_put_11 ?_ ?_
  ·
    refine sim_aload_n 0 d_X7_put_37 rfl rfl ?_
    refine sim_dup d_X7_put_38 rfl ?_
    refine sim_geti d_X7_put_39 fl_X7_23 ob_C_11 rfl ?_
    refine sim_iconst (1 : Int32) d_X7_put_42 rfl ?_
    refine sim_iadd d_X7_put_43 ?_
    refine sim_puti d_X7_put_44 fl_X7_23 ob_C_11 rfl ?_
    refine sim_nmM (fun M1 => ?_)
    refine sim_aload_n 0 d_X7_put_47 rfl rfl ?_
    refine sim_dup d_X7_put_48 rfl ?_
    refine sim_geti d_X7_put_49 fl_X7_26 ob_C_11 rfl ?_
    refine sim_iload_n 2 d_X7_put_52 rfl rfl ?_
    refine sim_iadd d_X7_put_53 ?_
    refine sim_puti d_X7_put_54 fl_X7_26 ob_C_11 rfl ?_
    refine sim_nmM (fun M2 => ?_)
    exact sim_vret d_X7_put_57 rfl
  ·
    refine sim_aload_n 0 d_X7_put_14 rfl rfl ?_
    refine sim_dup d_X7_put_15 rfl ?_
    refine sim_geti d_X7_put_16 fl_X7_16 ob_C_11 rfl ?_
    refine sim_iconst (1 : Int32) d_X7_put_19 rfl ?_
    refine sim_iadd d_X7_put_20 ?_
    refine sim_puti d_X7_put_21 fl_X7_16 ob_C_11 rfl ?_
    refine sim_nmM (fun M3 => ?_)
    refine sim_aload_n 0 d_X7_put_24 rfl rfl ?_
    refine sim_dup d_X7_put_25 rfl ?_
    refine sim_geti d_X7_put_26 fl_X7_20 ob_C_11 rfl ?_
    refine sim_iload_n 2 d_X7_put_29 rfl rfl ?_
    refine sim_iadd d_X7_put_30 ?_
    refine sim_puti d_X7_put_31 fl_X7_20 ob_C_11 rfl ?_
    refine sim_nmM (fun M4 => ?_)
    refine sim_goto d_X7_put_34 ?_
    exact sim_vret d_X7_put_57 rfl
def f_X7_put (a1 : Int32) (a2 : Int32) (M : mm_M) : Option (mm_M) :=
  if a2 = 0 then
    f_X7_put_9 a1 (0 : Int32) M
  else
    f_X7_put_9 a1 (1 : Int32) M
theorem s_X7_put (a1 : Int32) (a2 : Int32) (M : mm_M) : Sim sysC Y_X7_put 0 0 [(0, .ref 11), (1, .int (a1)), (2, .int (a2))] [] M mm_fV (f_X7_put a1 a2 M) := by
  unfold f_X7_put
  refine sim_iload_n 2 d_X7_put_0 rfl rfl ?_
  refine sim_if_eq d_X7_put_1 ?_ ?_
  ·
    refine sim_iconst (0 : Int32) d_X7_put_8 rfl ?_
    exact sim_sub [0, 1] rfl (s_X7_put_9 a1 (0 : Int32) M)
  ·
    refine sim_iconst (1 : Int32) d_X7_put_4 rfl ?_
    refine sim_goto d_X7_put_5 ?_
    exact sim_sub [0, 1] rfl (s_X7_put_9 a1 (1 : Int32) M)
theorem ct_X7_put (a1 : Int32) (a2 : Int32) (M : mm_M) : Ct sysC Y_X7_put 0 [.ref 11, .int (a1), .int (a2)] M mm_fV (f_X7_put a1 a2 M) :=
  ct_of_sim (by decide) rfl (Nat.le_of_ble_eq_true rfl) (s_X7_put a1 a2 M)
def f_X11_enter (a1 : Int32) (a2 : Int32) (a3 : Int32) (M : mm_M) : Option (mm_M) :=
  mm_bi (f_X10_firstGood a1 a3 M) (fun r1 M1 =>
  if r1 < 0 then
    some M1
  else
    mm_bi (f_X9_isSold r1 M1) (fun r2 M2 =>
    mm_bv (f_X7_put a2 r2 M2) (fun M3 =>
    some M3)))
theorem s_X11_enter (a1 : Int32) (a2 : Int32) (a3 : Int32) (M : mm_M) : Sim sysC Y_X11_enter 2 0 [(0, .ref 0), (1, .int (a1)), (2, .int (a2)), (3, .int (a3))] [] M mm_fV (f_X11_enter a1 a2 a3 M) := by
  unfold f_X11_enter
  refine sim_aload_n 0 d_X11_enter_0 rfl rfl ?_
  refine sim_geta d_X11_enter_1 fl_X11_10 ob_C_0 rfl ?_
  refine sim_iload_n 1 d_X11_enter_4 rfl rfl ?_
  refine sim_iload_n 3 d_X11_enter_5 rfl rfl ?_
  refine sim_callVi Y_X10_firstGood 0 [.int (a1), .int (a3)] [] d_X11_enter_6 lk_X11_402 cv_X10_firstGood ob_C_1 rfl (by omega) (Nat.le_of_ble_eq_true rfl) (ct_X10_firstGood a1 a3 M) (fun r1 M1 => ?_)
  refine sim_istore (L' := [(0, .ref 0), (1, .int (a1)), (2, .int (a2)), (3, .int (a3)), (4, .int (r1))]) d_X11_enter_9 (Nat.le_of_ble_eq_true rfl) rfl ?_
  refine sim_iload 4 d_X11_enter_11 rfl ?_
  refine sim_if_lt d_X11_enter_13 ?_ ?_
  ·
    exact sim_vret d_X11_enter_33 rfl
  ·
    refine sim_aload_n 0 d_X11_enter_16 rfl rfl ?_
    refine sim_geta d_X11_enter_17 fl_X11_70 ob_C_0 rfl ?_
    refine sim_iload_n 2 d_X11_enter_20 rfl rfl ?_
    refine sim_aload_n 0 d_X11_enter_21 rfl rfl ?_
    refine sim_geta d_X11_enter_22 fl_X11_30 ob_C_0 rfl ?_
    refine sim_iload 4 d_X11_enter_25 rfl ?_
    refine sim_callVi Y_X9_isSold 1 [.int (r1)] [.int (a2), .ref 11] d_X11_enter_27 lk_X11_405 cv_X9_isSold ob_C_4 rfl (by omega) (Nat.le_of_ble_eq_true rfl) (ct_X9_isSold r1 M1) (fun r2 M2 => ?_)
    refine sim_callVv Y_X7_put 0 [.int (a2), .int (r2)] [] d_X11_enter_30 lk_X11_408 cv_X7_put ob_C_11 rfl (by omega) (Nat.le_of_ble_eq_true rfl) (ct_X7_put a2 r2 M2) (fun M3 => ?_)
    exact sim_vret d_X11_enter_33 rfl
theorem ct_X11_enter (a1 : Int32) (a2 : Int32) (a3 : Int32) (M : mm_M) : Ct sysC Y_X11_enter 2 [.ref 0, .int (a1), .int (a2), .int (a3)] M mm_fV (f_X11_enter a1 a2 a3 M) :=
  ct_of_sim (by decide) rfl (Nat.le_of_ble_eq_true rfl) (s_X11_enter a1 a2 a3 M)
def f_X7_waysToChoose_16 : Nat → Int32 → Int32 → Int64 → Int32 → mm_M → Option (Int64 × mm_M)
  | 0, _, _, _, _, _ => none
  | n + 1, x0, x1, x2, x4, M =>
  if x1 < x4 then
    some (x2, M)
  else
    mm_nzL ((x4).toInt64) (
    mm_let ((x2 * (((x0 - x1) + x4).toInt64)) / ((x4).toInt64)) (fun v1 =>
    f_X7_waysToChoose_16 n x0 x1 v1 (x4 + (1 : Int32)) M))
theorem s_X7_waysToChoose_16 (n : Nat) : ∀ (x0 : Int32) (x1 : Int32) (x2 : Int64) (x4 : Int32) (M : mm_M), Sim sysC Y_X7_waysToChoose 0 16 [(0, .int (x0)), (1, .int (x1)), (2, .long (x2)), (4, .int (x4))] [] M mm_fL (f_X7_waysToChoose_16 n x0 x1 x2 x4 M) := by
  induction n with
  | zero => intros; exact sim_none
  | succ n ih =>
    intro x0 x1 x2 x4 M
    rw [f_X7_waysToChoose_16]
    refine sim_iload 3 d_X7_waysToChoose_16 rfl ?_
    refine sim_iload_n 1 d_X7_waysToChoose_18 rfl rfl ?_
    refine sim_icmp_gt d_X7_waysToChoose_19 ?_ ?_
    ·
      refine sim_lload_n 2 d_X7_waysToChoose_42 rfl rfl ?_
      exact sim_lret d_X7_waysToChoose_43 rfl
    ·
      refine sim_lload_n 2 d_X7_waysToChoose_22 rfl rfl ?_
      refine sim_iload_n 0 d_X7_waysToChoose_23 rfl rfl ?_
      refine sim_iload_n 1 d_X7_waysToChoose_24 rfl rfl ?_
      refine sim_isub d_X7_waysToChoose_25 ?_
      refine sim_iload 3 d_X7_waysToChoose_26 rfl ?_
      refine sim_iadd d_X7_waysToChoose_28 ?_
      refine sim_i2l d_X7_waysToChoose_29 ?_
      refine sim_lmul d_X7_waysToChoose_30 ?_
      refine sim_iload 3 d_X7_waysToChoose_31 rfl ?_
      refine sim_i2l d_X7_waysToChoose_33 ?_
      refine sim_ldiv d_X7_waysToChoose_34 ?_
      refine sim_nml (fun v1 => ?_)
      refine sim_lstore_n (L' := [(0, .int (x0)), (1, .int (x1)), (4, .int (x4)), (2, .long (v1))]) d_X7_waysToChoose_35 rfl (Nat.le_of_ble_eq_true rfl) rfl ?_
      refine sim_iinc (v := x4 + (1 : Int32)) (L' := [(0, .int (x0)), (1, .int (x1)), (2, .long (v1)), (4, .int (x4 + (1 : Int32)))]) 2 d_X7_waysToChoose_36 (Nat.le_of_ble_eq_true rfl) rfl rfl rfl ?_
      refine sim_goto d_X7_waysToChoose_39 ?_
      exact sim_sub [0, 1, 2, 3] rfl (ih x0 x1 v1 (x4 + (1 : Int32)) M)
def f_X7_waysToChoose (a1 : Int32) (a2 : Int32) (M : mm_M) : Option (Int64 × mm_M) :=
  if a2 < 0 then
    some ((0 : Int64), M)
  else
    if a2 ≤ a1 then
      f_X7_waysToChoose_16 mm_fu a1 a2 (1 : Int64) (1 : Int32) M
    else
      some ((0 : Int64), M)
theorem s_X7_waysToChoose (a1 : Int32) (a2 : Int32) (M : mm_M) : Sim sysC Y_X7_waysToChoose 0 0 [(0, .int (a1)), (1, .int (a2))] [] M mm_fL (f_X7_waysToChoose a1 a2 M) := by
  unfold f_X7_waysToChoose
  refine sim_iload_n 1 d_X7_waysToChoose_0 rfl rfl ?_
  refine sim_if_lt d_X7_waysToChoose_1 ?_ ?_
  ·
    refine sim_lconst (0 : Int64) d_X7_waysToChoose_9 rfl ?_
    exact sim_lret d_X7_waysToChoose_10 rfl
  ·
    refine sim_iload_n 1 d_X7_waysToChoose_4 rfl rfl ?_
    refine sim_iload_n 0 d_X7_waysToChoose_5 rfl rfl ?_
    refine sim_icmp_le d_X7_waysToChoose_6 ?_ ?_
    ·
      refine sim_lconst (1 : Int64) d_X7_waysToChoose_11 rfl ?_
      refine sim_lstore_n (L' := [(0, .int (a1)), (1, .int (a2)), (2, .long ((1 : Int64)))]) d_X7_waysToChoose_12 rfl (Nat.le_of_ble_eq_true rfl) rfl ?_
      refine sim_iconst (1 : Int32) d_X7_waysToChoose_13 rfl ?_
      refine sim_istore (L' := [(0, .int (a1)), (1, .int (a2)), (2, .long ((1 : Int64))), (4, .int ((1 : Int32)))]) d_X7_waysToChoose_14 (Nat.le_of_ble_eq_true rfl) rfl ?_
      exact sim_sub [0, 1, 2, 3] rfl (s_X7_waysToChoose_16 mm_fu a1 a2 (1 : Int64) (1 : Int32) M)
    ·
      refine sim_lconst (0 : Int64) d_X7_waysToChoose_9 rfl ?_
      exact sim_lret d_X7_waysToChoose_10 rfl
theorem ct_X7_waysToChoose (a1 : Int32) (a2 : Int32) (M : mm_M) : Ct sysC Y_X7_waysToChoose 0 [.int (a1), .int (a2)] M mm_fL (f_X7_waysToChoose a1 a2 M) :=
  ct_of_sim (by decide) rfl (Nat.le_of_ble_eq_true rfl) (s_X7_waysToChoose a1 a2 M)
def f_X3_become_12_17 (x1 : Int64) (x3 : Int64) (x5 : Int64) (M : mm_M) : Option (mm_M) :=
  mm_nzL x5 (
  mm_let (sL M 12 0 (x1 / x5)) (fun M1 =>
  mm_nzL x5 (
  mm_let (sL M1 12 1 (x3 / x5)) (fun M2 =>
  some M2))))
theorem s_X3_become_12_17 (x1 : Int64) (x3 : Int64) (x5 : Int64) (M : mm_M) : Sim sysC Y_X3_become 1 17 [(0, .ref 12), (1, .long (x1)), (3, .long (x3)), (5, .long (x5))] [] M mm_fV (f_X3_become_12_17 x1 x3 x5 M) := by
  unfold f_X3_become_12_17
  refine sim_aload_n 0 d_X3_become_17 rfl rfl ?_
  refine sim_lload_n 1 d_X3_become_18 rfl rfl ?_
  refine sim_lload 3 d_X3_become_19 rfl ?_
  refine sim_ldiv d_X3_become_21 ?_
  refine sim_putl d_X3_become_22 fl_X3_7 ob_C_12 rfl ?_
  refine sim_nmM (fun M1 => ?_)
  refine sim_aload_n 0 d_X3_become_25 rfl rfl ?_
  refine sim_lload_n 2 d_X3_become_26 rfl rfl ?_
  refine sim_lload 3 d_X3_become_27 rfl ?_
  refine sim_ldiv d_X3_become_29 ?_
  refine sim_putl d_X3_become_30 fl_X3_13 ob_C_12 rfl ?_
  refine sim_nmM (fun M2 => ?_)
  exact sim_vret d_X3_become_33 rfl
def f_X3_become_12 (a1 : Int64) (a2 : Int64) (M : mm_M) : Option (mm_M) :=
  mm_bi (f_X3_commonDivisor a1 a2 M) (fun r1 M1 =>
  if 0 ≤ (lg_cmp (r1) ((1 : Int64))) then
    f_X3_become_12_17 a1 a2 r1 M1
  else
    f_X3_become_12_17 a1 a2 (1 : Int64) M1)
theorem s_X3_become_12 (a1 : Int64) (a2 : Int64) (M : mm_M) : Sim sysC Y_X3_become 1 0 [(0, .ref 12), (1, .long (a1)), (3, .long (a2))] [] M mm_fV (f_X3_become_12 a1 a2 M) := by
  unfold f_X3_become_12
  refine sim_lload_n 1 d_X3_become_0 rfl rfl ?_
  refine sim_lload_n 2 d_X3_become_1 rfl rfl ?_
  refine sim_callSl Y_X3_commonDivisor 0 [.long (a1), .long (a2)] [] d_X3_become_2 lk_X3_16 cs_X3_commonDivisor rfl (by omega) (Nat.le_of_ble_eq_true rfl) (ct_X3_commonDivisor a1 a2 M) (fun r1 M1 => ?_)
  refine sim_lstore (L' := [(0, .ref 12), (1, .long (a1)), (3, .long (a2)), (5, .long (r1))]) d_X3_become_5 (Nat.le_of_ble_eq_true rfl) rfl ?_
  refine sim_lload 3 d_X3_become_7 rfl ?_
  refine sim_lconst (1 : Int64) d_X3_become_9 rfl ?_
  refine sim_lcmp d_X3_become_10 ?_
  refine sim_if_ge d_X3_become_11 ?_ ?_
  ·
    exact sim_sub [0, 1, 2, 3] rfl (s_X3_become_12_17 a1 a2 r1 M1)
  ·
    refine sim_lconst (1 : Int64) d_X3_become_14 rfl ?_
    refine sim_lstore (L' := [(0, .ref 12), (1, .long (a1)), (3, .long (a2)), (5, .long ((1 : Int64)))]) d_X3_become_15 (Nat.le_of_ble_eq_true rfl) rfl ?_
    exact sim_sub [0, 1, 2, 3] rfl (s_X3_become_12_17 a1 a2 (1 : Int64) M1)
theorem ct_X3_become_12 (a1 : Int64) (a2 : Int64) (M : mm_M) : Ct sysC Y_X3_become 1 [.ref 12, .long (a1), .long (a2)] M mm_fV (f_X3_become_12 a1 a2 M) :=
  ct_of_sim (by decide) rfl (Nat.le_of_ble_eq_true rfl) (s_X3_become_12 a1 a2 M)
def f_X7_reckonChance_15 (k54 : Int32 → Int64 → mm_M → Option (mm_M)) : Nat → Int32 → Int64 → Int32 → mm_M → Option (mm_M)
  | 0, _, _, _, _ => none
  | n + 1, x1, x2, x4, M =>
  if (mI M 11 2) < x4 then
    k54 x1 x2 M
  else
    mm_bi (f_X7_waysToChoose (mI M 11 1) x4 M) (fun r1 M1 =>
    mm_bi (f_X7_waysToChoose (mI M1 11 3) (x1 - x4) M1) (fun r2 M2 =>
    mm_let (x2 + (r1 * r2)) (fun v1 =>
    f_X7_reckonChance_15 k54 n x1 v1 (x4 + (1 : Int32)) M2)))
theorem s_X7_reckonChance_15 (k54 : Int32 → Int64 → mm_M → Option (mm_M)) (hk54 : ∀ (x1 : Int32) (x2 : Int64) (M : mm_M), Sim sysC Y_X7_reckonChance 2 54 [(0, .ref 11), (1, .int (x1)), (2, .long (x2))] [] M mm_fV (k54 x1 x2 M)) (n : Nat) : ∀ (x1 : Int32) (x2 : Int64) (x4 : Int32) (M : mm_M), Sim sysC Y_X7_reckonChance 2 15 [(0, .ref 11), (1, .int (x1)), (2, .long (x2)), (4, .int (x4))] [] M mm_fV (f_X7_reckonChance_15 k54 n x1 x2 x4 M) := by
  induction n with
  | zero => intros; exact sim_none
  | succ n ih =>
    intro x1 x2 x4 M
    rw [f_X7_reckonChance_15]
    refine sim_iload 3 d_X7_reckonChance_15 rfl ?_
    refine sim_aload_n 0 d_X7_reckonChance_17 rfl rfl ?_
    refine sim_geti d_X7_reckonChance_18 fl_X7_20 ob_C_11 rfl ?_
    refine sim_icmp_gt d_X7_reckonChance_21 ?_ ?_
    ·
      exact sim_sub [0, 1, 2] rfl (hk54 x1 x2 M)
    ·
      refine sim_lload_n 2 d_X7_reckonChance_24 rfl rfl ?_
      refine sim_aload_n 0 d_X7_reckonChance_25 rfl rfl ?_
      refine sim_geti d_X7_reckonChance_26 fl_X7_16 ob_C_11 rfl ?_
      refine sim_iload 3 d_X7_reckonChance_29 rfl ?_
      refine sim_callSl Y_X7_waysToChoose 0 [.int (mI M 11 1), .int (x4)] [.long (x2)] d_X7_reckonChance_31 lk_X7_41 cs_X7_waysToChoose rfl (by omega) (Nat.le_of_ble_eq_true rfl) (ct_X7_waysToChoose (mI M 11 1) x4 M) (fun r1 M1 => ?_)
      refine sim_aload_n 0 d_X7_reckonChance_34 rfl rfl ?_
      refine sim_geti d_X7_reckonChance_35 fl_X7_23 ob_C_11 rfl ?_
      refine sim_iload_n 1 d_X7_reckonChance_38 rfl rfl ?_
      refine sim_iload 3 d_X7_reckonChance_39 rfl ?_
      refine sim_isub d_X7_reckonChance_41 ?_
      refine sim_callSl Y_X7_waysToChoose 0 [.int (mI M1 11 3), .int (x1 - x4)] [.long (r1), .long (x2)] d_X7_reckonChance_42 lk_X7_41 cs_X7_waysToChoose rfl (by omega) (Nat.le_of_ble_eq_true rfl) (ct_X7_waysToChoose (mI M1 11 3) (x1 - x4) M1) (fun r2 M2 => ?_)
      refine sim_lmul d_X7_reckonChance_45 ?_
      refine sim_ladd d_X7_reckonChance_46 ?_
      refine sim_nml (fun v1 => ?_)
      refine sim_lstore_n (L' := [(0, .ref 11), (1, .int (x1)), (4, .int (x4)), (2, .long (v1))]) d_X7_reckonChance_47 rfl (Nat.le_of_ble_eq_true rfl) rfl ?_
      refine sim_iinc (v := x4 + (1 : Int32)) (L' := [(0, .ref 11), (1, .int (x1)), (2, .long (v1)), (4, .int (x4 + (1 : Int32)))]) 2 d_X7_reckonChance_48 (Nat.le_of_ble_eq_true rfl) rfl rfl rfl ?_
      refine sim_goto d_X7_reckonChance_51 ?_
      exact sim_sub [0, 1, 2, 3] rfl (ih x1 v1 (x4 + (1 : Int32)) M2)
def f_X7_reckonChance_54 (x1 : Int32) (x2 : Int64) (M : mm_M) : Option (mm_M) :=
  mm_bi (f_X7_waysToChoose ((mI M 11 1) + (mI M 11 3)) x1 M) (fun r1 M1 =>
  mm_bv (f_X3_become_12 x2 r1 M1) (fun M2 =>
  some M2))
theorem s_X7_reckonChance_54 (x1 : Int32) (x2 : Int64) (M : mm_M) : Sim sysC Y_X7_reckonChance 2 54 [(0, .ref 11), (1, .int (x1)), (2, .long (x2))] [] M mm_fV (f_X7_reckonChance_54 x1 x2 M) := by
  unfold f_X7_reckonChance_54
  refine sim_aload_n 0 d_X7_reckonChance_54 rfl rfl ?_
  refine sim_geta d_X7_reckonChance_55 fl_X7_10 ob_C_11 rfl ?_
  refine sim_lload_n 2 d_X7_reckonChance_58 rfl rfl ?_
  refine sim_aload_n 0 d_X7_reckonChance_59 rfl rfl ?_
  refine sim_geti d_X7_reckonChance_60 fl_X7_16 ob_C_11 rfl ?_
  refine sim_aload_n 0 d_X7_reckonChance_63 rfl rfl ?_
  refine sim_geti d_X7_reckonChance_64 fl_X7_23 ob_C_11 rfl ?_
  refine sim_iadd d_X7_reckonChance_67 ?_
  refine sim_iload_n 1 d_X7_reckonChance_68 rfl rfl ?_
  refine sim_callSl Y_X7_waysToChoose 0 [.int ((mI M 11 1) + (mI M 11 3)), .int (x1)] [.long (x2), .ref 12] d_X7_reckonChance_69 lk_X7_41 cs_X7_waysToChoose rfl (by omega) (Nat.le_of_ble_eq_true rfl) (ct_X7_waysToChoose ((mI M 11 1) + (mI M 11 3)) x1 M) (fun r1 M1 => ?_)
  refine sim_callVv Y_X3_become 1 [.long (x2), .long (r1)] [] d_X7_reckonChance_72 lk_X7_45 cv_X3_become ob_C_12 rfl (by omega) (Nat.le_of_ble_eq_true rfl) (ct_X3_become_12 x2 r1 M1) (fun M2 => ?_)
  exact sim_vret d_X7_reckonChance_75 rfl
def f_X7_reckonChance (M : mm_M) : Option (mm_M) :=
  mm_let ((mI M 11 2) + (mI M 11 4)) (fun v1 =>
  f_X7_reckonChance_15 f_X7_reckonChance_54 mm_fu v1 (0 : Int64) (0 : Int32) M)
theorem s_X7_reckonChance (M : mm_M) : Sim sysC Y_X7_reckonChance 2 0 [(0, .ref 11)] [] M mm_fV (f_X7_reckonChance M) := by
  unfold f_X7_reckonChance
  refine sim_aload_n 0 d_X7_reckonChance_0 rfl rfl ?_
  refine sim_geti d_X7_reckonChance_1 fl_X7_20 ob_C_11 rfl ?_
  refine sim_aload_n 0 d_X7_reckonChance_4 rfl rfl ?_
  refine sim_geti d_X7_reckonChance_5 fl_X7_26 ob_C_11 rfl ?_
  refine sim_iadd d_X7_reckonChance_8 ?_
  refine sim_nmi (fun v1 => ?_)
  refine sim_istore_n (L' := [(0, .ref 11), (1, .int (v1))]) d_X7_reckonChance_9 rfl (Nat.le_of_ble_eq_true rfl) rfl ?_
  refine sim_lconst (0 : Int64) d_X7_reckonChance_10 rfl ?_
  refine sim_lstore_n (L' := [(0, .ref 11), (1, .int (v1)), (2, .long ((0 : Int64)))]) d_X7_reckonChance_11 rfl (Nat.le_of_ble_eq_true rfl) rfl ?_
  refine sim_iconst (0 : Int32) d_X7_reckonChance_12 rfl ?_
  refine sim_istore (L' := [(0, .ref 11), (1, .int (v1)), (2, .long ((0 : Int64))), (4, .int ((0 : Int32)))]) d_X7_reckonChance_13 (Nat.le_of_ble_eq_true rfl) rfl ?_
  exact sim_sub [0, 1, 2, 3] rfl (s_X7_reckonChance_15 f_X7_reckonChance_54 s_X7_reckonChance_54 mm_fu v1 (0 : Int64) (0 : Int32) M)
theorem ct_X7_reckonChance (M : mm_M) : Ct sysC Y_X7_reckonChance 2 [.ref 11] M mm_fV (f_X7_reckonChance M) :=
  ct_of_sim (by decide) rfl (Nat.le_of_ble_eq_true rfl) (s_X7_reckonChance M)
def f_X7_tell (a1 : Int32) (M : mm_M) : Option (Int64 × mm_M) :=
  mm_bv (f_X7_reckonChance M) (fun M1 =>
  mm_case a1 [0, 1, 2, 3, 4, 5] [
    some (mL M1 12 0, M1),
    some (mL M1 12 1, M1),
    some ((mI M1 11 1).toInt64, M1),
    some ((mI M1 11 2).toInt64, M1),
    some ((mI M1 11 3).toInt64, M1),
    some ((mI M1 11 4).toInt64, M1)]
  (
    if 0 < (lg_cmp ((mL M1 12 0) * (20 : Int64)) (mL M1 12 1)) then
      some ((0 : Int64), M1)
    else
      some ((1 : Int64), M1)))
theorem s_X7_tell (a1 : Int32) (M : mm_M) : Sim sysC Y_X7_tell 3 0 [(0, .ref 11), (1, .int (a1))] [] M mm_fL (f_X7_tell a1 M) := by
  unfold f_X7_tell
  refine sim_aload_n 0 d_X7_tell_0 rfl rfl ?_
  refine sim_callVv Y_X7_reckonChance 2 [] [] d_X7_tell_1 lk_X7_29 cv_X7_reckonChance ob_C_11 rfl (by omega) (Nat.le_of_ble_eq_true rfl) (ct_X7_reckonChance M) (fun M1 => ?_)
  refine sim_iload_n 1 d_X7_tell_4 rfl rfl ?_
  refine sim_tsw (td := 84) [44, 52, 60, 66, 72, 78] d_X7_tell_5 (by decide +kernel) ⟨?_, ?_, ?_, ?_, ?_, ?_, trivial⟩ ?_
  ·
    refine sim_aload_n 0 d_X7_tell_44 rfl rfl ?_
    refine sim_geta d_X7_tell_45 fl_X7_10 ob_C_11 rfl ?_
    refine sim_getl d_X7_tell_48 fl_X7_32 ob_C_12 rfl ?_
    exact sim_lret d_X7_tell_51 rfl
  ·
    refine sim_aload_n 0 d_X7_tell_52 rfl rfl ?_
    refine sim_geta d_X7_tell_53 fl_X7_10 ob_C_11 rfl ?_
    refine sim_getl d_X7_tell_56 fl_X7_36 ob_C_12 rfl ?_
    exact sim_lret d_X7_tell_59 rfl
  ·
    refine sim_aload_n 0 d_X7_tell_60 rfl rfl ?_
    refine sim_geti d_X7_tell_61 fl_X7_16 ob_C_11 rfl ?_
    refine sim_i2l d_X7_tell_64 ?_
    exact sim_lret d_X7_tell_65 rfl
  ·
    refine sim_aload_n 0 d_X7_tell_66 rfl rfl ?_
    refine sim_geti d_X7_tell_67 fl_X7_20 ob_C_11 rfl ?_
    refine sim_i2l d_X7_tell_70 ?_
    exact sim_lret d_X7_tell_71 rfl
  ·
    refine sim_aload_n 0 d_X7_tell_72 rfl rfl ?_
    refine sim_geti d_X7_tell_73 fl_X7_23 ob_C_11 rfl ?_
    refine sim_i2l d_X7_tell_76 ?_
    exact sim_lret d_X7_tell_77 rfl
  ·
    refine sim_aload_n 0 d_X7_tell_78 rfl rfl ?_
    refine sim_geti d_X7_tell_79 fl_X7_26 ob_C_11 rfl ?_
    refine sim_i2l d_X7_tell_82 ?_
    exact sim_lret d_X7_tell_83 rfl
  ·
    refine sim_aload_n 0 d_X7_tell_84 rfl rfl ?_
    refine sim_geta d_X7_tell_85 fl_X7_10 ob_C_11 rfl ?_
    refine sim_getl d_X7_tell_88 fl_X7_32 ob_C_12 rfl ?_
    refine sim_ldc2 (20 : Int64) d_X7_tell_91 kn_X7_39 ?_
    refine sim_lmul d_X7_tell_94 ?_
    refine sim_aload_n 0 d_X7_tell_95 rfl rfl ?_
    refine sim_geta d_X7_tell_96 fl_X7_10 ob_C_11 rfl ?_
    refine sim_getl d_X7_tell_99 fl_X7_36 ob_C_12 rfl ?_
    refine sim_lcmp d_X7_tell_102 ?_
    refine sim_if_gt d_X7_tell_103 ?_ ?_
    ·
      refine sim_lconst (0 : Int64) d_X7_tell_110 rfl ?_
      exact sim_lret d_X7_tell_111 rfl
    ·
      refine sim_lconst (1 : Int64) d_X7_tell_106 rfl ?_
      refine sim_goto d_X7_tell_107 ?_
      exact sim_lret d_X7_tell_111 rfl
theorem ct_X7_tell (a1 : Int32) (M : mm_M) : Ct sysC Y_X7_tell 3 [.ref 11, .int (a1)] M mm_fL (f_X7_tell a1 M) :=
  ct_of_sim (by decide) rfl (Nat.le_of_ble_eq_true rfl) (s_X7_tell a1 M)
def f_X11_tableRefusal (a1 : Int32) (a2 : Int32) (M : mm_M) : Option (Int32 × mm_M) :=
  if a2 < 0 then
    some ((-2 : Int32), M)
  else
    if a2 < (7 : Int32) then
      mm_bi (f_X11_outside a1 (0 : Int32) (2000 : Int32) M) (fun r1 M1 =>
      some (r1, M1))
    else
      some ((-2 : Int32), M)
theorem s_X11_tableRefusal (a1 : Int32) (a2 : Int32) (M : mm_M) : Sim sysC Y_X11_tableRefusal 1 0 [(0, .int (a1)), (1, .int (a2))] [] M mm_fI (f_X11_tableRefusal a1 a2 M) := by
  unfold f_X11_tableRefusal
  refine sim_iload_n 1 d_X11_tableRefusal_0 rfl rfl ?_
  refine sim_if_lt d_X11_tableRefusal_1 ?_ ?_
  ·
    refine sim_bipush (-2 : Int32) d_X11_tableRefusal_10 rfl ?_
    exact sim_iret d_X11_tableRefusal_12 rfl
  ·
    refine sim_iload_n 1 d_X11_tableRefusal_4 rfl rfl ?_
    refine sim_bipush (7 : Int32) d_X11_tableRefusal_5 rfl ?_
    refine sim_icmp_lt d_X11_tableRefusal_7 ?_ ?_
    ·
      refine sim_iload_n 0 d_X11_tableRefusal_13 rfl rfl ?_
      refine sim_iconst (0 : Int32) d_X11_tableRefusal_14 rfl ?_
      refine sim_sipush (2000 : Int32) d_X11_tableRefusal_15 rfl ?_
      refine sim_callSi Y_X11_outside 0 [.int (a1), .int ((0 : Int32)), .int ((2000 : Int32))] [] d_X11_tableRefusal_18 lk_X11_131 cs_X11_outside rfl (by omega) (Nat.le_of_ble_eq_true rfl) (ct_X11_outside a1 (0 : Int32) (2000 : Int32) M) (fun r1 M1 => ?_)
      exact sim_iret d_X11_tableRefusal_21 rfl
    ·
      refine sim_bipush (-2 : Int32) d_X11_tableRefusal_10 rfl ?_
      exact sim_iret d_X11_tableRefusal_12 rfl
theorem ct_X11_tableRefusal (a1 : Int32) (a2 : Int32) (M : mm_M) : Ct sysC Y_X11_tableRefusal 1 [.int (a1), .int (a2)] M mm_fI (f_X11_tableRefusal a1 a2 M) :=
  ct_of_sim (by decide) rfl (Nat.le_of_ble_eq_true rfl) (s_X11_tableRefusal a1 a2 M)
def f_X7_clear (M : mm_M) : Option (mm_M) :=
  mm_let (sI M 11 1 (0 : Int32)) (fun M1 =>
  mm_let (sI M1 11 2 (0 : Int32)) (fun M2 =>
  mm_let (sI M2 11 3 (0 : Int32)) (fun M3 =>
  mm_let (sI M3 11 4 (0 : Int32)) (fun M4 =>
  some M4))))
theorem s_X7_clear (M : mm_M) : Sim sysC Y_X7_clear 0 0 [(0, .ref 11)] [] M mm_fV (f_X7_clear M) := by
  unfold f_X7_clear
  refine sim_aload_n 0 d_X7_clear_0 rfl rfl ?_
  refine sim_iconst (0 : Int32) d_X7_clear_1 rfl ?_
  refine sim_puti d_X7_clear_2 fl_X7_16 ob_C_11 rfl ?_
  refine sim_nmM (fun M1 => ?_)
  refine sim_aload_n 0 d_X7_clear_5 rfl rfl ?_
  refine sim_iconst (0 : Int32) d_X7_clear_6 rfl ?_
  refine sim_puti d_X7_clear_7 fl_X7_20 ob_C_11 rfl ?_
  refine sim_nmM (fun M2 => ?_)
  refine sim_aload_n 0 d_X7_clear_10 rfl rfl ?_
  refine sim_iconst (0 : Int32) d_X7_clear_11 rfl ?_
  refine sim_puti d_X7_clear_12 fl_X7_23 ob_C_11 rfl ?_
  refine sim_nmM (fun M3 => ?_)
  refine sim_aload_n 0 d_X7_clear_15 rfl rfl ?_
  refine sim_iconst (0 : Int32) d_X7_clear_16 rfl ?_
  refine sim_puti d_X7_clear_17 fl_X7_26 ob_C_11 rfl ?_
  refine sim_nmM (fun M4 => ?_)
  exact sim_vret d_X7_clear_20 rfl
theorem ct_X7_clear (M : mm_M) : Ct sysC Y_X7_clear 0 [.ref 11] M mm_fV (f_X7_clear M) :=
  ct_of_sim (by decide) rfl (Nat.le_of_ble_eq_true rfl) (s_X7_clear M)
def f_X11_helped_84 (k45 : Int32 → Int32 → Int32 → mm_M → Option (Int64 × mm_M)) (x1 : Int32) (x2 : Int32) (x4 : Int32) (M : mm_M) : Option (Int64 × mm_M) :=
  k45 x1 x2 (x4 + (1 : Int32)) M
theorem s_X11_helped_84 (k45 : Int32 → Int32 → Int32 → mm_M → Option (Int64 × mm_M)) (hk45 : ∀ (x1 : Int32) (x2 : Int32) (x4 : Int32) (M : mm_M), Sim sysC Y_X11_helped 5 45 [(0, .ref 0), (1, .int (x1)), (2, .int (x2)), (4, .int (x4))] [] M mm_fL (k45 x1 x2 x4 M)) (x1 : Int32) (x2 : Int32) (x4 : Int32) (M : mm_M) : Sim sysC Y_X11_helped 5 84 [(0, .ref 0), (1, .int (x1)), (2, .int (x2)), (4, .int (x4))] [] M mm_fL (f_X11_helped_84 k45 x1 x2 x4 M) := by
  unfold f_X11_helped_84
  refine sim_iinc (v := x4 + (1 : Int32)) (L' := [(0, .ref 0), (1, .int (x1)), (2, .int (x2)), (4, .int (x4 + (1 : Int32)))]) 3 d_X11_helped_84 (Nat.le_of_ble_eq_true rfl) rfl rfl rfl ?_
  refine sim_goto d_X11_helped_87 ?_
  exact sim_sub [0, 1, 2, 3] rfl (hk45 x1 x2 (x4 + (1 : Int32)) M)
def f_X11_helped_45 (k90 : Int32 → mm_M → Option (Int64 × mm_M)) : Nat → Int32 → Int32 → Int32 → mm_M → Option (Int64 × mm_M)
  | 0, _, _, _, _ => none
  | n + 1, x1, x2, x4, M =>
  if (mI M 2 8) ≤ x4 then
    k90 x2 M
  else
    mm_ck x4 40 (
    if (mI M 51 x4.toNatClampNeg) = 0 then
      f_X11_helped_84 (f_X11_helped_45 k90 n) x1 x2 x4 M
    else
      mm_ck x4 40 (
      mm_bv (f_X11_enter x4 (mI M 16 x4.toNatClampNeg) x1 M) (fun M1 =>
      f_X11_helped_84 (f_X11_helped_45 k90 n) x1 x2 x4 M1)))
theorem s_X11_helped_45 (k90 : Int32 → mm_M → Option (Int64 × mm_M)) (hk90 : ∀ (x2 : Int32) (M : mm_M), Sim sysC Y_X11_helped 5 90 [(0, .ref 0), (2, .int (x2))] [] M mm_fL (k90 x2 M)) (n : Nat) : ∀ (x1 : Int32) (x2 : Int32) (x4 : Int32) (M : mm_M), Sim sysC Y_X11_helped 5 45 [(0, .ref 0), (1, .int (x1)), (2, .int (x2)), (4, .int (x4))] [] M mm_fL (f_X11_helped_45 k90 n x1 x2 x4 M) := by
  induction n with
  | zero => intros; exact sim_none
  | succ n ih =>
    intro x1 x2 x4 M
    rw [f_X11_helped_45]
    refine sim_iload 3 d_X11_helped_45 rfl ?_
    refine sim_aload_n 0 d_X11_helped_47 rfl rfl ?_
    refine sim_geta d_X11_helped_48 fl_X11_20 ob_C_0 rfl ?_
    refine sim_geti d_X11_helped_51 fl_X11_119 ob_C_2 rfl ?_
    refine sim_icmp_ge d_X11_helped_54 ?_ ?_
    ·
      exact sim_sub [0, 2] rfl (hk90 x2 M)
    ·
      refine sim_aload_n 0 d_X11_helped_57 rfl rfl ?_
      refine sim_geta d_X11_helped_58 fl_X11_39 ob_C_0 rfl ?_
      refine sim_geta d_X11_helped_61 fl_X11_192 ob_C_6 rfl ?_
      refine sim_iload 3 d_X11_helped_64 rfl ?_
      refine sim_zald d_X11_helped_66 ar_C_51 ?_
      refine sim_if_eq d_X11_helped_67 ?_ ?_
      ·
        exact sim_sub [0, 1, 2, 3] rfl (s_X11_helped_84 (f_X11_helped_45 k90 n) ih x1 x2 x4 M)
      ·
        refine sim_aload_n 0 d_X11_helped_70 rfl rfl ?_
        refine sim_iload 3 d_X11_helped_71 rfl ?_
        refine sim_aload_n 0 d_X11_helped_73 rfl rfl ?_
        refine sim_geta d_X11_helped_74 fl_X11_94 ob_C_0 rfl ?_
        refine sim_iload 3 d_X11_helped_77 rfl ?_
        refine sim_zald d_X11_helped_79 ar_C_16 ?_
        refine sim_iload_n 1 d_X11_helped_80 rfl rfl ?_
        refine sim_callVv Y_X11_enter 2 [.int (x4), .int (mI M 16 x4.toNatClampNeg), .int (x1)] [] d_X11_helped_81 lk_X11_333 cv_X11_enter ob_C_0 rfl (by omega) (Nat.le_of_ble_eq_true rfl) (ct_X11_enter x4 (mI M 16 x4.toNatClampNeg) x1 M) (fun M1 => ?_)
        exact sim_sub [0, 1, 2, 3] rfl (s_X11_helped_84 (f_X11_helped_45 k90 n) ih x1 x2 x4 M1)
def f_X11_helped_90 (x2 : Int32) (M : mm_M) : Option (Int64 × mm_M) :=
  mm_bi (f_X7_tell x2 M) (fun r1 M1 =>
  some (r1, M1))
theorem s_X11_helped_90 (x2 : Int32) (M : mm_M) : Sim sysC Y_X11_helped 5 90 [(0, .ref 0), (2, .int (x2))] [] M mm_fL (f_X11_helped_90 x2 M) := by
  unfold f_X11_helped_90
  refine sim_aload_n 0 d_X11_helped_90 rfl rfl ?_
  refine sim_geta d_X11_helped_91 fl_X11_70 ob_C_0 rfl ?_
  refine sim_iload_n 1 d_X11_helped_94 rfl rfl ?_
  refine sim_callVl Y_X7_tell 3 [.int (x2)] [] d_X11_helped_95 lk_X11_337 cv_X7_tell ob_C_11 rfl (by omega) (Nat.le_of_ble_eq_true rfl) (ct_X7_tell x2 M) (fun r1 M1 => ?_)
  exact sim_lret d_X11_helped_98 rfl
def f_X11_helped (a1 : Int32) (a2 : Int32) (M : mm_M) : Option (Int64 × mm_M) :=
  mm_bi (f_X11_tableRefusal a1 a2 M) (fun r1 M1 =>
  if r1 = 0 then
    mm_bv (f_X10_weigh (mI M1 0 16) (mI M1 4 7) M1) (fun M2 =>
    mm_bv (f_X7_clear M2) (fun M3 =>
    f_X11_helped_45 f_X11_helped_90 mm_fu a1 a2 (0 : Int32) M3))
  else
    mm_bi (f_X11_refuse r1 M1) (fun r2 M4 =>
    some ((r2).toInt64, M4)))
theorem s_X11_helped (a1 : Int32) (a2 : Int32) (M : mm_M) : Sim sysC Y_X11_helped 5 0 [(0, .ref 0), (1, .int (a1)), (2, .int (a2))] [] M mm_fL (f_X11_helped a1 a2 M) := by
  unfold f_X11_helped
  refine sim_iload_n 1 d_X11_helped_0 rfl rfl ?_
  refine sim_iload_n 2 d_X11_helped_1 rfl rfl ?_
  refine sim_callSi Y_X11_tableRefusal 1 [.int (a1), .int (a2)] [] d_X11_helped_2 lk_X11_327 cs_X11_tableRefusal rfl (by omega) (Nat.le_of_ble_eq_true rfl) (ct_X11_tableRefusal a1 a2 M) (fun r1 M1 => ?_)
  refine sim_istore_n (L' := [(0, .ref 0), (1, .int (a1)), (2, .int (a2)), (3, .int (r1))]) d_X11_helped_5 rfl (Nat.le_of_ble_eq_true rfl) rfl ?_
  refine sim_iload_n 3 d_X11_helped_6 rfl rfl ?_
  refine sim_if_eq d_X11_helped_7 ?_ ?_
  ·
    refine sim_aload_n 0 d_X11_helped_17 rfl rfl ?_
    refine sim_geta d_X11_helped_18 fl_X11_10 ob_C_0 rfl ?_
    refine sim_aload_n 0 d_X11_helped_21 rfl rfl ?_
    refine sim_geti d_X11_helped_22 fl_X11_102 ob_C_0 rfl ?_
    refine sim_aload_n 0 d_X11_helped_25 rfl rfl ?_
    refine sim_geta d_X11_helped_26 fl_X11_30 ob_C_0 rfl ?_
    refine sim_geti d_X11_helped_29 fl_X11_258 ob_C_4 rfl ?_
    refine sim_callVv Y_X10_weigh 4 [.int (mI M1 0 16), .int (mI M1 4 7)] [] d_X11_helped_32 lk_X11_274 cv_X10_weigh ob_C_1 rfl (by omega) (Nat.le_of_ble_eq_true rfl) (ct_X10_weigh (mI M1 0 16) (mI M1 4 7) M1) (fun M2 => ?_)
    refine sim_aload_n 0 d_X11_helped_35 rfl rfl ?_
    refine sim_geta d_X11_helped_36 fl_X11_70 ob_C_0 rfl ?_
    refine sim_callVv Y_X7_clear 0 [] [] d_X11_helped_39 lk_X11_330 cv_X7_clear ob_C_11 rfl (by omega) (Nat.le_of_ble_eq_true rfl) (ct_X7_clear M2) (fun M3 => ?_)
    refine sim_iconst (0 : Int32) d_X11_helped_42 rfl ?_
    refine sim_istore (L' := [(0, .ref 0), (1, .int (a1)), (2, .int (a2)), (3, .int (r1)), (4, .int ((0 : Int32)))]) d_X11_helped_43 (Nat.le_of_ble_eq_true rfl) rfl ?_
    exact sim_sub [0, 1, 2, 4] rfl (s_X11_helped_45 f_X11_helped_90 s_X11_helped_90 mm_fu a1 a2 (0 : Int32) M3)
  ·
    refine sim_aload_n 0 d_X11_helped_10 rfl rfl ?_
    refine sim_iload_n 3 d_X11_helped_11 rfl rfl ?_
    refine sim_callVi Y_X11_refuse 0 [.int (r1)] [] d_X11_helped_12 lk_X11_108 cv_X11_refuse ob_C_0 rfl (by omega) (Nat.le_of_ble_eq_true rfl) (ct_X11_refuse r1 M1) (fun r2 M4 => ?_)
    refine sim_i2l d_X11_helped_15 ?_
    exact sim_lret d_X11_helped_16 rfl
theorem ct_X11_helped (a1 : Int32) (a2 : Int32) (M : mm_M) : Ct sysC Y_X11_helped 5 [.ref 0, .int (a1), .int (a2)] M mm_fL (f_X11_helped a1 a2 M) :=
  ct_of_sim (by decide) rfl (Nat.le_of_ble_eq_true rfl) (s_X11_helped a1 a2 M)
def f_X11_wards_141 (k75 : Int32 → Int32 → Int32 → Int32 → Int32 → mm_M → Option (Int64 × mm_M)) (x1 : Int32) (x2 : Int32) (x3 : Int32) (x4 : Int32) (x6 : Int32) (M : mm_M) : Option (Int64 × mm_M) :=
  k75 x1 x2 x3 x4 (x6 + (1 : Int32)) M
theorem s_X11_wards_141 (k75 : Int32 → Int32 → Int32 → Int32 → Int32 → mm_M → Option (Int64 × mm_M)) (hk75 : ∀ (x1 : Int32) (x2 : Int32) (x3 : Int32) (x4 : Int32) (x6 : Int32) (M : mm_M), Sim sysC Y_X11_wards 5 75 [(0, .ref 0), (1, .int (x1)), (2, .int (x2)), (3, .int (x3)), (4, .int (x4)), (6, .int (x6))] [] M mm_fL (k75 x1 x2 x3 x4 x6 M)) (x1 : Int32) (x2 : Int32) (x3 : Int32) (x4 : Int32) (x6 : Int32) (M : mm_M) : Sim sysC Y_X11_wards 5 141 [(0, .ref 0), (1, .int (x1)), (2, .int (x2)), (3, .int (x3)), (4, .int (x4)), (6, .int (x6))] [] M mm_fL (f_X11_wards_141 k75 x1 x2 x3 x4 x6 M) := by
  unfold f_X11_wards_141
  refine sim_iinc (v := x6 + (1 : Int32)) (L' := [(0, .ref 0), (1, .int (x1)), (2, .int (x2)), (3, .int (x3)), (4, .int (x4)), (6, .int (x6 + (1 : Int32)))]) 5 d_X11_wards_141 (Nat.le_of_ble_eq_true rfl) rfl rfl rfl ?_
  refine sim_goto d_X11_wards_144 ?_
  exact sim_sub [0, 1, 2, 3, 4, 5] rfl (hk75 x1 x2 x3 x4 (x6 + (1 : Int32)) M)
def f_X11_wards_137 (k75 : Int32 → Int32 → Int32 → Int32 → Int32 → mm_M → Option (Int64 × mm_M)) (x1 : Int32) (x2 : Int32) (x3 : Int32) (x4 : Int32) (x6 : Int32) (t1 : Int32) (t2 : Int32) (M : mm_M) : Option (Int64 × mm_M) :=
  mm_bv (f_X11_enter t1 t2 x3 M) (fun M1 =>
  f_X11_wards_141 k75 x1 x2 x3 x4 x6 M1)
theorem s_X11_wards_137 (k75 : Int32 → Int32 → Int32 → Int32 → Int32 → mm_M → Option (Int64 × mm_M)) (hk75 : ∀ (x1 : Int32) (x2 : Int32) (x3 : Int32) (x4 : Int32) (x6 : Int32) (M : mm_M), Sim sysC Y_X11_wards 5 75 [(0, .ref 0), (1, .int (x1)), (2, .int (x2)), (3, .int (x3)), (4, .int (x4)), (6, .int (x6))] [] M mm_fL (k75 x1 x2 x3 x4 x6 M)) (x1 : Int32) (x2 : Int32) (x3 : Int32) (x4 : Int32) (x6 : Int32) (t1 : Int32) (t2 : Int32) (M : mm_M) : Sim sysC Y_X11_wards 5 137 [(0, .ref 0), (1, .int (x1)), (2, .int (x2)), (3, .int (x3)), (4, .int (x4)), (6, .int (x6))] [.int (t2), .int (t1), .ref 0] M mm_fL (f_X11_wards_137 k75 x1 x2 x3 x4 x6 t1 t2 M) := by
  unfold f_X11_wards_137
  refine sim_iload_n 3 d_X11_wards_137 rfl rfl ?_
  refine sim_callVv Y_X11_enter 2 [.int (t1), .int (t2), .int (x3)] [] d_X11_wards_138 lk_X11_333 cv_X11_enter ob_C_0 rfl (by omega) (Nat.le_of_ble_eq_true rfl) (ct_X11_enter t1 t2 x3 M) (fun M1 => ?_)
  exact sim_sub [0, 1, 2, 3, 4, 5] rfl (s_X11_wards_141 k75 hk75 x1 x2 x3 x4 x6 M1)
def f_X11_wards_115 (k75 : Int32 → Int32 → Int32 → Int32 → Int32 → mm_M → Option (Int64 × mm_M)) (x1 : Int32) (x2 : Int32) (x3 : Int32) (x4 : Int32) (x6 : Int32) (M : mm_M) : Option (Int64 × mm_M) :=
  mm_ck x6 40 (
  if (mI M 27 x6.toNatClampNeg) = x1 then
    f_X11_wards_137 k75 x1 x2 x3 x4 x6 x6 (1 : Int32) M
  else
    f_X11_wards_137 k75 x1 x2 x3 x4 x6 x6 (0 : Int32) M)
theorem s_X11_wards_115 (k75 : Int32 → Int32 → Int32 → Int32 → Int32 → mm_M → Option (Int64 × mm_M)) (hk75 : ∀ (x1 : Int32) (x2 : Int32) (x3 : Int32) (x4 : Int32) (x6 : Int32) (M : mm_M), Sim sysC Y_X11_wards 5 75 [(0, .ref 0), (1, .int (x1)), (2, .int (x2)), (3, .int (x3)), (4, .int (x4)), (6, .int (x6))] [] M mm_fL (k75 x1 x2 x3 x4 x6 M)) (x1 : Int32) (x2 : Int32) (x3 : Int32) (x4 : Int32) (x6 : Int32) (M : mm_M) : Sim sysC Y_X11_wards 5 115 [(0, .ref 0), (1, .int (x1)), (2, .int (x2)), (3, .int (x3)), (4, .int (x4)), (6, .int (x6))] [] M mm_fL (f_X11_wards_115 k75 x1 x2 x3 x4 x6 M) := by
  unfold f_X11_wards_115
  refine sim_aload_n 0 d_X11_wards_115 rfl rfl ?_
  refine sim_iload 5 d_X11_wards_116 rfl ?_
  refine sim_aload_n 0 d_X11_wards_118 rfl rfl ?_
  refine sim_geta d_X11_wards_119 fl_X11_20 ob_C_0 rfl ?_
  refine sim_geta d_X11_wards_122 fl_X11_339 ob_C_2 rfl ?_
  refine sim_iload 5 d_X11_wards_125 rfl ?_
  refine sim_iald d_X11_wards_127 ar_C_27 ?_
  refine sim_iload_n 1 d_X11_wards_128 rfl rfl ?_
  refine sim_icmp_ne d_X11_wards_129 ?_ ?_
  ·
    refine sim_iconst (0 : Int32) d_X11_wards_136 rfl ?_
    exact sim_sub [0, 1, 2, 3, 4, 5] rfl (s_X11_wards_137 k75 hk75 x1 x2 x3 x4 x6 x6 (0 : Int32) M)
  ·
    refine sim_iconst (1 : Int32) d_X11_wards_132 rfl ?_
    refine sim_goto d_X11_wards_133 ?_
    exact sim_sub [0, 1, 2, 3, 4, 5] rfl (s_X11_wards_137 k75 hk75 x1 x2 x3 x4 x6 x6 (1 : Int32) M)
def f_X11_wards_75 (k147 : Int32 → mm_M → Option (Int64 × mm_M)) : Nat → Int32 → Int32 → Int32 → Int32 → Int32 → mm_M → Option (Int64 × mm_M)
  | 0, _, _, _, _, _, _ => none
  | n + 1, x1, x2, x3, x4, x6, M =>
  if (mI M 2 8) ≤ x6 then
    k147 x4 M
  else
    mm_ck x6 40 (
    if (mI M 27 x6.toNatClampNeg) = x1 then
      f_X11_wards_115 (f_X11_wards_75 k147 n) x1 x2 x3 x4 x6 M
    else
      mm_ck x6 40 (
      if (mI M 27 x6.toNatClampNeg) = x2 then
        f_X11_wards_115 (f_X11_wards_75 k147 n) x1 x2 x3 x4 x6 M
      else
        f_X11_wards_141 (f_X11_wards_75 k147 n) x1 x2 x3 x4 x6 M))
theorem s_X11_wards_75 (k147 : Int32 → mm_M → Option (Int64 × mm_M)) (hk147 : ∀ (x4 : Int32) (M : mm_M), Sim sysC Y_X11_wards 5 147 [(0, .ref 0), (4, .int (x4))] [] M mm_fL (k147 x4 M)) (n : Nat) : ∀ (x1 : Int32) (x2 : Int32) (x3 : Int32) (x4 : Int32) (x6 : Int32) (M : mm_M), Sim sysC Y_X11_wards 5 75 [(0, .ref 0), (1, .int (x1)), (2, .int (x2)), (3, .int (x3)), (4, .int (x4)), (6, .int (x6))] [] M mm_fL (f_X11_wards_75 k147 n x1 x2 x3 x4 x6 M) := by
  induction n with
  | zero => intros; exact sim_none
  | succ n ih =>
    intro x1 x2 x3 x4 x6 M
    rw [f_X11_wards_75]
    refine sim_iload 5 d_X11_wards_75 rfl ?_
    refine sim_aload_n 0 d_X11_wards_77 rfl rfl ?_
    refine sim_geta d_X11_wards_78 fl_X11_20 ob_C_0 rfl ?_
    refine sim_geti d_X11_wards_81 fl_X11_119 ob_C_2 rfl ?_
    refine sim_icmp_ge d_X11_wards_84 ?_ ?_
    ·
      exact sim_sub [0, 4] rfl (hk147 x4 M)
    ·
      refine sim_aload_n 0 d_X11_wards_87 rfl rfl ?_
      refine sim_geta d_X11_wards_88 fl_X11_20 ob_C_0 rfl ?_
      refine sim_geta d_X11_wards_91 fl_X11_339 ob_C_2 rfl ?_
      refine sim_iload 5 d_X11_wards_94 rfl ?_
      refine sim_iald d_X11_wards_96 ar_C_27 ?_
      refine sim_iload_n 1 d_X11_wards_97 rfl rfl ?_
      refine sim_icmp_eq d_X11_wards_98 ?_ ?_
      ·
        exact sim_sub [0, 1, 2, 3, 4, 5] rfl (s_X11_wards_115 (f_X11_wards_75 k147 n) ih x1 x2 x3 x4 x6 M)
      ·
        refine sim_aload_n 0 d_X11_wards_101 rfl rfl ?_
        refine sim_geta d_X11_wards_102 fl_X11_20 ob_C_0 rfl ?_
        refine sim_geta d_X11_wards_105 fl_X11_339 ob_C_2 rfl ?_
        refine sim_iload 5 d_X11_wards_108 rfl ?_
        refine sim_iald d_X11_wards_110 ar_C_27 ?_
        refine sim_iload_n 2 d_X11_wards_111 rfl rfl ?_
        refine sim_icmp_ne d_X11_wards_112 ?_ ?_
        ·
          exact sim_sub [0, 1, 2, 3, 4, 5] rfl (s_X11_wards_141 (f_X11_wards_75 k147 n) ih x1 x2 x3 x4 x6 M)
        ·
          exact sim_sub [0, 1, 2, 3, 4, 5] rfl (s_X11_wards_115 (f_X11_wards_75 k147 n) ih x1 x2 x3 x4 x6 M)
def f_X11_wards_147 (x4 : Int32) (M : mm_M) : Option (Int64 × mm_M) :=
  mm_bi (f_X7_tell x4 M) (fun r1 M1 =>
  some (r1, M1))
theorem s_X11_wards_147 (x4 : Int32) (M : mm_M) : Sim sysC Y_X11_wards 5 147 [(0, .ref 0), (4, .int (x4))] [] M mm_fL (f_X11_wards_147 x4 M) := by
  unfold f_X11_wards_147
  refine sim_aload_n 0 d_X11_wards_147 rfl rfl ?_
  refine sim_geta d_X11_wards_148 fl_X11_70 ob_C_0 rfl ?_
  refine sim_iload 1 d_X11_wards_151 rfl ?_
  refine sim_callVl Y_X7_tell 3 [.int (x4)] [] d_X11_wards_153 lk_X11_337 cv_X7_tell ob_C_11 rfl (by omega) (Nat.le_of_ble_eq_true rfl) (ct_X7_tell x4 M) (fun r1 M1 => ?_)
  exact sim_lret d_X11_wards_156 rfl
def f_X11_wards_19 (M : mm_M) : Option (Int64 × mm_M) :=
  mm_bi (f_X11_refuse (-1 : Int32) M) (fun r1 M1 =>
  some ((r1).toInt64, M1))
theorem s_X11_wards_19 (M : mm_M) : Sim sysC Y_X11_wards 5 19 [(0, .ref 0)] [] M mm_fL (f_X11_wards_19 M) := by
  unfold f_X11_wards_19
  refine sim_aload_n 0 d_X11_wards_19 rfl rfl ?_
  refine sim_iconst (-1 : Int32) d_X11_wards_20 rfl ?_
  refine sim_callVi Y_X11_refuse 0 [.int ((-1 : Int32))] [] d_X11_wards_21 lk_X11_108 cv_X11_refuse ob_C_0 rfl (by omega) (Nat.le_of_ble_eq_true rfl) (ct_X11_refuse (-1 : Int32) M) (fun r1 M1 => ?_)
  refine sim_i2l d_X11_wards_24 ?_
  exact sim_lret d_X11_wards_25 rfl
def f_X11_wards (a1 : Int32) (a2 : Int32) (a3 : Int32) (a4 : Int32) (M : mm_M) : Option (Int64 × mm_M) :=
  mm_bi (f_X11_isWard a1 M) (fun r1 M1 =>
  if r1 = 0 then
    f_X11_wards_19 M1
  else
    mm_bi (f_X11_isWard a2 M1) (fun r2 M2 =>
    if r2 = 0 then
      f_X11_wards_19 M2
    else
      if a1 = a2 then
        f_X11_wards_19 M2
      else
        mm_bi (f_X11_tableRefusal a3 a4 M2) (fun r3 M3 =>
        if r3 = 0 then
          mm_bv (f_X10_weigh (mI M3 0 16) (mI M3 4 7) M3) (fun M4 =>
          mm_bv (f_X7_clear M4) (fun M5 =>
          f_X11_wards_75 f_X11_wards_147 mm_fu a1 a2 a3 a4 (0 : Int32) M5))
        else
          mm_bi (f_X11_refuse r3 M3) (fun r4 M6 =>
          some ((r4).toInt64, M6)))))
theorem s_X11_wards (a1 : Int32) (a2 : Int32) (a3 : Int32) (a4 : Int32) (M : mm_M) : Sim sysC Y_X11_wards 5 0 [(0, .ref 0), (1, .int (a1)), (2, .int (a2)), (3, .int (a3)), (4, .int (a4))] [] M mm_fL (f_X11_wards a1 a2 a3 a4 M) := by
  unfold f_X11_wards
  refine sim_iload_n 1 d_X11_wards_0 rfl rfl ?_
  refine sim_callSi Y_X11_isWard 0 [.int (a1)] [] d_X11_wards_1 lk_X11_116 cs_X11_isWard rfl (by omega) (Nat.le_of_ble_eq_true rfl) (ct_X11_isWard a1 M) (fun r1 M1 => ?_)
  refine sim_if_eq d_X11_wards_4 ?_ ?_
  ·
    exact sim_sub [0] rfl (s_X11_wards_19 M1)
  ·
    refine sim_iload_n 2 d_X11_wards_7 rfl rfl ?_
    refine sim_callSi Y_X11_isWard 0 [.int (a2)] [] d_X11_wards_8 lk_X11_116 cs_X11_isWard rfl (by omega) (Nat.le_of_ble_eq_true rfl) (ct_X11_isWard a2 M1) (fun r2 M2 => ?_)
    refine sim_if_eq d_X11_wards_11 ?_ ?_
    ·
      exact sim_sub [0] rfl (s_X11_wards_19 M2)
    ·
      refine sim_iload_n 1 d_X11_wards_14 rfl rfl ?_
      refine sim_iload_n 2 d_X11_wards_15 rfl rfl ?_
      refine sim_icmp_ne d_X11_wards_16 ?_ ?_
      ·
        refine sim_iload_n 3 d_X11_wards_26 rfl rfl ?_
        refine sim_iload 4 d_X11_wards_27 rfl ?_
        refine sim_callSi Y_X11_tableRefusal 1 [.int (a3), .int (a4)] [] d_X11_wards_29 lk_X11_327 cs_X11_tableRefusal rfl (by omega) (Nat.le_of_ble_eq_true rfl) (ct_X11_tableRefusal a3 a4 M2) (fun r3 M3 => ?_)
        refine sim_istore (L' := [(0, .ref 0), (1, .int (a1)), (2, .int (a2)), (3, .int (a3)), (4, .int (a4)), (5, .int (r3))]) d_X11_wards_32 (Nat.le_of_ble_eq_true rfl) rfl ?_
        refine sim_iload 5 d_X11_wards_34 rfl ?_
        refine sim_if_eq d_X11_wards_36 ?_ ?_
        ·
          refine sim_aload_n 0 d_X11_wards_47 rfl rfl ?_
          refine sim_geta d_X11_wards_48 fl_X11_10 ob_C_0 rfl ?_
          refine sim_aload_n 0 d_X11_wards_51 rfl rfl ?_
          refine sim_geti d_X11_wards_52 fl_X11_102 ob_C_0 rfl ?_
          refine sim_aload_n 0 d_X11_wards_55 rfl rfl ?_
          refine sim_geta d_X11_wards_56 fl_X11_30 ob_C_0 rfl ?_
          refine sim_geti d_X11_wards_59 fl_X11_258 ob_C_4 rfl ?_
          refine sim_callVv Y_X10_weigh 4 [.int (mI M3 0 16), .int (mI M3 4 7)] [] d_X11_wards_62 lk_X11_274 cv_X10_weigh ob_C_1 rfl (by omega) (Nat.le_of_ble_eq_true rfl) (ct_X10_weigh (mI M3 0 16) (mI M3 4 7) M3) (fun M4 => ?_)
          refine sim_aload_n 0 d_X11_wards_65 rfl rfl ?_
          refine sim_geta d_X11_wards_66 fl_X11_70 ob_C_0 rfl ?_
          refine sim_callVv Y_X7_clear 0 [] [] d_X11_wards_69 lk_X11_330 cv_X7_clear ob_C_11 rfl (by omega) (Nat.le_of_ble_eq_true rfl) (ct_X7_clear M4) (fun M5 => ?_)
          refine sim_iconst (0 : Int32) d_X11_wards_72 rfl ?_
          refine sim_istore (L' := [(0, .ref 0), (1, .int (a1)), (2, .int (a2)), (3, .int (a3)), (4, .int (a4)), (5, .int (r3)), (6, .int ((0 : Int32)))]) d_X11_wards_73 (Nat.le_of_ble_eq_true rfl) rfl ?_
          exact sim_sub [0, 1, 2, 3, 4, 6] rfl (s_X11_wards_75 f_X11_wards_147 s_X11_wards_147 mm_fu a1 a2 a3 a4 (0 : Int32) M5)
        ·
          refine sim_aload_n 0 d_X11_wards_39 rfl rfl ?_
          refine sim_iload 5 d_X11_wards_40 rfl ?_
          refine sim_callVi Y_X11_refuse 0 [.int (r3)] [] d_X11_wards_42 lk_X11_108 cv_X11_refuse ob_C_0 rfl (by omega) (Nat.le_of_ble_eq_true rfl) (ct_X11_refuse r3 M3) (fun r4 M6 => ?_)
          refine sim_i2l d_X11_wards_45 ?_
          exact sim_lret d_X11_wards_46 rfl
      ·
        exact sim_sub [0] rfl (s_X11_wards_19 M2)
theorem ct_X11_wards (a1 : Int32) (a2 : Int32) (a3 : Int32) (a4 : Int32) (M : mm_M) : Ct sysC Y_X11_wards 5 [.ref 0, .int (a1), .int (a2), .int (a3), .int (a4)] M mm_fL (f_X11_wards a1 a2 a3 a4 M) :=
  ct_of_sim (by decide) rfl (Nat.le_of_ble_eq_true rfl) (s_X11_wards a1 a2 a3 a4 M)
def f_X1_add (a1 : Int32) (a2 : Int32) (a3 : Int32) (a4 : Int32) (a5 : Int32) (M : mm_M) : Option (Int32 × mm_M) :=
  if (mI M 13 7) < (40 : Int32) then
    mm_ck (mI M 13 7) 40 (
    mm_let (sI M 68 (mI M 13 7).toNatClampNeg a1) (fun M1 =>
    mm_ck (mI M1 13 7) 40 (
    mm_let (sI M1 69 (mI M1 13 7).toNatClampNeg a2) (fun M2 =>
    mm_ck (mI M2 13 7) 40 (
    mm_let (sI M2 70 (mI M2 13 7).toNatClampNeg a3) (fun M3 =>
    mm_ck (mI M3 13 7) 40 (
    mm_let (sI M3 71 (mI M3 13 7).toNatClampNeg a4) (fun M4 =>
    mm_ck (mI M4 13 7) 40 (
    mm_let (sI M4 72 (mI M4 13 7).toNatClampNeg a5) (fun M5 =>
    mm_let (sI M5 13 7 ((mI M5 13 7) + (1 : Int32))) (fun M6 =>
    some (mI M6 13 7, M6))))))))))))
  else
    some ((-6 : Int32), M)
theorem s_X1_add (a1 : Int32) (a2 : Int32) (a3 : Int32) (a4 : Int32) (a5 : Int32) (M : mm_M) : Sim sysC Y_X1_add 0 0 [(0, .ref 13), (1, .int (a1)), (2, .int (a2)), (3, .int (a3)), (4, .int (a4)), (5, .int (a5))] [] M mm_fI (f_X1_add a1 a2 a3 a4 a5 M) := by
  unfold f_X1_add
  refine sim_aload_n 0 d_X1_add_0 rfl rfl ?_
  refine sim_geti d_X1_add_1 fl_X1_33 ob_C_13 rfl ?_
  refine sim_bipush (40 : Int32) d_X1_add_4 rfl ?_
  refine sim_icmp_lt d_X1_add_6 ?_ ?_
  ·
    refine sim_aload_n 0 d_X1_add_12 rfl rfl ?_
    refine sim_geta d_X1_add_13 fl_X1_9 ob_C_13 rfl ?_
    refine sim_aload_n 0 d_X1_add_16 rfl rfl ?_
    refine sim_geti d_X1_add_17 fl_X1_33 ob_C_13 rfl ?_
    refine sim_iload_n 1 d_X1_add_20 rfl rfl ?_
    refine sim_iast d_X1_add_21 ar_C_68 ?_
    refine sim_nmM (fun M1 => ?_)
    refine sim_aload_n 0 d_X1_add_22 rfl rfl ?_
    refine sim_geta d_X1_add_23 fl_X1_15 ob_C_13 rfl ?_
    refine sim_aload_n 0 d_X1_add_26 rfl rfl ?_
    refine sim_geti d_X1_add_27 fl_X1_33 ob_C_13 rfl ?_
    refine sim_iload_n 2 d_X1_add_30 rfl rfl ?_
    refine sim_iast d_X1_add_31 ar_C_69 ?_
    refine sim_nmM (fun M2 => ?_)
    refine sim_aload_n 0 d_X1_add_32 rfl rfl ?_
    refine sim_geta d_X1_add_33 fl_X1_18 ob_C_13 rfl ?_
    refine sim_aload_n 0 d_X1_add_36 rfl rfl ?_
    refine sim_geti d_X1_add_37 fl_X1_33 ob_C_13 rfl ?_
    refine sim_iload_n 3 d_X1_add_40 rfl rfl ?_
    refine sim_iast d_X1_add_41 ar_C_70 ?_
    refine sim_nmM (fun M3 => ?_)
    refine sim_aload_n 0 d_X1_add_42 rfl rfl ?_
    refine sim_geta d_X1_add_43 fl_X1_21 ob_C_13 rfl ?_
    refine sim_aload_n 0 d_X1_add_46 rfl rfl ?_
    refine sim_geti d_X1_add_47 fl_X1_33 ob_C_13 rfl ?_
    refine sim_iload 4 d_X1_add_50 rfl ?_
    refine sim_iast d_X1_add_52 ar_C_71 ?_
    refine sim_nmM (fun M4 => ?_)
    refine sim_aload_n 0 d_X1_add_53 rfl rfl ?_
    refine sim_geta d_X1_add_54 fl_X1_24 ob_C_13 rfl ?_
    refine sim_aload_n 0 d_X1_add_57 rfl rfl ?_
    refine sim_geti d_X1_add_58 fl_X1_33 ob_C_13 rfl ?_
    refine sim_iload 5 d_X1_add_61 rfl ?_
    refine sim_iast d_X1_add_63 ar_C_72 ?_
    refine sim_nmM (fun M5 => ?_)
    refine sim_aload_n 0 d_X1_add_64 rfl rfl ?_
    refine sim_dup d_X1_add_65 rfl ?_
    refine sim_geti d_X1_add_66 fl_X1_33 ob_C_13 rfl ?_
    refine sim_iconst (1 : Int32) d_X1_add_69 rfl ?_
    refine sim_iadd d_X1_add_70 ?_
    refine sim_puti d_X1_add_71 fl_X1_33 ob_C_13 rfl ?_
    refine sim_nmM (fun M6 => ?_)
    refine sim_aload_n 0 d_X1_add_74 rfl rfl ?_
    refine sim_geti d_X1_add_75 fl_X1_33 ob_C_13 rfl ?_
    exact sim_iret d_X1_add_78 rfl
  ·
    refine sim_bipush (-6 : Int32) d_X1_add_9 rfl ?_
    exact sim_iret d_X1_add_11 rfl
theorem ct_X1_add (a1 : Int32) (a2 : Int32) (a3 : Int32) (a4 : Int32) (a5 : Int32) (M : mm_M) : Ct sysC Y_X1_add 0 [.ref 13, .int (a1), .int (a2), .int (a3), .int (a4), .int (a5)] M mm_fI (f_X1_add a1 a2 a3 a4 a5 M) :=
  ct_of_sim (by decide) rfl (Nat.le_of_ble_eq_true rfl) (s_X1_add a1 a2 a3 a4 a5 M)

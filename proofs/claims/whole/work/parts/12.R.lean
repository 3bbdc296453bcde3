def f_X12_isTest (a1 : Int32) (M : mm_M) : Option (Int32 × mm_M) :=
  mm_bi (f_X12_in a1 (0 : Int32) ((mI M 0 43) - (1 : Int32)) M) (fun r1 M1 =>
  mm_bz r1 (some (r1, M1)))
theorem s_X12_isTest (a1 : Int32) (M : mm_M) : Sim sysR Y_X12_isTest 1 0 [(0, .ref 0), (1, .int (a1))] [] M mm_fI (f_X12_isTest a1 M) := by
  unfold f_X12_isTest
  refine sim_iload_n 1 d_X12_isTest_0 rfl rfl ?_
  refine sim_iconst (0 : Int32) d_X12_isTest_1 rfl ?_
  refine sim_aload_n 0 d_X12_isTest_2 rfl rfl ?_
  refine sim_geti d_X12_isTest_3 fl_X12_249 ob_R_0 rfl ?_
  refine sim_iconst (1 : Int32) d_X12_isTest_6 rfl ?_
  refine sim_isub d_X12_isTest_7 ?_
  refine sim_callSi Y_X12_in 0 [.int (a1), .int ((0 : Int32)), .int ((mI M 0 43) - (1 : Int32))] [] d_X12_isTest_8 lk_X12_183 cs_X12_in rfl (by omega) (Nat.le_of_ble_eq_true rfl) (ct_X12_in a1 (0 : Int32) ((mI M 0 43) - (1 : Int32)) M) (fun r1 M1 => ?_)
  exact sim_zretb d_X12_isTest_11 rfl
theorem ct_X12_isTest (a1 : Int32) (M : mm_M) : Ct sysR Y_X12_isTest 1 [.ref 0, .int (a1)] M mm_fI (f_X12_isTest a1 M) :=
  ct_of_sim (by decide) rfl (Nat.le_of_ble_eq_true rfl) (s_X12_isTest a1 M)
def f_X12_appeal (a1 : Int32) (M : mm_M) : Option (Int32 × mm_M) :=
  mm_let (sI M 0 0 (0 : Int32)) (fun M1 =>
  mm_bi (f_X12_isTest a1 M1) (fun r1 M2 =>
  if r1 = 0 then
    mm_bi (f_X12_refuse (-1 : Int32) M2) (fun r3 M5 =>
    some (r3, M5))
  else
    mm_ck a1 100 (
    if (mI M2 34 a1.toNatClampNeg) < 0 then
      mm_ck a1 100 (
      mm_let (sI M2 34 a1.toNatClampNeg (mI M2 0 1)) (fun M3 =>
      some ((1 : Int32), M3)))
    else
      mm_bi (f_X12_refuse (-3 : Int32) M2) (fun r2 M4 =>
      some (r2, M4)))))
theorem s_X12_appeal (a1 : Int32) (M : mm_M) : Sim sysR Y_X12_appeal 2 0 [(0, .ref 0), (1, .int (a1))] [] M mm_fI (f_X12_appeal a1 M) := by
  unfold f_X12_appeal
  refine sim_aload_n 0 d_X12_appeal_0 rfl rfl ?_
  refine sim_iconst (0 : Int32) d_X12_appeal_1 rfl ?_
  refine sim_puti d_X12_appeal_2 fl_X12_177 ob_R_0 rfl ?_
  refine sim_nmM (fun M1 => ?_)
  refine sim_aload_n 0 d_X12_appeal_5 rfl rfl ?_
  refine sim_iload_n 1 d_X12_appeal_6 rfl rfl ?_
  refine sim_callVi Y_X12_isTest 1 [.int (a1)] [] d_X12_appeal_7 lk_X12_325 cv_X12_isTest ob_R_0 rfl (by omega) (Nat.le_of_ble_eq_true rfl) (ct_X12_isTest a1 M1) (fun r1 M2 => ?_)
  refine sim_if_ne d_X12_appeal_10 ?_ ?_
  ·
    refine sim_aload_n 0 d_X12_appeal_19 rfl rfl ?_
    refine sim_geta d_X12_appeal_20 fl_X12_110 ob_R_0 rfl ?_
    refine sim_iload_n 1 d_X12_appeal_23 rfl rfl ?_
    refine sim_iald d_X12_appeal_24 ar_R_34 ?_
    refine sim_if_lt d_X12_appeal_25 ?_ ?_
    ·
      refine sim_aload_n 0 d_X12_appeal_35 rfl rfl ?_
      refine sim_geta d_X12_appeal_36 fl_X12_110 ob_R_0 rfl ?_
      refine sim_iload_n 1 d_X12_appeal_39 rfl rfl ?_
      refine sim_aload_n 0 d_X12_appeal_40 rfl rfl ?_
      refine sim_geti d_X12_appeal_41 fl_X12_191 ob_R_0 rfl ?_
      refine sim_iast d_X12_appeal_44 ar_R_34 ?_
      refine sim_nmM (fun M3 => ?_)
      refine sim_iconst (1 : Int32) d_X12_appeal_45 rfl ?_
      exact sim_iret d_X12_appeal_46 rfl
    ·
      refine sim_aload_n 0 d_X12_appeal_28 rfl rfl ?_
      refine sim_bipush (-3 : Int32) d_X12_appeal_29 rfl ?_
      refine sim_callVi Y_X12_refuse 0 [.int ((-3 : Int32))] [] d_X12_appeal_31 lk_X12_187 cv_X12_refuse ob_R_0 rfl (by omega) (Nat.le_of_ble_eq_true rfl) (ct_X12_refuse (-3 : Int32) M2) (fun r2 M4 => ?_)
      exact sim_iret d_X12_appeal_34 rfl
  ·
    refine sim_aload_n 0 d_X12_appeal_13 rfl rfl ?_
    refine sim_iconst (-1 : Int32) d_X12_appeal_14 rfl ?_
    refine sim_callVi Y_X12_refuse 0 [.int ((-1 : Int32))] [] d_X12_appeal_15 lk_X12_187 cv_X12_refuse ob_R_0 rfl (by omega) (Nat.le_of_ble_eq_true rfl) (ct_X12_refuse (-1 : Int32) M2) (fun r3 M5 => ?_)
    exact sim_iret d_X12_appeal_18 rfl
theorem ct_X12_appeal (a1 : Int32) (M : mm_M) : Ct sysR Y_X12_appeal 2 [.ref 0, .int (a1)] M mm_fI (f_X12_appeal a1 M) :=
  ct_of_sim (by decide) rfl (Nat.le_of_ble_eq_true rfl) (s_X12_appeal a1 M)
def f_X12_wrongDay (a1 : Int32) (M : mm_M) : Option (Int32 × mm_M) :=
  if 0 ≤ a1 then
    if a1 ≤ (2000 : Int32) then
      some ((0 : Int32), M)
    else
      some ((-6 : Int32), M)
  else
    some ((-4 : Int32), M)
theorem s_X12_wrongDay (a1 : Int32) (M : mm_M) : Sim sysR Y_X12_wrongDay 0 0 [(0, .int (a1))] [] M mm_fI (f_X12_wrongDay a1 M) := by
  unfold f_X12_wrongDay
  refine sim_iload_n 0 d_X12_wrongDay_0 rfl rfl ?_
  refine sim_if_ge d_X12_wrongDay_1 ?_ ?_
  ·
    refine sim_iload_n 0 d_X12_wrongDay_9 rfl rfl ?_
    refine sim_sipush (2000 : Int32) d_X12_wrongDay_10 rfl ?_
    refine sim_icmp_le d_X12_wrongDay_13 ?_ ?_
    ·
      refine sim_iconst (0 : Int32) d_X12_wrongDay_21 rfl ?_
      exact sim_iret d_X12_wrongDay_22 rfl
    ·
      refine sim_bipush (-6 : Int32) d_X12_wrongDay_16 rfl ?_
      refine sim_goto d_X12_wrongDay_18 ?_
      exact sim_iret d_X12_wrongDay_22 rfl
  ·
    refine sim_bipush (-4 : Int32) d_X12_wrongDay_4 rfl ?_
    refine sim_goto d_X12_wrongDay_6 ?_
    exact sim_iret d_X12_wrongDay_22 rfl
theorem ct_X12_wrongDay (a1 : Int32) (M : mm_M) : Ct sysR Y_X12_wrongDay 0 [.int (a1)] M mm_fI (f_X12_wrongDay a1 M) :=
  ct_of_sim (by decide) rfl (Nat.le_of_ble_eq_true rfl) (s_X12_wrongDay a1 M)
def f_X12_testOf (a1 : Int32) (a2 : Int32) (a3 : Int32) (M : mm_M) : Option (Int32 × mm_M) :=
  mm_let (sI M 0 0 (0 : Int32)) (fun M1 =>
  mm_bi (f_X12_isTest a1 M1) (fun r1 M2 =>
  if r1 = 0 then
    mm_bi (f_X12_refuse (-1 : Int32) M2) (fun r7 M9 =>
    some (r7, M9))
  else
    mm_bi (f_X12_in a3 (0 : Int32) (2 : Int32) M2) (fun r2 M3 =>
    if r2 = 0 then
      mm_bi (f_X12_refuse (-2 : Int32) M3) (fun r6 M8 =>
      some (r6, M8))
    else
      mm_bi (f_X12_wrongDay a2 M3) (fun r3 M4 =>
      if 0 ≤ r3 then
        mm_bv (f_X12_weigh a2 M4) (fun M5 =>
        if a3 = 0 then
          mm_ck a1 100 (
          if (mI M5 35 a1.toNatClampNeg) = 0 then
            some ((0 : Int32), M5)
          else
            some ((1 : Int32), M5))
        else
          if a3 = (1 : Int32) then
            mm_ck a1 100 (
            if (mI M5 36 a1.toNatClampNeg) = 0 then
              some ((0 : Int32), M5)
            else
              some ((1 : Int32), M5))
          else
            mm_ck a1 100 (
            some (mI M5 37 a1.toNatClampNeg, M5)))
      else
        mm_bi (f_X12_wrongDay a2 M4) (fun r4 M6 =>
        mm_bi (f_X12_refuse r4 M6) (fun r5 M7 =>
        some (r5, M7)))))))
theorem s_X12_testOf (a1 : Int32) (a2 : Int32) (a3 : Int32) (M : mm_M) : Sim sysR Y_X12_testOf 9 0 [(0, .ref 0), (1, .int (a1)), (2, .int (a2)), (3, .int (a3))] [] M mm_fI (f_X12_testOf a1 a2 a3 M) := by
  unfold f_X12_testOf
  refine sim_aload_n 0 d_X12_testOf_0 rfl rfl ?_
  refine sim_iconst (0 : Int32) d_X12_testOf_1 rfl ?_
  refine sim_puti d_X12_testOf_2 fl_X12_177 ob_R_0 rfl ?_
  refine sim_nmM (fun M1 => ?_)
  refine sim_aload_n 0 d_X12_testOf_5 rfl rfl ?_
  refine sim_iload_n 1 d_X12_testOf_6 rfl rfl ?_
  refine sim_callVi Y_X12_isTest 1 [.int (a1)] [] d_X12_testOf_7 lk_X12_325 cv_X12_isTest ob_R_0 rfl (by omega) (Nat.le_of_ble_eq_true rfl) (ct_X12_isTest a1 M1) (fun r1 M2 => ?_)
  refine sim_if_ne d_X12_testOf_10 ?_ ?_
  ·
    refine sim_iload_n 3 d_X12_testOf_19 rfl rfl ?_
    refine sim_iconst (0 : Int32) d_X12_testOf_20 rfl ?_
    refine sim_iconst (2 : Int32) d_X12_testOf_21 rfl ?_
    refine sim_callSi Y_X12_in 0 [.int (a3), .int ((0 : Int32)), .int ((2 : Int32))] [] d_X12_testOf_22 lk_X12_183 cs_X12_in rfl (by omega) (Nat.le_of_ble_eq_true rfl) (ct_X12_in a3 (0 : Int32) (2 : Int32) M2) (fun r2 M3 => ?_)
    refine sim_if_ne d_X12_testOf_25 ?_ ?_
    ·
      refine sim_iload_n 2 d_X12_testOf_35 rfl rfl ?_
      refine sim_callSi Y_X12_wrongDay 0 [.int (a2)] [] d_X12_testOf_36 lk_X12_342 cs_X12_wrongDay rfl (by omega) (Nat.le_of_ble_eq_true rfl) (ct_X12_wrongDay a2 M3) (fun r3 M4 => ?_)
      refine sim_if_ge d_X12_testOf_39 ?_ ?_
      ·
        refine sim_aload_n 0 d_X12_testOf_51 rfl rfl ?_
        refine sim_iload_n 2 d_X12_testOf_52 rfl rfl ?_
        refine sim_callVv Y_X12_weigh 8 [.int (a2)] [] d_X12_testOf_53 lk_X12_246 cv_X12_weigh ob_R_0 rfl (by omega) (Nat.le_of_ble_eq_true rfl) (ct_X12_weigh a2 M4) (fun M5 => ?_)
        refine sim_iload_n 3 d_X12_testOf_56 rfl rfl ?_
        refine sim_if_ne d_X12_testOf_57 ?_ ?_
        ·
          refine sim_iload_n 3 d_X12_testOf_77 rfl rfl ?_
          refine sim_iconst (1 : Int32) d_X12_testOf_78 rfl ?_
          refine sim_icmp_ne d_X12_testOf_79 ?_ ?_
          ·
            refine sim_aload_n 0 d_X12_testOf_99 rfl rfl ?_
            refine sim_geta d_X12_testOf_100 fl_X12_119 ob_R_0 rfl ?_
            refine sim_iload_n 1 d_X12_testOf_103 rfl rfl ?_
            refine sim_iald d_X12_testOf_104 ar_R_37 ?_
            exact sim_iret d_X12_testOf_105 rfl
          ·
            refine sim_aload_n 0 d_X12_testOf_82 rfl rfl ?_
            refine sim_geta d_X12_testOf_83 fl_X12_116 ob_R_0 rfl ?_
            refine sim_iload_n 1 d_X12_testOf_86 rfl rfl ?_
            refine sim_zald d_X12_testOf_87 ar_R_36 ?_
            refine sim_if_eq d_X12_testOf_88 ?_ ?_
            ·
              refine sim_iconst (0 : Int32) d_X12_testOf_95 rfl ?_
              refine sim_goto d_X12_testOf_96 ?_
              exact sim_iret d_X12_testOf_105 rfl
            ·
              refine sim_iconst (1 : Int32) d_X12_testOf_91 rfl ?_
              refine sim_goto d_X12_testOf_92 ?_
              exact sim_iret d_X12_testOf_105 rfl
        ·
          refine sim_aload_n 0 d_X12_testOf_60 rfl rfl ?_
          refine sim_geta d_X12_testOf_61 fl_X12_113 ob_R_0 rfl ?_
          refine sim_iload_n 1 d_X12_testOf_64 rfl rfl ?_
          refine sim_zald d_X12_testOf_65 ar_R_35 ?_
          refine sim_if_eq d_X12_testOf_66 ?_ ?_
          ·
            refine sim_iconst (0 : Int32) d_X12_testOf_73 rfl ?_
            refine sim_goto d_X12_testOf_74 ?_
            exact sim_iret d_X12_testOf_105 rfl
          ·
            refine sim_iconst (1 : Int32) d_X12_testOf_69 rfl ?_
            refine sim_goto d_X12_testOf_70 ?_
            exact sim_iret d_X12_testOf_105 rfl
      ·
        refine sim_aload_n 0 d_X12_testOf_42 rfl rfl ?_
        refine sim_iload_n 2 d_X12_testOf_43 rfl rfl ?_
        refine sim_callSi Y_X12_wrongDay 0 [.int (a2)] [.ref 0] d_X12_testOf_44 lk_X12_342 cs_X12_wrongDay rfl (by omega) (Nat.le_of_ble_eq_true rfl) (ct_X12_wrongDay a2 M4) (fun r4 M6 => ?_)
        refine sim_callVi Y_X12_refuse 0 [.int (r4)] [] d_X12_testOf_47 lk_X12_187 cv_X12_refuse ob_R_0 rfl (by omega) (Nat.le_of_ble_eq_true rfl) (ct_X12_refuse r4 M6) (fun r5 M7 => ?_)
        exact sim_iret d_X12_testOf_50 rfl
    ·
      refine sim_aload_n 0 d_X12_testOf_28 rfl rfl ?_
      refine sim_bipush (-2 : Int32) d_X12_testOf_29 rfl ?_
      refine sim_callVi Y_X12_refuse 0 [.int ((-2 : Int32))] [] d_X12_testOf_31 lk_X12_187 cv_X12_refuse ob_R_0 rfl (by omega) (Nat.le_of_ble_eq_true rfl) (ct_X12_refuse (-2 : Int32) M3) (fun r6 M8 => ?_)
      exact sim_iret d_X12_testOf_34 rfl
  ·
    refine sim_aload_n 0 d_X12_testOf_13 rfl rfl ?_
    refine sim_iconst (-1 : Int32) d_X12_testOf_14 rfl ?_
    refine sim_callVi Y_X12_refuse 0 [.int ((-1 : Int32))] [] d_X12_testOf_15 lk_X12_187 cv_X12_refuse ob_R_0 rfl (by omega) (Nat.le_of_ble_eq_true rfl) (ct_X12_refuse (-1 : Int32) M2) (fun r7 M9 => ?_)
    exact sim_iret d_X12_testOf_18 rfl
theorem ct_X12_testOf (a1 : Int32) (a2 : Int32) (a3 : Int32) (M : mm_M) : Ct sysR Y_X12_testOf 9 [.ref 0, .int (a1), .int (a2), .int (a3)] M mm_fI (f_X12_testOf a1 a2 a3 M) :=
  ct_of_sim (by decide) rfl (Nat.le_of_ble_eq_true rfl) (s_X12_testOf a1 a2 a3 M)
def f_X12_fact (a1 : Int32) (a2 : Int32) (a3 : Int32) (M : mm_M) : Option (Int32 × mm_M) :=
  mm_let (sI M 0 0 (0 : Int32)) (fun M1 =>
  mm_bi (f_X12_isTest a1 M1) (fun r1 M2 =>
  if r1 = 0 then
    mm_bi (f_X12_refuse (-1 : Int32) M2) (fun r10 M12 =>
    some (r10, M12))
  else
    mm_bi (f_X12_factOf a3 M2) (fun r2 M3 =>
    if 0 ≤ r2 then
      mm_bi (f_X12_wrongDay a2 M3) (fun r3 M4 =>
      if 0 ≤ r3 then
        mm_bi (f_X12_countsBy a1 a2 M4) (fun r4 M5 =>
        if r4 = 0 then
          mm_bi (f_X12_refuse (-3 : Int32) M5) (fun r6 M8 =>
          some (r6, M8))
        else
          mm_bv (f_X12_weigh a2 M5) (fun M6 =>
          mm_bi (f_X12_factOf a3 M6) (fun r5 M7 =>
          mm_ck (((13 : Int32) * a1) + r5) 1300 (
          some (mI M7 38 (((13 : Int32) * a1) + r5).toNatClampNeg, M7)))))
      else
        mm_bi (f_X12_wrongDay a2 M4) (fun r7 M9 =>
        mm_bi (f_X12_refuse r7 M9) (fun r8 M10 =>
        some (r8, M10))))
    else
      mm_bi (f_X12_refuse (-2 : Int32) M3) (fun r9 M11 =>
      some (r9, M11)))))
theorem s_X12_fact (a1 : Int32) (a2 : Int32) (a3 : Int32) (M : mm_M) : Sim sysR Y_X12_fact 9 0 [(0, .ref 0), (1, .int (a1)), (2, .int (a2)), (3, .int (a3))] [] M mm_fI (f_X12_fact a1 a2 a3 M) := by
  unfold f_X12_fact
  refine sim_aload_n 0 d_X12_fact_0 rfl rfl ?_
  refine sim_iconst (0 : Int32) d_X12_fact_1 rfl ?_
  refine sim_puti d_X12_fact_2 fl_X12_177 ob_R_0 rfl ?_
  refine sim_nmM (fun M1 => ?_)
  refine sim_aload_n 0 d_X12_fact_5 rfl rfl ?_
  refine sim_iload_n 1 d_X12_fact_6 rfl rfl ?_
  refine sim_callVi Y_X12_isTest 1 [.int (a1)] [] d_X12_fact_7 lk_X12_325 cv_X12_isTest ob_R_0 rfl (by omega) (Nat.le_of_ble_eq_true rfl) (ct_X12_isTest a1 M1) (fun r1 M2 => ?_)
  refine sim_if_ne d_X12_fact_10 ?_ ?_
  ·
    refine sim_iload_n 3 d_X12_fact_19 rfl rfl ?_
    refine sim_callSi Y_X12_factOf 0 [.int (a3)] [] d_X12_fact_20 lk_X12_269 cs_X12_factOf rfl (by omega) (Nat.le_of_ble_eq_true rfl) (ct_X12_factOf a3 M2) (fun r2 M3 => ?_)
    refine sim_if_ge d_X12_fact_23 ?_ ?_
    ·
      refine sim_iload_n 2 d_X12_fact_33 rfl rfl ?_
      refine sim_callSi Y_X12_wrongDay 0 [.int (a2)] [] d_X12_fact_34 lk_X12_342 cs_X12_wrongDay rfl (by omega) (Nat.le_of_ble_eq_true rfl) (ct_X12_wrongDay a2 M3) (fun r3 M4 => ?_)
      refine sim_if_ge d_X12_fact_37 ?_ ?_
      ·
        refine sim_aload_n 0 d_X12_fact_49 rfl rfl ?_
        refine sim_iload_n 1 d_X12_fact_50 rfl rfl ?_
        refine sim_iload_n 2 d_X12_fact_51 rfl rfl ?_
        refine sim_callVi Y_X12_countsBy 0 [.int (a1), .int (a2)] [] d_X12_fact_52 lk_X12_328 cv_X12_countsBy ob_R_0 rfl (by omega) (Nat.le_of_ble_eq_true rfl) (ct_X12_countsBy a1 a2 M4) (fun r4 M5 => ?_)
        refine sim_if_ne d_X12_fact_55 ?_ ?_
        ·
          refine sim_aload_n 0 d_X12_fact_65 rfl rfl ?_
          refine sim_iload_n 2 d_X12_fact_66 rfl rfl ?_
          refine sim_callVv Y_X12_weigh 8 [.int (a2)] [] d_X12_fact_67 lk_X12_246 cv_X12_weigh ob_R_0 rfl (by omega) (Nat.le_of_ble_eq_true rfl) (ct_X12_weigh a2 M5) (fun M6 => ?_)
          refine sim_aload_n 0 d_X12_fact_70 rfl rfl ?_
          refine sim_geta d_X12_fact_71 fl_X12_122 ob_R_0 rfl ?_
          refine sim_bipush (13 : Int32) d_X12_fact_74 rfl ?_
          refine sim_iload_n 1 d_X12_fact_76 rfl rfl ?_
          refine sim_imul d_X12_fact_77 ?_
          refine sim_iload_n 3 d_X12_fact_78 rfl rfl ?_
          refine sim_callSi Y_X12_factOf 0 [.int (a3)] [.int ((13 : Int32) * a1), .ref 38] d_X12_fact_79 lk_X12_269 cs_X12_factOf rfl (by omega) (Nat.le_of_ble_eq_true rfl) (ct_X12_factOf a3 M6) (fun r5 M7 => ?_)
          refine sim_iadd d_X12_fact_82 ?_
          refine sim_iald d_X12_fact_83 ar_R_38 ?_
          exact sim_iret d_X12_fact_84 rfl
        ·
          refine sim_aload_n 0 d_X12_fact_58 rfl rfl ?_
          refine sim_bipush (-3 : Int32) d_X12_fact_59 rfl ?_
          refine sim_callVi Y_X12_refuse 0 [.int ((-3 : Int32))] [] d_X12_fact_61 lk_X12_187 cv_X12_refuse ob_R_0 rfl (by omega) (Nat.le_of_ble_eq_true rfl) (ct_X12_refuse (-3 : Int32) M5) (fun r6 M8 => ?_)
          exact sim_iret d_X12_fact_64 rfl
      ·
        refine sim_aload_n 0 d_X12_fact_40 rfl rfl ?_
        refine sim_iload_n 2 d_X12_fact_41 rfl rfl ?_
        refine sim_callSi Y_X12_wrongDay 0 [.int (a2)] [.ref 0] d_X12_fact_42 lk_X12_342 cs_X12_wrongDay rfl (by omega) (Nat.le_of_ble_eq_true rfl) (ct_X12_wrongDay a2 M4) (fun r7 M9 => ?_)
        refine sim_callVi Y_X12_refuse 0 [.int (r7)] [] d_X12_fact_45 lk_X12_187 cv_X12_refuse ob_R_0 rfl (by omega) (Nat.le_of_ble_eq_true rfl) (ct_X12_refuse r7 M9) (fun r8 M10 => ?_)
        exact sim_iret d_X12_fact_48 rfl
    ·
      refine sim_aload_n 0 d_X12_fact_26 rfl rfl ?_
      refine sim_bipush (-2 : Int32) d_X12_fact_27 rfl ?_
      refine sim_callVi Y_X12_refuse 0 [.int ((-2 : Int32))] [] d_X12_fact_29 lk_X12_187 cv_X12_refuse ob_R_0 rfl (by omega) (Nat.le_of_ble_eq_true rfl) (ct_X12_refuse (-2 : Int32) M3) (fun r9 M11 => ?_)
      exact sim_iret d_X12_fact_32 rfl
  ·
    refine sim_aload_n 0 d_X12_fact_13 rfl rfl ?_
    refine sim_iconst (-1 : Int32) d_X12_fact_14 rfl ?_
    refine sim_callVi Y_X12_refuse 0 [.int ((-1 : Int32))] [] d_X12_fact_15 lk_X12_187 cv_X12_refuse ob_R_0 rfl (by omega) (Nat.le_of_ble_eq_true rfl) (ct_X12_refuse (-1 : Int32) M2) (fun r10 M12 => ?_)
    exact sim_iret d_X12_fact_18 rfl
theorem ct_X12_fact (a1 : Int32) (a2 : Int32) (a3 : Int32) (M : mm_M) : Ct sysR Y_X12_fact 9 [.ref 0, .int (a1), .int (a2), .int (a3)] M mm_fI (f_X12_fact a1 a2 a3 M) :=
  ct_of_sim (by decide) rfl (Nat.le_of_ble_eq_true rfl) (s_X12_fact a1 a2 a3 M)
def f_X12_stepOn_94 (k13 : Int32 → Int32 → Int32 → Int32 → Int32 → mm_M → Option (Int32 × mm_M)) (x1 : Int32) (x2 : Int32) (x3 : Int32) (x5 : Int32) (t0 : Int32) (M : mm_M) : Option (Int32 × mm_M) :=
  k13 x1 x2 x3 t0 (x5 + (1 : Int32)) M
theorem s_X12_stepOn_94 (k13 : Int32 → Int32 → Int32 → Int32 → Int32 → mm_M → Option (Int32 × mm_M)) (hk13 : ∀ (x1 : Int32) (x2 : Int32) (x3 : Int32) (x4 : Int32) (x5 : Int32) (M : mm_M), Sim sysR Y_X12_stepOn 1 13 [(0, .ref 0), (1, .int (x1)), (2, .int (x2)), (3, .int (x3)), (4, .int (x4)), (5, .int (x5))] [] M mm_fI (k13 x1 x2 x3 x4 x5 M)) (x1 : Int32) (x2 : Int32) (x3 : Int32) (x5 : Int32) (t0 : Int32) (M : mm_M) : Sim sysR Y_X12_stepOn 1 94 [(0, .ref 0), (1, .int (x1)), (2, .int (x2)), (3, .int (x3)), (5, .int (x5))] [.int (t0)] M mm_fI (f_X12_stepOn_94 k13 x1 x2 x3 x5 t0 M) := by
  unfold f_X12_stepOn_94
  refine sim_istore (L' := [(0, .ref 0), (1, .int (x1)), (2, .int (x2)), (3, .int (x3)), (5, .int (x5)), (4, .int (t0))]) d_X12_stepOn_94 (Nat.le_of_ble_eq_true rfl) rfl ?_
  refine sim_iinc (v := x5 + (1 : Int32)) (L' := [(0, .ref 0), (1, .int (x1)), (2, .int (x2)), (3, .int (x3)), (4, .int (t0)), (5, .int (x5 + (1 : Int32)))]) 4 d_X12_stepOn_96 (Nat.le_of_ble_eq_true rfl) rfl rfl rfl ?_
  refine sim_goto d_X12_stepOn_99 ?_
  exact sim_sub [0, 1, 2, 3, 4, 5] rfl (hk13 x1 x2 x3 t0 (x5 + (1 : Int32)) M)
def f_X12_stepOn_92 (k13 : Int32 → Int32 → Int32 → Int32 → Int32 → mm_M → Option (Int32 × mm_M)) (x1 : Int32) (x2 : Int32) (x3 : Int32) (x4 : Int32) (x5 : Int32) (M : mm_M) : Option (Int32 × mm_M) :=
  f_X12_stepOn_94 k13 x1 x2 x3 x5 x4 M
theorem s_X12_stepOn_92 (k13 : Int32 → Int32 → Int32 → Int32 → Int32 → mm_M → Option (Int32 × mm_M)) (hk13 : ∀ (x1 : Int32) (x2 : Int32) (x3 : Int32) (x4 : Int32) (x5 : Int32) (M : mm_M), Sim sysR Y_X12_stepOn 1 13 [(0, .ref 0), (1, .int (x1)), (2, .int (x2)), (3, .int (x3)), (4, .int (x4)), (5, .int (x5))] [] M mm_fI (k13 x1 x2 x3 x4 x5 M)) (x1 : Int32) (x2 : Int32) (x3 : Int32) (x4 : Int32) (x5 : Int32) (M : mm_M) : Sim sysR Y_X12_stepOn 1 92 [(0, .ref 0), (1, .int (x1)), (2, .int (x2)), (3, .int (x3)), (4, .int (x4)), (5, .int (x5))] [] M mm_fI (f_X12_stepOn_92 k13 x1 x2 x3 x4 x5 M) := by
  unfold f_X12_stepOn_92
  refine sim_iload 4 d_X12_stepOn_92 rfl ?_
  exact sim_sub [0, 1, 2, 3, 5] rfl (s_X12_stepOn_94 k13 hk13 x1 x2 x3 x5 x4 M)
def f_X12_stepOn_65 (k13 : Int32 → Int32 → Int32 → Int32 → Int32 → mm_M → Option (Int32 × mm_M)) (x1 : Int32) (x2 : Int32) (x3 : Int32) (x4 : Int32) (x5 : Int32) (t0 : Int32) (M : mm_M) : Option (Int32 × mm_M) :=
  if t0 = 0 then
    f_X12_stepOn_92 k13 x1 x2 x3 x4 x5 M
  else
    mm_ck x5 100 (
    if (mI M 37 x5.toNatClampNeg) ≤ 0 then
      f_X12_stepOn_92 k13 x1 x2 x3 x4 x5 M
    else
      mm_ck x5 100 (
      f_X12_stepOn_94 k13 x1 x2 x3 x5 (mI M 37 x5.toNatClampNeg) M))
theorem s_X12_stepOn_65 (k13 : Int32 → Int32 → Int32 → Int32 → Int32 → mm_M → Option (Int32 × mm_M)) (hk13 : ∀ (x1 : Int32) (x2 : Int32) (x3 : Int32) (x4 : Int32) (x5 : Int32) (M : mm_M), Sim sysR Y_X12_stepOn 1 13 [(0, .ref 0), (1, .int (x1)), (2, .int (x2)), (3, .int (x3)), (4, .int (x4)), (5, .int (x5))] [] M mm_fI (k13 x1 x2 x3 x4 x5 M)) (x1 : Int32) (x2 : Int32) (x3 : Int32) (x4 : Int32) (x5 : Int32) (t0 : Int32) (M : mm_M) : Sim sysR Y_X12_stepOn 1 65 [(0, .ref 0), (1, .int (x1)), (2, .int (x2)), (3, .int (x3)), (4, .int (x4)), (5, .int (x5))] [.int (t0)] M mm_fI (f_X12_stepOn_65 k13 x1 x2 x3 x4 x5 t0 M) := by
  unfold f_X12_stepOn_65
  refine sim_istore (L' := [(0, .ref 0), (1, .int (x1)), (2, .int (x2)), (3, .int (x3)), (4, .int (x4)), (5, .int (x5)), (6, .int (t0))]) d_X12_stepOn_65 (Nat.le_of_ble_eq_true rfl) rfl ?_
  refine sim_iload 6 d_X12_stepOn_67 rfl ?_
  refine sim_if_eq d_X12_stepOn_69 ?_ ?_
  ·
    exact sim_sub [0, 1, 2, 3, 4, 5] rfl (s_X12_stepOn_92 k13 hk13 x1 x2 x3 x4 x5 M)
  ·
    refine sim_aload_n 0 d_X12_stepOn_72 rfl rfl ?_
    refine sim_geta d_X12_stepOn_73 fl_X12_119 ob_R_0 rfl ?_
    refine sim_iload 5 d_X12_stepOn_76 rfl ?_
    refine sim_iald d_X12_stepOn_78 ar_R_37 ?_
    refine sim_if_le d_X12_stepOn_79 ?_ ?_
    ·
      exact sim_sub [0, 1, 2, 3, 4, 5] rfl (s_X12_stepOn_92 k13 hk13 x1 x2 x3 x4 x5 M)
    ·
      refine sim_aload_n 0 d_X12_stepOn_82 rfl rfl ?_
      refine sim_geta d_X12_stepOn_83 fl_X12_119 ob_R_0 rfl ?_
      refine sim_iload 5 d_X12_stepOn_86 rfl ?_
      refine sim_iald d_X12_stepOn_88 ar_R_37 ?_
      refine sim_goto d_X12_stepOn_89 ?_
      exact sim_sub [0, 1, 2, 3, 5] rfl (s_X12_stepOn_94 k13 hk13 x1 x2 x3 x5 (mI M 37 x5.toNatClampNeg) M)
def f_X12_stepOn_64 (k13 : Int32 → Int32 → Int32 → Int32 → Int32 → mm_M → Option (Int32 × mm_M)) (x1 : Int32) (x2 : Int32) (x3 : Int32) (x4 : Int32) (x5 : Int32) (M : mm_M) : Option (Int32 × mm_M) :=
  f_X12_stepOn_65 k13 x1 x2 x3 x4 x5 (0 : Int32) M
theorem s_X12_stepOn_64 (k13 : Int32 → Int32 → Int32 → Int32 → Int32 → mm_M → Option (Int32 × mm_M)) (hk13 : ∀ (x1 : Int32) (x2 : Int32) (x3 : Int32) (x4 : Int32) (x5 : Int32) (M : mm_M), Sim sysR Y_X12_stepOn 1 13 [(0, .ref 0), (1, .int (x1)), (2, .int (x2)), (3, .int (x3)), (4, .int (x4)), (5, .int (x5))] [] M mm_fI (k13 x1 x2 x3 x4 x5 M)) (x1 : Int32) (x2 : Int32) (x3 : Int32) (x4 : Int32) (x5 : Int32) (M : mm_M) : Sim sysR Y_X12_stepOn 1 64 [(0, .ref 0), (1, .int (x1)), (2, .int (x2)), (3, .int (x3)), (4, .int (x4)), (5, .int (x5))] [] M mm_fI (f_X12_stepOn_64 k13 x1 x2 x3 x4 x5 M) := by
  unfold f_X12_stepOn_64
  refine sim_iconst (0 : Int32) d_X12_stepOn_64 rfl ?_
  exact sim_sub [0, 1, 2, 3, 4, 5] rfl (s_X12_stepOn_65 k13 hk13 x1 x2 x3 x4 x5 (0 : Int32) M)
def f_X12_stepOn_13 : Nat → Int32 → Int32 → Int32 → Int32 → Int32 → mm_M → Option (Int32 × mm_M)
  | 0, _, _, _, _, _, _ => none
  | n + 1, x1, x2, x3, x4, x5, M =>
  if (mI M 0 43) ≤ x5 then
    some (x4, M)
  else
    mm_ck x5 100 (
    if (mI M 28 x5.toNatClampNeg) = x1 then
      mm_ck x5 100 (
      if x2 < (mI M 30 x5.toNatClampNeg) then
        f_X12_stepOn_64 (f_X12_stepOn_13 n) x1 x2 x3 x4 x5 M
      else
        mm_ck x5 100 (
        mm_bi (f_X12_ownerOn x1 (mI M 30 x5.toNatClampNeg) M) (fun r1 M1 =>
        if r1 = x3 then
          f_X12_stepOn_65 (f_X12_stepOn_13 n) x1 x2 x3 x4 x5 (1 : Int32) M1
        else
          f_X12_stepOn_64 (f_X12_stepOn_13 n) x1 x2 x3 x4 x5 M1)))
    else
      f_X12_stepOn_64 (f_X12_stepOn_13 n) x1 x2 x3 x4 x5 M)
theorem s_X12_stepOn_13 (n : Nat) : ∀ (x1 : Int32) (x2 : Int32) (x3 : Int32) (x4 : Int32) (x5 : Int32) (M : mm_M), Sim sysR Y_X12_stepOn 1 13 [(0, .ref 0), (1, .int (x1)), (2, .int (x2)), (3, .int (x3)), (4, .int (x4)), (5, .int (x5))] [] M mm_fI (f_X12_stepOn_13 n x1 x2 x3 x4 x5 M) := by
  induction n with
  | zero => intros; exact sim_none
  | succ n ih =>
    intro x1 x2 x3 x4 x5 M
    rw [f_X12_stepOn_13]
    refine sim_iload 5 d_X12_stepOn_13 rfl ?_
    refine sim_aload_n 0 d_X12_stepOn_15 rfl rfl ?_
    refine sim_geti d_X12_stepOn_16 fl_X12_249 ob_R_0 rfl ?_
    refine sim_icmp_ge d_X12_stepOn_19 ?_ ?_
    ·
      refine sim_iload 4 d_X12_stepOn_102 rfl ?_
      exact sim_iret d_X12_stepOn_104 rfl
    ·
      refine sim_aload_n 0 d_X12_stepOn_22 rfl rfl ?_
      refine sim_geta d_X12_stepOn_23 fl_X12_92 ob_R_0 rfl ?_
      refine sim_iload 5 d_X12_stepOn_26 rfl ?_
      refine sim_iald d_X12_stepOn_28 ar_R_28 ?_
      refine sim_iload_n 1 d_X12_stepOn_29 rfl rfl ?_
      refine sim_icmp_ne d_X12_stepOn_30 ?_ ?_
      ·
        exact sim_sub [0, 1, 2, 3, 4, 5] rfl (s_X12_stepOn_64 (f_X12_stepOn_13 n) ih x1 x2 x3 x4 x5 M)
      ·
        refine sim_aload_n 0 d_X12_stepOn_33 rfl rfl ?_
        refine sim_geta d_X12_stepOn_34 fl_X12_98 ob_R_0 rfl ?_
        refine sim_iload 5 d_X12_stepOn_37 rfl ?_
        refine sim_iald d_X12_stepOn_39 ar_R_30 ?_
        refine sim_iload_n 2 d_X12_stepOn_40 rfl rfl ?_
        refine sim_icmp_gt d_X12_stepOn_41 ?_ ?_
        ·
          exact sim_sub [0, 1, 2, 3, 4, 5] rfl (s_X12_stepOn_64 (f_X12_stepOn_13 n) ih x1 x2 x3 x4 x5 M)
        ·
          refine sim_aload_n 0 d_X12_stepOn_44 rfl rfl ?_
          refine sim_iload_n 1 d_X12_stepOn_45 rfl rfl ?_
          refine sim_aload_n 0 d_X12_stepOn_46 rfl rfl ?_
          refine sim_geta d_X12_stepOn_47 fl_X12_98 ob_R_0 rfl ?_
          refine sim_iload 5 d_X12_stepOn_50 rfl ?_
          refine sim_iald d_X12_stepOn_52 ar_R_30 ?_
          refine sim_callVi Y_X12_ownerOn 0 [.int (x1), .int (mI M 30 x5.toNatClampNeg)] [] d_X12_stepOn_53 lk_X12_322 cv_X12_ownerOn ob_R_0 rfl (by omega) (Nat.le_of_ble_eq_true rfl) (ct_X12_ownerOn x1 (mI M 30 x5.toNatClampNeg) M) (fun r1 M1 => ?_)
          refine sim_iload_n 3 d_X12_stepOn_56 rfl rfl ?_
          refine sim_icmp_ne d_X12_stepOn_57 ?_ ?_
          ·
            exact sim_sub [0, 1, 2, 3, 4, 5] rfl (s_X12_stepOn_64 (f_X12_stepOn_13 n) ih x1 x2 x3 x4 x5 M1)
          ·
            refine sim_iconst (1 : Int32) d_X12_stepOn_60 rfl ?_
            refine sim_goto d_X12_stepOn_61 ?_
            exact sim_sub [0, 1, 2, 3, 4, 5] rfl (s_X12_stepOn_65 (f_X12_stepOn_13 n) ih x1 x2 x3 x4 x5 (1 : Int32) M1)
def f_X12_stepOn (a1 : Int32) (a2 : Int32) (M : mm_M) : Option (Int32 × mm_M) :=
  mm_bi (f_X12_ownerOn a1 a2 M) (fun r1 M1 =>
  f_X12_stepOn_13 mm_fu a1 a2 r1 (0 : Int32) (0 : Int32) M1)
theorem s_X12_stepOn (a1 : Int32) (a2 : Int32) (M : mm_M) : Sim sysR Y_X12_stepOn 1 0 [(0, .ref 0), (1, .int (a1)), (2, .int (a2))] [] M mm_fI (f_X12_stepOn a1 a2 M) := by
  unfold f_X12_stepOn
  refine sim_aload_n 0 d_X12_stepOn_0 rfl rfl ?_
  refine sim_iload_n 1 d_X12_stepOn_1 rfl rfl ?_
  refine sim_iload_n 2 d_X12_stepOn_2 rfl rfl ?_
  refine sim_callVi Y_X12_ownerOn 0 [.int (a1), .int (a2)] [] d_X12_stepOn_3 lk_X12_322 cv_X12_ownerOn ob_R_0 rfl (by omega) (Nat.le_of_ble_eq_true rfl) (ct_X12_ownerOn a1 a2 M) (fun r1 M1 => ?_)
  refine sim_istore_n (L' := [(0, .ref 0), (1, .int (a1)), (2, .int (a2)), (3, .int (r1))]) d_X12_stepOn_6 rfl (Nat.le_of_ble_eq_true rfl) rfl ?_
  refine sim_iconst (0 : Int32) d_X12_stepOn_7 rfl ?_
  refine sim_istore (L' := [(0, .ref 0), (1, .int (a1)), (2, .int (a2)), (3, .int (r1)), (4, .int ((0 : Int32)))]) d_X12_stepOn_8 (Nat.le_of_ble_eq_true rfl) rfl ?_
  refine sim_iconst (0 : Int32) d_X12_stepOn_10 rfl ?_
  refine sim_istore (L' := [(0, .ref 0), (1, .int (a1)), (2, .int (a2)), (3, .int (r1)), (4, .int ((0 : Int32))), (5, .int ((0 : Int32)))]) d_X12_stepOn_11 (Nat.le_of_ble_eq_true rfl) rfl ?_
  exact sim_sub [0, 1, 2, 3, 4, 5] rfl (s_X12_stepOn_13 mm_fu a1 a2 r1 (0 : Int32) (0 : Int32) M1)
theorem ct_X12_stepOn (a1 : Int32) (a2 : Int32) (M : mm_M) : Ct sysR Y_X12_stepOn 1 [.ref 0, .int (a1), .int (a2)] M mm_fI (f_X12_stepOn a1 a2 M) :=
  ct_of_sim (by decide) rfl (Nat.le_of_ble_eq_true rfl) (s_X12_stepOn a1 a2 M)
def f_X12_step_48 (M : mm_M) : Option (Int32 × mm_M) :=
  mm_bi (f_X12_refuse (-6 : Int32) M) (fun r1 M1 =>
  some (r1, M1))
theorem s_X12_step_48 (M : mm_M) : Sim sysR Y_X12_step 9 48 [(0, .ref 0)] [] M mm_fI (f_X12_step_48 M) := by
  unfold f_X12_step_48
  refine sim_aload_n 0 d_X12_step_48 rfl rfl ?_
  refine sim_bipush (-6 : Int32) d_X12_step_49 rfl ?_
  refine sim_callVi Y_X12_refuse 0 [.int ((-6 : Int32))] [] d_X12_step_51 lk_X12_187 cv_X12_refuse ob_R_0 rfl (by omega) (Nat.le_of_ble_eq_true rfl) (ct_X12_refuse (-6 : Int32) M) (fun r1 M1 => ?_)
  exact sim_iret d_X12_step_54 rfl
def f_X12_step_27 (M : mm_M) : Option (Int32 × mm_M) :=
  mm_bi (f_X12_refuse (-4 : Int32) M) (fun r1 M1 =>
  some (r1, M1))
theorem s_X12_step_27 (M : mm_M) : Sim sysR Y_X12_step 9 27 [(0, .ref 0)] [] M mm_fI (f_X12_step_27 M) := by
  unfold f_X12_step_27
  refine sim_aload_n 0 d_X12_step_27 rfl rfl ?_
  refine sim_bipush (-4 : Int32) d_X12_step_28 rfl ?_
  refine sim_callVi Y_X12_refuse 0 [.int ((-4 : Int32))] [] d_X12_step_30 lk_X12_187 cv_X12_refuse ob_R_0 rfl (by omega) (Nat.le_of_ble_eq_true rfl) (ct_X12_refuse (-4 : Int32) M) (fun r1 M1 => ?_)
  exact sim_iret d_X12_step_33 rfl
def f_X12_step (a1 : Int32) (a2 : Int32) (a3 : Int32) (M : mm_M) : Option (Int32 × mm_M) :=
  mm_let (sI M 0 0 (0 : Int32)) (fun M1 =>
  mm_bi (f_X12_isShop a1 M1) (fun r1 M2 =>
  if r1 = 0 then
    mm_bi (f_X12_refuse (-1 : Int32) M2) (fun r5 M7 =>
    some (r5, M7))
  else
    if a2 < 0 then
      f_X12_step_27 M2
    else
      if 0 ≤ a3 then
        if (2000 : Int32) < a2 then
          f_X12_step_48 M2
        else
          if a3 ≤ (2000 : Int32) then
            mm_bi (f_X12_ownerOn a1 a2 M2) (fun r2 M3 =>
            if 0 ≤ r2 then
              mm_bv (f_X12_weigh a3 M3) (fun M4 =>
              mm_bi (f_X12_stepOn a1 a2 M4) (fun r3 M5 =>
              some (r3, M5)))
            else
              mm_bi (f_X12_refuse (-3 : Int32) M3) (fun r4 M6 =>
              some (r4, M6)))
          else
            f_X12_step_48 M2
      else
        f_X12_step_27 M2))
theorem s_X12_step (a1 : Int32) (a2 : Int32) (a3 : Int32) (M : mm_M) : Sim sysR Y_X12_step 9 0 [(0, .ref 0), (1, .int (a1)), (2, .int (a2)), (3, .int (a3))] [] M mm_fI (f_X12_step a1 a2 a3 M) := by
  unfold f_X12_step
  refine sim_aload_n 0 d_X12_step_0 rfl rfl ?_
  refine sim_iconst (0 : Int32) d_X12_step_1 rfl ?_
  refine sim_puti d_X12_step_2 fl_X12_177 ob_R_0 rfl ?_
  refine sim_nmM (fun M1 => ?_)
  refine sim_aload_n 0 d_X12_step_5 rfl rfl ?_
  refine sim_iload_n 1 d_X12_step_6 rfl rfl ?_
  refine sim_callVi Y_X12_isShop 1 [.int (a1)] [] d_X12_step_7 lk_X12_194 cv_X12_isShop ob_R_0 rfl (by omega) (Nat.le_of_ble_eq_true rfl) (ct_X12_isShop a1 M1) (fun r1 M2 => ?_)
  refine sim_if_ne d_X12_step_10 ?_ ?_
  ·
    refine sim_iload_n 2 d_X12_step_19 rfl rfl ?_
    refine sim_if_lt d_X12_step_20 ?_ ?_
    ·
      exact sim_sub [0] rfl (s_X12_step_27 M2)
    ·
      refine sim_iload_n 3 d_X12_step_23 rfl rfl ?_
      refine sim_if_ge d_X12_step_24 ?_ ?_
      ·
        refine sim_iload_n 2 d_X12_step_34 rfl rfl ?_
        refine sim_sipush (2000 : Int32) d_X12_step_35 rfl ?_
        refine sim_icmp_gt d_X12_step_38 ?_ ?_
        ·
          exact sim_sub [0] rfl (s_X12_step_48 M2)
        ·
          refine sim_iload_n 3 d_X12_step_41 rfl rfl ?_
          refine sim_sipush (2000 : Int32) d_X12_step_42 rfl ?_
          refine sim_icmp_le d_X12_step_45 ?_ ?_
          ·
            refine sim_aload_n 0 d_X12_step_55 rfl rfl ?_
            refine sim_iload_n 1 d_X12_step_56 rfl rfl ?_
            refine sim_iload_n 2 d_X12_step_57 rfl rfl ?_
            refine sim_callVi Y_X12_ownerOn 0 [.int (a1), .int (a2)] [] d_X12_step_58 lk_X12_322 cv_X12_ownerOn ob_R_0 rfl (by omega) (Nat.le_of_ble_eq_true rfl) (ct_X12_ownerOn a1 a2 M2) (fun r2 M3 => ?_)
            refine sim_if_ge d_X12_step_61 ?_ ?_
            ·
              refine sim_aload_n 0 d_X12_step_71 rfl rfl ?_
              refine sim_iload_n 3 d_X12_step_72 rfl rfl ?_
              refine sim_callVv Y_X12_weigh 8 [.int (a3)] [] d_X12_step_73 lk_X12_246 cv_X12_weigh ob_R_0 rfl (by omega) (Nat.le_of_ble_eq_true rfl) (ct_X12_weigh a3 M3) (fun M4 => ?_)
              refine sim_aload_n 0 d_X12_step_76 rfl rfl ?_
              refine sim_iload_n 1 d_X12_step_77 rfl rfl ?_
              refine sim_iload_n 2 d_X12_step_78 rfl rfl ?_
              refine sim_callVi Y_X12_stepOn 1 [.int (a1), .int (a2)] [] d_X12_step_79 lk_X12_345 cv_X12_stepOn ob_R_0 rfl (by omega) (Nat.le_of_ble_eq_true rfl) (ct_X12_stepOn a1 a2 M4) (fun r3 M5 => ?_)
              exact sim_iret d_X12_step_82 rfl
            ·
              refine sim_aload_n 0 d_X12_step_64 rfl rfl ?_
              refine sim_bipush (-3 : Int32) d_X12_step_65 rfl ?_
              refine sim_callVi Y_X12_refuse 0 [.int ((-3 : Int32))] [] d_X12_step_67 lk_X12_187 cv_X12_refuse ob_R_0 rfl (by omega) (Nat.le_of_ble_eq_true rfl) (ct_X12_refuse (-3 : Int32) M3) (fun r4 M6 => ?_)
              exact sim_iret d_X12_step_70 rfl
          ·
            exact sim_sub [0] rfl (s_X12_step_48 M2)
      ·
        exact sim_sub [0] rfl (s_X12_step_27 M2)
  ·
    refine sim_aload_n 0 d_X12_step_13 rfl rfl ?_
    refine sim_iconst (-1 : Int32) d_X12_step_14 rfl ?_
    refine sim_callVi Y_X12_refuse 0 [.int ((-1 : Int32))] [] d_X12_step_15 lk_X12_187 cv_X12_refuse ob_R_0 rfl (by omega) (Nat.le_of_ble_eq_true rfl) (ct_X12_refuse (-1 : Int32) M2) (fun r5 M7 => ?_)
    exact sim_iret d_X12_step_18 rfl
theorem ct_X12_step (a1 : Int32) (a2 : Int32) (a3 : Int32) (M : mm_M) : Ct sysR Y_X12_step 9 [.ref 0, .int (a1), .int (a2), .int (a3)] M mm_fI (f_X12_step a1 a2 a3 M) :=
  ct_of_sim (by decide) rfl (Nat.le_of_ble_eq_true rfl) (s_X12_step a1 a2 a3 M)
def f_X12_lost_53 (k17 : Int32 → Int32 → mm_M → Option (Int32 × mm_M)) (x2 : Int32) (t0 : Int32) (t1 : Int32) (M : mm_M) : Option (Int32 × mm_M) :=
  mm_let (t0 + t1) (fun v1 =>
  k17 v1 (x2 + (1 : Int32)) M)
theorem s_X12_lost_53 (k17 : Int32 → Int32 → mm_M → Option (Int32 × mm_M)) (hk17 : ∀ (x1 : Int32) (x2 : Int32) (M : mm_M), Sim sysR Y_X12_lost 9 17 [(0, .ref 0), (1, .int (x1)), (2, .int (x2))] [] M mm_fI (k17 x1 x2 M)) (x2 : Int32) (t0 : Int32) (t1 : Int32) (M : mm_M) : Sim sysR Y_X12_lost 9 53 [(0, .ref 0), (2, .int (x2))] [.int (t1), .int (t0)] M mm_fI (f_X12_lost_53 k17 x2 t0 t1 M) := by
  unfold f_X12_lost_53
  refine sim_iadd d_X12_lost_53 ?_
  refine sim_nmi (fun v1 => ?_)
  refine sim_istore_n (L' := [(0, .ref 0), (2, .int (x2)), (1, .int (v1))]) d_X12_lost_54 rfl (Nat.le_of_ble_eq_true rfl) rfl ?_
  refine sim_iinc (v := x2 + (1 : Int32)) (L' := [(0, .ref 0), (1, .int (v1)), (2, .int (x2 + (1 : Int32)))]) 1 d_X12_lost_55 (Nat.le_of_ble_eq_true rfl) rfl rfl rfl ?_
  refine sim_goto d_X12_lost_58 ?_
  exact sim_sub [0, 1, 2] rfl (hk17 v1 (x2 + (1 : Int32)) M)
def f_X12_lost_52 (k17 : Int32 → Int32 → mm_M → Option (Int32 × mm_M)) (x2 : Int32) (t0 : Int32) (M : mm_M) : Option (Int32 × mm_M) :=
  f_X12_lost_53 k17 x2 t0 (0 : Int32) M
theorem s_X12_lost_52 (k17 : Int32 → Int32 → mm_M → Option (Int32 × mm_M)) (hk17 : ∀ (x1 : Int32) (x2 : Int32) (M : mm_M), Sim sysR Y_X12_lost 9 17 [(0, .ref 0), (1, .int (x1)), (2, .int (x2))] [] M mm_fI (k17 x1 x2 M)) (x2 : Int32) (t0 : Int32) (M : mm_M) : Sim sysR Y_X12_lost 9 52 [(0, .ref 0), (2, .int (x2))] [.int (t0)] M mm_fI (f_X12_lost_52 k17 x2 t0 M) := by
  unfold f_X12_lost_52
  refine sim_iconst (0 : Int32) d_X12_lost_52 rfl ?_
  exact sim_sub [0, 1] rfl (s_X12_lost_53 k17 hk17 x2 t0 (0 : Int32) M)
def f_X12_lost_17 : Nat → Int32 → Int32 → mm_M → Option (Int32 × mm_M)
  | 0, _, _, _ => none
  | n + 1, x1, x2, M =>
  if (mI M 0 2) ≤ x2 then
    some (x1, M)
  else
    mm_ck x2 40 (
    if (mI M 6 x2.toNatClampNeg) = 0 then
      f_X12_lost_52 (f_X12_lost_17 n) x2 x1 M
    else
      mm_bi (f_X12_stepOn x2 (mI M 0 1) M) (fun r1 M1 =>
      if r1 = (4 : Int32) then
        f_X12_lost_53 (f_X12_lost_17 n) x2 x1 (1 : Int32) M1
      else
        f_X12_lost_52 (f_X12_lost_17 n) x2 x1 M1))
theorem s_X12_lost_17 (n : Nat) : ∀ (x1 : Int32) (x2 : Int32) (M : mm_M), Sim sysR Y_X12_lost 9 17 [(0, .ref 0), (1, .int (x1)), (2, .int (x2))] [] M mm_fI (f_X12_lost_17 n x1 x2 M) := by
  induction n with
  | zero => intros; exact sim_none
  | succ n ih =>
    intro x1 x2 M
    rw [f_X12_lost_17]
    refine sim_iload_n 2 d_X12_lost_17 rfl rfl ?_
    refine sim_aload_n 0 d_X12_lost_18 rfl rfl ?_
    refine sim_geti d_X12_lost_19 fl_X12_180 ob_R_0 rfl ?_
    refine sim_icmp_ge d_X12_lost_22 ?_ ?_
    ·
      refine sim_iload_n 1 d_X12_lost_61 rfl rfl ?_
      exact sim_iret d_X12_lost_62 rfl
    ·
      refine sim_iload_n 1 d_X12_lost_25 rfl rfl ?_
      refine sim_aload_n 0 d_X12_lost_26 rfl rfl ?_
      refine sim_geta d_X12_lost_27 fl_X12_25 ob_R_0 rfl ?_
      refine sim_iload_n 2 d_X12_lost_30 rfl rfl ?_
      refine sim_zald d_X12_lost_31 ar_R_6 ?_
      refine sim_if_eq d_X12_lost_32 ?_ ?_
      ·
        exact sim_sub [0, 2] rfl (s_X12_lost_52 (f_X12_lost_17 n) ih x2 x1 M)
      ·
        refine sim_aload_n 0 d_X12_lost_35 rfl rfl ?_
        refine sim_iload_n 2 d_X12_lost_36 rfl rfl ?_
        refine sim_aload_n 0 d_X12_lost_37 rfl rfl ?_
        refine sim_geti d_X12_lost_38 fl_X12_191 ob_R_0 rfl ?_
        refine sim_callVi Y_X12_stepOn 1 [.int (x2), .int (mI M 0 1)] [.int (x1)] d_X12_lost_41 lk_X12_345 cv_X12_stepOn ob_R_0 rfl (by omega) (Nat.le_of_ble_eq_true rfl) (ct_X12_stepOn x2 (mI M 0 1) M) (fun r1 M1 => ?_)
        refine sim_iconst (4 : Int32) d_X12_lost_44 rfl ?_
        refine sim_icmp_ne d_X12_lost_45 ?_ ?_
        ·
          exact sim_sub [0, 2] rfl (s_X12_lost_52 (f_X12_lost_17 n) ih x2 x1 M1)
        ·
          refine sim_iconst (1 : Int32) d_X12_lost_48 rfl ?_
          refine sim_goto d_X12_lost_49 ?_
          exact sim_sub [0, 2] rfl (s_X12_lost_53 (f_X12_lost_17 n) ih x2 x1 (1 : Int32) M1)
def f_X12_lost (M : mm_M) : Option (Int32 × mm_M) :=
  mm_let (sI M 0 0 (0 : Int32)) (fun M1 =>
  mm_bv (f_X12_weigh (mI M1 0 1) M1) (fun M2 =>
  f_X12_lost_17 mm_fu (0 : Int32) (0 : Int32) M2))
theorem s_X12_lost (M : mm_M) : Sim sysR Y_X12_lost 9 0 [(0, .ref 0)] [] M mm_fI (f_X12_lost M) := by
  unfold f_X12_lost
  refine sim_aload_n 0 d_X12_lost_0 rfl rfl ?_
  refine sim_iconst (0 : Int32) d_X12_lost_1 rfl ?_
  refine sim_puti d_X12_lost_2 fl_X12_177 ob_R_0 rfl ?_
  refine sim_nmM (fun M1 => ?_)
  refine sim_aload_n 0 d_X12_lost_5 rfl rfl ?_
  refine sim_aload_n 0 d_X12_lost_6 rfl rfl ?_
  refine sim_geti d_X12_lost_7 fl_X12_191 ob_R_0 rfl ?_
  refine sim_callVv Y_X12_weigh 8 [.int (mI M1 0 1)] [] d_X12_lost_10 lk_X12_246 cv_X12_weigh ob_R_0 rfl (by omega) (Nat.le_of_ble_eq_true rfl) (ct_X12_weigh (mI M1 0 1) M1) (fun M2 => ?_)
  refine sim_iconst (0 : Int32) d_X12_lost_13 rfl ?_
  refine sim_istore_n (L' := [(0, .ref 0), (1, .int ((0 : Int32)))]) d_X12_lost_14 rfl (Nat.le_of_ble_eq_true rfl) rfl ?_
  refine sim_iconst (0 : Int32) d_X12_lost_15 rfl ?_
  refine sim_istore_n (L' := [(0, .ref 0), (1, .int ((0 : Int32))), (2, .int ((0 : Int32)))]) d_X12_lost_16 rfl (Nat.le_of_ble_eq_true rfl) rfl ?_
  exact sim_sub [0, 1, 2] rfl (s_X12_lost_17 mm_fu (0 : Int32) (0 : Int32) M2)
theorem ct_X12_lost (M : mm_M) : Ct sysR Y_X12_lost 9 [.ref 0] M mm_fI (f_X12_lost M) :=
  ct_of_sim (by decide) rfl (Nat.le_of_ble_eq_true rfl) (s_X12_lost M)
def f_X12_leave (a1 : Int32) (M : mm_M) : Option (Int32 × mm_M) :=
  mm_let (sI M 0 0 (0 : Int32)) (fun M1 =>
  if 0 ≤ a1 then
    if a1 ≤ (2000 : Int32) then
      mm_let (mI M1 0 60) (fun v1 =>
      mm_let (sI M1 0 60 a1) (fun M2 =>
      some (v1, M2)))
    else
      mm_bi (f_X12_refuse (-6 : Int32) M1) (fun r1 M3 =>
      some (r1, M3))
  else
    mm_bi (f_X12_refuse (-4 : Int32) M1) (fun r2 M4 =>
    some (r2, M4)))
theorem s_X12_leave (a1 : Int32) (M : mm_M) : Sim sysR Y_X12_leave 1 0 [(0, .ref 0), (1, .int (a1))] [] M mm_fI (f_X12_leave a1 M) := by
  unfold f_X12_leave
  refine sim_aload_n 0 d_X12_leave_0 rfl rfl ?_
  refine sim_iconst (0 : Int32) d_X12_leave_1 rfl ?_
  refine sim_puti d_X12_leave_2 fl_X12_177 ob_R_0 rfl ?_
  refine sim_nmM (fun M1 => ?_)
  refine sim_iload_n 1 d_X12_leave_5 rfl rfl ?_
  refine sim_if_ge d_X12_leave_6 ?_ ?_
  ·
    refine sim_iload_n 1 d_X12_leave_16 rfl rfl ?_
    refine sim_sipush (2000 : Int32) d_X12_leave_17 rfl ?_
    refine sim_icmp_le d_X12_leave_20 ?_ ?_
    ·
      refine sim_aload_n 0 d_X12_leave_30 rfl rfl ?_
      refine sim_geti d_X12_leave_31 fl_X12_140 ob_R_0 rfl ?_
      refine sim_nmi (fun v1 => ?_)
      refine sim_istore_n (L' := [(0, .ref 0), (1, .int (a1)), (2, .int (v1))]) d_X12_leave_34 rfl (Nat.le_of_ble_eq_true rfl) rfl ?_
      refine sim_aload_n 0 d_X12_leave_35 rfl rfl ?_
      refine sim_iload_n 1 d_X12_leave_36 rfl rfl ?_
      refine sim_puti d_X12_leave_37 fl_X12_140 ob_R_0 rfl ?_
      refine sim_nmM (fun M2 => ?_)
      refine sim_iload_n 2 d_X12_leave_40 rfl rfl ?_
      exact sim_iret d_X12_leave_41 rfl
    ·
      refine sim_aload_n 0 d_X12_leave_23 rfl rfl ?_
      refine sim_bipush (-6 : Int32) d_X12_leave_24 rfl ?_
      refine sim_callVi Y_X12_refuse 0 [.int ((-6 : Int32))] [] d_X12_leave_26 lk_X12_187 cv_X12_refuse ob_R_0 rfl (by omega) (Nat.le_of_ble_eq_true rfl) (ct_X12_refuse (-6 : Int32) M1) (fun r1 M3 => ?_)
      exact sim_iret d_X12_leave_29 rfl
  ·
    refine sim_aload_n 0 d_X12_leave_9 rfl rfl ?_
    refine sim_bipush (-4 : Int32) d_X12_leave_10 rfl ?_
    refine sim_callVi Y_X12_refuse 0 [.int ((-4 : Int32))] [] d_X12_leave_12 lk_X12_187 cv_X12_refuse ob_R_0 rfl (by omega) (Nat.le_of_ble_eq_true rfl) (ct_X12_refuse (-4 : Int32) M1) (fun r2 M4 => ?_)
    exact sim_iret d_X12_leave_15 rfl
theorem ct_X12_leave (a1 : Int32) (M : mm_M) : Ct sysR Y_X12_leave 1 [.ref 0, .int (a1)] M mm_fI (f_X12_leave a1 M) :=
  ct_of_sim (by decide) rfl (Nat.le_of_ble_eq_true rfl) (s_X12_leave a1 M)
def f_X12_farFrom_108 (x4 : Int32) (x6 : Int32) (t0 : Int32) (M : mm_M) : Option (Int32 × mm_M) :=
  if x4 ≤ x6 then
    some (t0 + (x6 - x4), M)
  else
    some (t0 + (x4 - x6), M)
theorem s_X12_farFrom_108 (x4 : Int32) (x6 : Int32) (t0 : Int32) (M : mm_M) : Sim sysR Y_X12_farFrom 0 108 [(4, .int (x4)), (6, .int (x6))] [.int (t0)] M mm_fI (f_X12_farFrom_108 x4 x6 t0 M) := by
  unfold f_X12_farFrom_108
  refine sim_iload 0 d_X12_farFrom_108 rfl ?_
  refine sim_iload 1 d_X12_farFrom_110 rfl ?_
  refine sim_icmp_le d_X12_farFrom_112 ?_ ?_
  ·
    refine sim_iload 1 d_X12_farFrom_123 rfl ?_
    refine sim_iload 0 d_X12_farFrom_125 rfl ?_
    refine sim_isub d_X12_farFrom_127 ?_
    refine sim_iadd d_X12_farFrom_128 ?_
    exact sim_iret d_X12_farFrom_129 rfl
  ·
    refine sim_iload 0 d_X12_farFrom_115 rfl ?_
    refine sim_iload 1 d_X12_farFrom_117 rfl ?_
    refine sim_isub d_X12_farFrom_119 ?_
    refine sim_goto d_X12_farFrom_120 ?_
    refine sim_iadd d_X12_farFrom_128 ?_
    exact sim_iret d_X12_farFrom_129 rfl
def f_X12_farFrom_89 (x3 : Int32) (x4 : Int32) (x5 : Int32) (t0 : Int32) (M : mm_M) : Option (Int32 × mm_M) :=
  if x3 ≤ x5 then
    f_X12_farFrom_108 x4 t0 (x5 - x3) M
  else
    f_X12_farFrom_108 x4 t0 (x3 - x5) M
theorem s_X12_farFrom_89 (x3 : Int32) (x4 : Int32) (x5 : Int32) (t0 : Int32) (M : mm_M) : Sim sysR Y_X12_farFrom 0 89 [(3, .int (x3)), (4, .int (x4)), (5, .int (x5))] [.int (t0)] M mm_fI (f_X12_farFrom_89 x3 x4 x5 t0 M) := by
  unfold f_X12_farFrom_89
  refine sim_istore (L' := [(3, .int (x3)), (4, .int (x4)), (5, .int (x5)), (6, .int (t0))]) d_X12_farFrom_89 (Nat.le_of_ble_eq_true rfl) rfl ?_
  refine sim_iload_n 0 d_X12_farFrom_91 rfl rfl ?_
  refine sim_iload 2 d_X12_farFrom_92 rfl ?_
  refine sim_icmp_le d_X12_farFrom_94 ?_ ?_
  ·
    refine sim_iload 2 d_X12_farFrom_104 rfl ?_
    refine sim_iload_n 0 d_X12_farFrom_106 rfl rfl ?_
    refine sim_isub d_X12_farFrom_107 ?_
    exact sim_sub [1, 3] rfl (s_X12_farFrom_108 x4 t0 (x5 - x3) M)
  ·
    refine sim_iload_n 0 d_X12_farFrom_97 rfl rfl ?_
    refine sim_iload 2 d_X12_farFrom_98 rfl ?_
    refine sim_isub d_X12_farFrom_100 ?_
    refine sim_goto d_X12_farFrom_101 ?_
    exact sim_sub [1, 3] rfl (s_X12_farFrom_108 x4 t0 (x3 - x5) M)
def f_X12_farFrom_66 (x2 : Int32) (x3 : Int32) (x4 : Int32) (t0 : Int32) (M : mm_M) : Option (Int32 × mm_M) :=
  if x2 = (8 : Int32) then
    f_X12_farFrom_89 x3 x4 t0 (0 : Int32) M
  else
    mm_ck x2 8 (
    mm_ck (mI M 44 x2.toNatClampNeg) 40 (
    f_X12_farFrom_89 x3 x4 t0 (mI M 4 (mI M 44 x2.toNatClampNeg).toNatClampNeg) M))
theorem s_X12_farFrom_66 (x2 : Int32) (x3 : Int32) (x4 : Int32) (t0 : Int32) (M : mm_M) : Sim sysR Y_X12_farFrom 0 66 [(0, .ref 0), (2, .int (x2)), (3, .int (x3)), (4, .int (x4))] [.int (t0)] M mm_fI (f_X12_farFrom_66 x2 x3 x4 t0 M) := by
  unfold f_X12_farFrom_66
  refine sim_istore (L' := [(0, .ref 0), (2, .int (x2)), (3, .int (x3)), (4, .int (x4)), (5, .int (t0))]) d_X12_farFrom_66 (Nat.le_of_ble_eq_true rfl) rfl ?_
  refine sim_iload_n 1 d_X12_farFrom_68 rfl rfl ?_
  refine sim_bipush (8 : Int32) d_X12_farFrom_69 rfl ?_
  refine sim_icmp_ne d_X12_farFrom_71 ?_ ?_
  ·
    refine sim_aload_n 0 d_X12_farFrom_78 rfl rfl ?_
    refine sim_geta d_X12_farFrom_79 fl_X12_19 ob_R_0 rfl ?_
    refine sim_aload_n 0 d_X12_farFrom_82 rfl rfl ?_
    refine sim_geta d_X12_farFrom_83 fl_X12_144 ob_R_0 rfl ?_
    refine sim_iload_n 1 d_X12_farFrom_86 rfl rfl ?_
    refine sim_iald d_X12_farFrom_87 ar_R_44 ?_
    refine sim_iald d_X12_farFrom_88 ar_R_4 ?_
    exact sim_sub [2, 3, 4] rfl (s_X12_farFrom_89 x3 x4 t0 (mI M 4 (mI M 44 x2.toNatClampNeg).toNatClampNeg) M)
  ·
    refine sim_iconst (0 : Int32) d_X12_farFrom_74 rfl ?_
    refine sim_goto d_X12_farFrom_75 ?_
    exact sim_sub [2, 3, 4] rfl (s_X12_farFrom_89 x3 x4 t0 (0 : Int32) M)
def f_X12_farFrom_43 (x2 : Int32) (x3 : Int32) (t0 : Int32) (M : mm_M) : Option (Int32 × mm_M) :=
  if x2 = (8 : Int32) then
    f_X12_farFrom_66 x2 x3 t0 (0 : Int32) M
  else
    mm_ck x2 8 (
    mm_ck (mI M 44 x2.toNatClampNeg) 40 (
    f_X12_farFrom_66 x2 x3 t0 (mI M 3 (mI M 44 x2.toNatClampNeg).toNatClampNeg) M))
theorem s_X12_farFrom_43 (x2 : Int32) (x3 : Int32) (t0 : Int32) (M : mm_M) : Sim sysR Y_X12_farFrom 0 43 [(0, .ref 0), (2, .int (x2)), (3, .int (x3))] [.int (t0)] M mm_fI (f_X12_farFrom_43 x2 x3 t0 M) := by
  unfold f_X12_farFrom_43
  refine sim_istore (L' := [(0, .ref 0), (2, .int (x2)), (3, .int (x3)), (4, .int (t0))]) d_X12_farFrom_43 (Nat.le_of_ble_eq_true rfl) rfl ?_
  refine sim_iload_n 1 d_X12_farFrom_45 rfl rfl ?_
  refine sim_bipush (8 : Int32) d_X12_farFrom_46 rfl ?_
  refine sim_icmp_ne d_X12_farFrom_48 ?_ ?_
  ·
    refine sim_aload_n 0 d_X12_farFrom_55 rfl rfl ?_
    refine sim_geta d_X12_farFrom_56 fl_X12_16 ob_R_0 rfl ?_
    refine sim_aload_n 0 d_X12_farFrom_59 rfl rfl ?_
    refine sim_geta d_X12_farFrom_60 fl_X12_144 ob_R_0 rfl ?_
    refine sim_iload_n 1 d_X12_farFrom_63 rfl rfl ?_
    refine sim_iald d_X12_farFrom_64 ar_R_44 ?_
    refine sim_iald d_X12_farFrom_65 ar_R_3 ?_
    exact sim_sub [0, 1, 2, 3] rfl (s_X12_farFrom_66 x2 x3 t0 (mI M 3 (mI M 44 x2.toNatClampNeg).toNatClampNeg) M)
  ·
    refine sim_iconst (0 : Int32) d_X12_farFrom_51 rfl ?_
    refine sim_goto d_X12_farFrom_52 ?_
    exact sim_sub [0, 1, 2, 3] rfl (s_X12_farFrom_66 x2 x3 t0 (0 : Int32) M)
def f_X12_farFrom_21 (x1 : Int32) (x2 : Int32) (t0 : Int32) (M : mm_M) : Option (Int32 × mm_M) :=
  if x1 = (8 : Int32) then
    f_X12_farFrom_43 x2 t0 (0 : Int32) M
  else
    mm_ck x1 8 (
    mm_ck (mI M 44 x1.toNatClampNeg) 40 (
    f_X12_farFrom_43 x2 t0 (mI M 4 (mI M 44 x1.toNatClampNeg).toNatClampNeg) M))
theorem s_X12_farFrom_21 (x1 : Int32) (x2 : Int32) (t0 : Int32) (M : mm_M) : Sim sysR Y_X12_farFrom 0 21 [(0, .ref 0), (1, .int (x1)), (2, .int (x2))] [.int (t0)] M mm_fI (f_X12_farFrom_21 x1 x2 t0 M) := by
  unfold f_X12_farFrom_21
  refine sim_istore_n (L' := [(0, .ref 0), (1, .int (x1)), (2, .int (x2)), (3, .int (t0))]) d_X12_farFrom_21 rfl (Nat.le_of_ble_eq_true rfl) rfl ?_
  refine sim_iload_n 1 d_X12_farFrom_22 rfl rfl ?_
  refine sim_bipush (8 : Int32) d_X12_farFrom_23 rfl ?_
  refine sim_icmp_ne d_X12_farFrom_25 ?_ ?_
  ·
    refine sim_aload_n 0 d_X12_farFrom_32 rfl rfl ?_
    refine sim_geta d_X12_farFrom_33 fl_X12_19 ob_R_0 rfl ?_
    refine sim_aload_n 0 d_X12_farFrom_36 rfl rfl ?_
    refine sim_geta d_X12_farFrom_37 fl_X12_144 ob_R_0 rfl ?_
    refine sim_iload_n 1 d_X12_farFrom_40 rfl rfl ?_
    refine sim_iald d_X12_farFrom_41 ar_R_44 ?_
    refine sim_iald d_X12_farFrom_42 ar_R_4 ?_
    exact sim_sub [0, 2, 3] rfl (s_X12_farFrom_43 x2 t0 (mI M 4 (mI M 44 x1.toNatClampNeg).toNatClampNeg) M)
  ·
    refine sim_iconst (0 : Int32) d_X12_farFrom_28 rfl ?_
    refine sim_goto d_X12_farFrom_29 ?_
    exact sim_sub [0, 2, 3] rfl (s_X12_farFrom_43 x2 t0 (0 : Int32) M)
def f_X12_farFrom (a1 : Int32) (a2 : Int32) (M : mm_M) : Option (Int32 × mm_M) :=
  if a1 = (8 : Int32) then
    f_X12_farFrom_21 a1 a2 (0 : Int32) M
  else
    mm_ck a1 8 (
    mm_ck (mI M 44 a1.toNatClampNeg) 40 (
    f_X12_farFrom_21 a1 a2 (mI M 3 (mI M 44 a1.toNatClampNeg).toNatClampNeg) M))
theorem s_X12_farFrom (a1 : Int32) (a2 : Int32) (M : mm_M) : Sim sysR Y_X12_farFrom 0 0 [(0, .ref 0), (1, .int (a1)), (2, .int (a2))] [] M mm_fI (f_X12_farFrom a1 a2 M) := by
  unfold f_X12_farFrom
  refine sim_iload_n 1 d_X12_farFrom_0 rfl rfl ?_
  refine sim_bipush (8 : Int32) d_X12_farFrom_1 rfl ?_
  refine sim_icmp_ne d_X12_farFrom_3 ?_ ?_
  ·
    refine sim_aload_n 0 d_X12_farFrom_10 rfl rfl ?_
    refine sim_geta d_X12_farFrom_11 fl_X12_16 ob_R_0 rfl ?_
    refine sim_aload_n 0 d_X12_farFrom_14 rfl rfl ?_
    refine sim_geta d_X12_farFrom_15 fl_X12_144 ob_R_0 rfl ?_
    refine sim_iload_n 1 d_X12_farFrom_18 rfl rfl ?_
    refine sim_iald d_X12_farFrom_19 ar_R_44 ?_
    refine sim_iald d_X12_farFrom_20 ar_R_3 ?_
    exact sim_sub [0, 1, 2] rfl (s_X12_farFrom_21 a1 a2 (mI M 3 (mI M 44 a1.toNatClampNeg).toNatClampNeg) M)
  ·
    refine sim_iconst (0 : Int32) d_X12_farFrom_6 rfl ?_
    refine sim_goto d_X12_farFrom_7 ?_
    exact sim_sub [0, 1, 2] rfl (s_X12_farFrom_21 a1 a2 (0 : Int32) M)
theorem ct_X12_farFrom (a1 : Int32) (a2 : Int32) (M : mm_M) : Ct sysR Y_X12_farFrom 0 [.ref 0, .int (a1), .int (a2)] M mm_fI (f_X12_farFrom a1 a2 M) :=
  ct_of_sim (by decide) rfl (Nat.le_of_ble_eq_true rfl) (s_X12_farFrom a1 a2 M)
def f_X12_allowed_100 (k41 : Int32 → Int32 → Int32 → Int32 → Int32 → mm_M → Option (Int32 × mm_M)) (x1 : Int32) (x2 : Int32) (x3 : Int32) (x5 : Int32) (t0 : Int32) (M : mm_M) : Option (Int32 × mm_M) :=
  k41 x1 x2 x3 t0 (x5 + (1 : Int32)) M
theorem s_X12_allowed_100 (k41 : Int32 → Int32 → Int32 → Int32 → Int32 → mm_M → Option (Int32 × mm_M)) (hk41 : ∀ (x1 : Int32) (x2 : Int32) (x3 : Int32) (x4 : Int32) (x5 : Int32) (M : mm_M), Sim sysR Y_X12_allowed 1 41 [(0, .ref 0), (1, .int (x1)), (2, .int (x2)), (3, .int (x3)), (4, .int (x4)), (5, .int (x5))] [] M mm_fI (k41 x1 x2 x3 x4 x5 M)) (x1 : Int32) (x2 : Int32) (x3 : Int32) (x5 : Int32) (t0 : Int32) (M : mm_M) : Sim sysR Y_X12_allowed 1 100 [(0, .ref 0), (1, .int (x1)), (2, .int (x2)), (3, .int (x3)), (5, .int (x5))] [.int (t0)] M mm_fI (f_X12_allowed_100 k41 x1 x2 x3 x5 t0 M) := by
  unfold f_X12_allowed_100
  refine sim_istore (L' := [(0, .ref 0), (1, .int (x1)), (2, .int (x2)), (3, .int (x3)), (5, .int (x5)), (4, .int (t0))]) d_X12_allowed_100 (Nat.le_of_ble_eq_true rfl) rfl ?_
  refine sim_iinc (v := x5 + (1 : Int32)) (L' := [(0, .ref 0), (1, .int (x1)), (2, .int (x2)), (3, .int (x3)), (4, .int (t0)), (5, .int (x5 + (1 : Int32)))]) 4 d_X12_allowed_102 (Nat.le_of_ble_eq_true rfl) rfl rfl rfl ?_
  refine sim_goto d_X12_allowed_105 ?_
  exact sim_sub [0, 1, 2, 3, 4, 5] rfl (hk41 x1 x2 x3 t0 (x5 + (1 : Int32)) M)
def f_X12_allowed_99 (k41 : Int32 → Int32 → Int32 → Int32 → Int32 → mm_M → Option (Int32 × mm_M)) (x1 : Int32) (x2 : Int32) (x3 : Int32) (x5 : Int32) (M : mm_M) : Option (Int32 × mm_M) :=
  f_X12_allowed_100 k41 x1 x2 x3 x5 (0 : Int32) M
theorem s_X12_allowed_99 (k41 : Int32 → Int32 → Int32 → Int32 → Int32 → mm_M → Option (Int32 × mm_M)) (hk41 : ∀ (x1 : Int32) (x2 : Int32) (x3 : Int32) (x4 : Int32) (x5 : Int32) (M : mm_M), Sim sysR Y_X12_allowed 1 41 [(0, .ref 0), (1, .int (x1)), (2, .int (x2)), (3, .int (x3)), (4, .int (x4)), (5, .int (x5))] [] M mm_fI (k41 x1 x2 x3 x4 x5 M)) (x1 : Int32) (x2 : Int32) (x3 : Int32) (x5 : Int32) (M : mm_M) : Sim sysR Y_X12_allowed 1 99 [(0, .ref 0), (1, .int (x1)), (2, .int (x2)), (3, .int (x3)), (5, .int (x5))] [] M mm_fI (f_X12_allowed_99 k41 x1 x2 x3 x5 M) := by
  unfold f_X12_allowed_99
  refine sim_iconst (0 : Int32) d_X12_allowed_99 rfl ?_
  exact sim_sub [0, 1, 2, 3, 4] rfl (s_X12_allowed_100 k41 hk41 x1 x2 x3 x5 (0 : Int32) M)
def f_X12_allowed_95 (k41 : Int32 → Int32 → Int32 → Int32 → Int32 → mm_M → Option (Int32 × mm_M)) (x1 : Int32) (x2 : Int32) (x3 : Int32) (x5 : Int32) (M : mm_M) : Option (Int32 × mm_M) :=
  f_X12_allowed_100 k41 x1 x2 x3 x5 (1 : Int32) M
theorem s_X12_allowed_95 (k41 : Int32 → Int32 → Int32 → Int32 → Int32 → mm_M → Option (Int32 × mm_M)) (hk41 : ∀ (x1 : Int32) (x2 : Int32) (x3 : Int32) (x4 : Int32) (x5 : Int32) (M : mm_M), Sim sysR Y_X12_allowed 1 41 [(0, .ref 0), (1, .int (x1)), (2, .int (x2)), (3, .int (x3)), (4, .int (x4)), (5, .int (x5))] [] M mm_fI (k41 x1 x2 x3 x4 x5 M)) (x1 : Int32) (x2 : Int32) (x3 : Int32) (x5 : Int32) (M : mm_M) : Sim sysR Y_X12_allowed 1 95 [(0, .ref 0), (1, .int (x1)), (2, .int (x2)), (3, .int (x3)), (5, .int (x5))] [] M mm_fI (f_X12_allowed_95 k41 x1 x2 x3 x5 M) := by
  unfold f_X12_allowed_95
  refine sim_iconst (1 : Int32) d_X12_allowed_95 rfl ?_
  refine sim_goto d_X12_allowed_96 ?_
  exact sim_sub [0, 1, 2, 3, 4] rfl (s_X12_allowed_100 k41 hk41 x1 x2 x3 x5 (1 : Int32) M)
def f_X12_allowed_41 (k108 : Int32 → Int32 → Int32 → Int32 → mm_M → Option (Int32 × mm_M)) : Nat → Int32 → Int32 → Int32 → Int32 → Int32 → mm_M → Option (Int32 × mm_M)
  | 0, _, _, _, _, _, _ => none
  | n + 1, x1, x2, x3, x4, x5, M =>
  if (mI M 0 43) ≤ x5 then
    k108 x1 x2 x3 x4 M
  else
    if x4 = 0 then
      f_X12_allowed_99 (f_X12_allowed_41 k108 n) x1 x2 x3 x5 M
    else
      mm_bi (f_X12_countsBy x5 (mI M 0 1) M) (fun r1 M1 =>
      if r1 = 0 then
        f_X12_allowed_95 (f_X12_allowed_41 k108 n) x1 x2 x3 x5 M1
      else
        mm_ck x5 100 (
        if (mI M1 29 x5.toNatClampNeg) = x1 then
          mm_ck x5 100 (
          mm_ck x3 8 (
          if (mI M1 28 x5.toNatClampNeg) = (mI M1 44 x3.toNatClampNeg) then
            f_X12_allowed_99 (f_X12_allowed_41 k108 n) x1 x2 x3 x5 M1
          else
            f_X12_allowed_95 (f_X12_allowed_41 k108 n) x1 x2 x3 x5 M1))
        else
          f_X12_allowed_95 (f_X12_allowed_41 k108 n) x1 x2 x3 x5 M1))
theorem s_X12_allowed_41 (k108 : Int32 → Int32 → Int32 → Int32 → mm_M → Option (Int32 × mm_M)) (hk108 : ∀ (x1 : Int32) (x2 : Int32) (x3 : Int32) (x4 : Int32) (M : mm_M), Sim sysR Y_X12_allowed 1 108 [(0, .ref 0), (1, .int (x1)), (2, .int (x2)), (3, .int (x3)), (4, .int (x4))] [] M mm_fI (k108 x1 x2 x3 x4 M)) (n : Nat) : ∀ (x1 : Int32) (x2 : Int32) (x3 : Int32) (x4 : Int32) (x5 : Int32) (M : mm_M), Sim sysR Y_X12_allowed 1 41 [(0, .ref 0), (1, .int (x1)), (2, .int (x2)), (3, .int (x3)), (4, .int (x4)), (5, .int (x5))] [] M mm_fI (f_X12_allowed_41 k108 n x1 x2 x3 x4 x5 M) := by
  induction n with
  | zero => intros; exact sim_none
  | succ n ih =>
    intro x1 x2 x3 x4 x5 M
    rw [f_X12_allowed_41]
    refine sim_iload 5 d_X12_allowed_41 rfl ?_
    refine sim_aload_n 0 d_X12_allowed_43 rfl rfl ?_
    refine sim_geti d_X12_allowed_44 fl_X12_249 ob_R_0 rfl ?_
    refine sim_icmp_ge d_X12_allowed_47 ?_ ?_
    ·
      exact sim_sub [0, 1, 2, 3, 4] rfl (hk108 x1 x2 x3 x4 M)
    ·
      refine sim_iload 4 d_X12_allowed_50 rfl ?_
      refine sim_if_eq d_X12_allowed_52 ?_ ?_
      ·
        exact sim_sub [0, 1, 2, 3, 5] rfl (s_X12_allowed_99 (f_X12_allowed_41 k108 n) ih x1 x2 x3 x5 M)
      ·
        refine sim_aload_n 0 d_X12_allowed_55 rfl rfl ?_
        refine sim_iload 5 d_X12_allowed_56 rfl ?_
        refine sim_aload_n 0 d_X12_allowed_58 rfl rfl ?_
        refine sim_geti d_X12_allowed_59 fl_X12_191 ob_R_0 rfl ?_
        refine sim_callVi Y_X12_countsBy 0 [.int (x5), .int (mI M 0 1)] [] d_X12_allowed_62 lk_X12_328 cv_X12_countsBy ob_R_0 rfl (by omega) (Nat.le_of_ble_eq_true rfl) (ct_X12_countsBy x5 (mI M 0 1) M) (fun r1 M1 => ?_)
        refine sim_if_eq d_X12_allowed_65 ?_ ?_
        ·
          exact sim_sub [0, 1, 2, 3, 5] rfl (s_X12_allowed_95 (f_X12_allowed_41 k108 n) ih x1 x2 x3 x5 M1)
        ·
          refine sim_aload_n 0 d_X12_allowed_68 rfl rfl ?_
          refine sim_geta d_X12_allowed_69 fl_X12_95 ob_R_0 rfl ?_
          refine sim_iload 5 d_X12_allowed_72 rfl ?_
          refine sim_iald d_X12_allowed_74 ar_R_29 ?_
          refine sim_iload_n 1 d_X12_allowed_75 rfl rfl ?_
          refine sim_icmp_ne d_X12_allowed_76 ?_ ?_
          ·
            exact sim_sub [0, 1, 2, 3, 5] rfl (s_X12_allowed_95 (f_X12_allowed_41 k108 n) ih x1 x2 x3 x5 M1)
          ·
            refine sim_aload_n 0 d_X12_allowed_79 rfl rfl ?_
            refine sim_geta d_X12_allowed_80 fl_X12_92 ob_R_0 rfl ?_
            refine sim_iload 5 d_X12_allowed_83 rfl ?_
            refine sim_iald d_X12_allowed_85 ar_R_28 ?_
            refine sim_aload_n 0 d_X12_allowed_86 rfl rfl ?_
            refine sim_geta d_X12_allowed_87 fl_X12_144 ob_R_0 rfl ?_
            refine sim_iload_n 3 d_X12_allowed_90 rfl rfl ?_
            refine sim_iald d_X12_allowed_91 ar_R_44 ?_
            refine sim_icmp_eq d_X12_allowed_92 ?_ ?_
            ·
              exact sim_sub [0, 1, 2, 3, 5] rfl (s_X12_allowed_99 (f_X12_allowed_41 k108 n) ih x1 x2 x3 x5 M1)
            ·
              exact sim_sub [0, 1, 2, 3, 5] rfl (s_X12_allowed_95 (f_X12_allowed_41 k108 n) ih x1 x2 x3 x5 M1)
def f_X12_allowed_121 (k4 : Int32 → Int32 → Int32 → mm_M → Option (Int32 × mm_M)) (x1 : Int32) (x3 : Int32) (t0 : Int32) (t1 : Int32) (M : mm_M) : Option (Int32 × mm_M) :=
  mm_let (t0 ||| t1) (fun v1 =>
  k4 x1 v1 (x3 + (1 : Int32)) M)
theorem s_X12_allowed_121 (k4 : Int32 → Int32 → Int32 → mm_M → Option (Int32 × mm_M)) (hk4 : ∀ (x1 : Int32) (x2 : Int32) (x3 : Int32) (M : mm_M), Sim sysR Y_X12_allowed 1 4 [(0, .ref 0), (1, .int (x1)), (2, .int (x2)), (3, .int (x3))] [] M mm_fI (k4 x1 x2 x3 M)) (x1 : Int32) (x3 : Int32) (t0 : Int32) (t1 : Int32) (M : mm_M) : Sim sysR Y_X12_allowed 1 121 [(0, .ref 0), (1, .int (x1)), (3, .int (x3))] [.int (t1), .int (t0)] M mm_fI (f_X12_allowed_121 k4 x1 x3 t0 t1 M) := by
  unfold f_X12_allowed_121
  refine sim_ior d_X12_allowed_121 ?_
  refine sim_nmi (fun v1 => ?_)
  refine sim_istore_n (L' := [(0, .ref 0), (1, .int (x1)), (3, .int (x3)), (2, .int (v1))]) d_X12_allowed_122 rfl (Nat.le_of_ble_eq_true rfl) rfl ?_
  refine sim_iinc (v := x3 + (1 : Int32)) (L' := [(0, .ref 0), (1, .int (x1)), (2, .int (v1)), (3, .int (x3 + (1 : Int32)))]) 2 d_X12_allowed_123 (Nat.le_of_ble_eq_true rfl) rfl rfl rfl ?_
  refine sim_goto d_X12_allowed_126 ?_
  exact sim_sub [0, 1, 2, 3] rfl (hk4 x1 v1 (x3 + (1 : Int32)) M)
def f_X12_allowed_108 (k4 : Int32 → Int32 → Int32 → mm_M → Option (Int32 × mm_M)) (x1 : Int32) (x2 : Int32) (x3 : Int32) (x4 : Int32) (M : mm_M) : Option (Int32 × mm_M) :=
  if x4 = 0 then
    f_X12_allowed_121 k4 x1 x3 x2 (0 : Int32) M
  else
    f_X12_allowed_121 k4 x1 x3 x2 ((1 : Int32) <<< (x3 &&& 31)) M
theorem s_X12_allowed_108 (k4 : Int32 → Int32 → Int32 → mm_M → Option (Int32 × mm_M)) (hk4 : ∀ (x1 : Int32) (x2 : Int32) (x3 : Int32) (M : mm_M), Sim sysR Y_X12_allowed 1 4 [(0, .ref 0), (1, .int (x1)), (2, .int (x2)), (3, .int (x3))] [] M mm_fI (k4 x1 x2 x3 M)) (x1 : Int32) (x2 : Int32) (x3 : Int32) (x4 : Int32) (M : mm_M) : Sim sysR Y_X12_allowed 1 108 [(0, .ref 0), (1, .int (x1)), (2, .int (x2)), (3, .int (x3)), (4, .int (x4))] [] M mm_fI (f_X12_allowed_108 k4 x1 x2 x3 x4 M) := by
  unfold f_X12_allowed_108
  refine sim_iload_n 2 d_X12_allowed_108 rfl rfl ?_
  refine sim_iload 4 d_X12_allowed_109 rfl ?_
  refine sim_if_eq d_X12_allowed_111 ?_ ?_
  ·
    refine sim_iconst (0 : Int32) d_X12_allowed_120 rfl ?_
    exact sim_sub [0, 1, 3] rfl (s_X12_allowed_121 k4 hk4 x1 x3 x2 (0 : Int32) M)
  ·
    refine sim_iconst (1 : Int32) d_X12_allowed_114 rfl ?_
    refine sim_iload_n 3 d_X12_allowed_115 rfl rfl ?_
    refine sim_ishl d_X12_allowed_116 ?_
    refine sim_goto d_X12_allowed_117 ?_
    exact sim_sub [0, 1, 3] rfl (s_X12_allowed_121 k4 hk4 x1 x3 x2 ((1 : Int32) <<< (x3 &&& 31)) M)
def f_X12_allowed_36 (k4 : Int32 → Int32 → Int32 → mm_M → Option (Int32 × mm_M)) (x1 : Int32) (x2 : Int32) (x3 : Int32) (t0 : Int32) (M : mm_M) : Option (Int32 × mm_M) :=
  f_X12_allowed_41 (f_X12_allowed_108 k4) mm_fu x1 x2 x3 t0 (0 : Int32) M
theorem s_X12_allowed_36 (k4 : Int32 → Int32 → Int32 → mm_M → Option (Int32 × mm_M)) (hk4 : ∀ (x1 : Int32) (x2 : Int32) (x3 : Int32) (M : mm_M), Sim sysR Y_X12_allowed 1 4 [(0, .ref 0), (1, .int (x1)), (2, .int (x2)), (3, .int (x3))] [] M mm_fI (k4 x1 x2 x3 M)) (x1 : Int32) (x2 : Int32) (x3 : Int32) (t0 : Int32) (M : mm_M) : Sim sysR Y_X12_allowed 1 36 [(0, .ref 0), (1, .int (x1)), (2, .int (x2)), (3, .int (x3))] [.int (t0)] M mm_fI (f_X12_allowed_36 k4 x1 x2 x3 t0 M) := by
  unfold f_X12_allowed_36
  refine sim_istore (L' := [(0, .ref 0), (1, .int (x1)), (2, .int (x2)), (3, .int (x3)), (4, .int (t0))]) d_X12_allowed_36 (Nat.le_of_ble_eq_true rfl) rfl ?_
  refine sim_iconst (0 : Int32) d_X12_allowed_38 rfl ?_
  refine sim_istore (L' := [(0, .ref 0), (1, .int (x1)), (2, .int (x2)), (3, .int (x3)), (4, .int (t0)), (5, .int ((0 : Int32)))]) d_X12_allowed_39 (Nat.le_of_ble_eq_true rfl) rfl ?_
  exact sim_sub [0, 1, 2, 3, 4, 5] rfl (s_X12_allowed_41 (f_X12_allowed_108 k4) (s_X12_allowed_108 k4 hk4) mm_fu x1 x2 x3 t0 (0 : Int32) M)
def f_X12_allowed_4 : Nat → Int32 → Int32 → Int32 → mm_M → Option (Int32 × mm_M)
  | 0, _, _, _, _ => none
  | n + 1, x1, x2, x3, M =>
  if (mI M 0 62) ≤ x3 then
    some (x2, M)
  else
    mm_ck x3 8 (
    mm_ck (((40 : Int32) * x1) + (mI M 44 x3.toNatClampNeg)) 320 (
    if (mI M 13 (((40 : Int32) * x1) + (mI M 44 x3.toNatClampNeg)).toNatClampNeg) = 0 then
      f_X12_allowed_36 (f_X12_allowed_4 n) x1 x2 x3 (1 : Int32) M
    else
      f_X12_allowed_36 (f_X12_allowed_4 n) x1 x2 x3 (0 : Int32) M))
theorem s_X12_allowed_4 (n : Nat) : ∀ (x1 : Int32) (x2 : Int32) (x3 : Int32) (M : mm_M), Sim sysR Y_X12_allowed 1 4 [(0, .ref 0), (1, .int (x1)), (2, .int (x2)), (3, .int (x3))] [] M mm_fI (f_X12_allowed_4 n x1 x2 x3 M) := by
  induction n with
  | zero => intros; exact sim_none
  | succ n ih =>
    intro x1 x2 x3 M
    rw [f_X12_allowed_4]
    refine sim_iload_n 3 d_X12_allowed_4 rfl rfl ?_
    refine sim_aload_n 0 d_X12_allowed_5 rfl rfl ?_
    refine sim_geti d_X12_allowed_6 fl_X12_348 ob_R_0 rfl ?_
    refine sim_icmp_ge d_X12_allowed_9 ?_ ?_
    ·
      refine sim_iload_n 2 d_X12_allowed_129 rfl rfl ?_
      exact sim_iret d_X12_allowed_130 rfl
    ·
      refine sim_aload_n 0 d_X12_allowed_12 rfl rfl ?_
      refine sim_geta d_X12_allowed_13 fl_X12_47 ob_R_0 rfl ?_
      refine sim_bipush (40 : Int32) d_X12_allowed_16 rfl ?_
      refine sim_iload_n 1 d_X12_allowed_18 rfl rfl ?_
      refine sim_imul d_X12_allowed_19 ?_
      refine sim_aload_n 0 d_X12_allowed_20 rfl rfl ?_
      refine sim_geta d_X12_allowed_21 fl_X12_144 ob_R_0 rfl ?_
      refine sim_iload_n 3 d_X12_allowed_24 rfl rfl ?_
      refine sim_iald d_X12_allowed_25 ar_R_44 ?_
      refine sim_iadd d_X12_allowed_26 ?_
      refine sim_zald d_X12_allowed_27 ar_R_13 ?_
      refine sim_if_ne d_X12_allowed_28 ?_ ?_
      ·
        refine sim_iconst (0 : Int32) d_X12_allowed_35 rfl ?_
        exact sim_sub [0, 1, 2, 3] rfl (s_X12_allowed_36 (f_X12_allowed_4 n) ih x1 x2 x3 (0 : Int32) M)
      ·
        refine sim_iconst (1 : Int32) d_X12_allowed_31 rfl ?_
        refine sim_goto d_X12_allowed_32 ?_
        exact sim_sub [0, 1, 2, 3] rfl (s_X12_allowed_36 (f_X12_allowed_4 n) ih x1 x2 x3 (1 : Int32) M)
def f_X12_allowed (a1 : Int32) (M : mm_M) : Option (Int32 × mm_M) :=
  f_X12_allowed_4 mm_fu a1 (0 : Int32) (0 : Int32) M
theorem s_X12_allowed (a1 : Int32) (M : mm_M) : Sim sysR Y_X12_allowed 1 0 [(0, .ref 0), (1, .int (a1))] [] M mm_fI (f_X12_allowed a1 M) := by
  unfold f_X12_allowed
  refine sim_iconst (0 : Int32) d_X12_allowed_0 rfl ?_
  refine sim_istore_n (L' := [(0, .ref 0), (1, .int (a1)), (2, .int ((0 : Int32)))]) d_X12_allowed_1 rfl (Nat.le_of_ble_eq_true rfl) rfl ?_
  refine sim_iconst (0 : Int32) d_X12_allowed_2 rfl ?_
  refine sim_istore_n (L' := [(0, .ref 0), (1, .int (a1)), (2, .int ((0 : Int32))), (3, .int ((0 : Int32)))]) d_X12_allowed_3 rfl (Nat.le_of_ble_eq_true rfl) rfl ?_
  exact sim_sub [0, 1, 2, 3] rfl (s_X12_allowed_4 mm_fu a1 (0 : Int32) (0 : Int32) M)
theorem ct_X12_allowed (a1 : Int32) (M : mm_M) : Ct sysR Y_X12_allowed 1 [.ref 0, .int (a1)] M mm_fI (f_X12_allowed a1 M) :=
  ct_of_sim (by decide) rfl (Nat.le_of_ble_eq_true rfl) (s_X12_allowed a1 M)
def f_X12_findWays_104 (k25 : Int32 → Int32 → Int32 → Int32 → mm_M → Option (mm_M)) (x1 : Int32) (x2 : Int32) (x3 : Int32) (x4 : Int32) (M : mm_M) : Option (mm_M) :=
  k25 x1 x2 x3 (x4 + (1 : Int32)) M
theorem s_X12_findWays_104 (k25 : Int32 → Int32 → Int32 → Int32 → mm_M → Option (mm_M)) (hk25 : ∀ (x1 : Int32) (x2 : Int32) (x3 : Int32) (x4 : Int32) (M : mm_M), Sim sysR Y_X12_findWays 1 25 [(0, .ref 0), (1, .int (x1)), (2, .int (x2)), (3, .int (x3)), (4, .int (x4))] [] M mm_fV (k25 x1 x2 x3 x4 M)) (x1 : Int32) (x2 : Int32) (x3 : Int32) (x4 : Int32) (M : mm_M) : Sim sysR Y_X12_findWays 1 104 [(0, .ref 0), (1, .int (x1)), (2, .int (x2)), (3, .int (x3)), (4, .int (x4))] [] M mm_fV (f_X12_findWays_104 k25 x1 x2 x3 x4 M) := by
  unfold f_X12_findWays_104
  refine sim_iinc (v := x4 + (1 : Int32)) (L' := [(0, .ref 0), (1, .int (x1)), (2, .int (x2)), (3, .int (x3)), (4, .int (x4 + (1 : Int32)))]) 4 d_X12_findWays_104 (Nat.le_of_ble_eq_true rfl) rfl rfl rfl ?_
  refine sim_goto d_X12_findWays_107 ?_
  exact sim_sub [0, 1, 2, 3, 4] rfl (hk25 x1 x2 x3 (x4 + (1 : Int32)) M)
def f_X12_findWays_103 (k25 : Int32 → Int32 → Int32 → Int32 → mm_M → Option (mm_M)) (x1 : Int32) (x2 : Int32) (x4 : Int32) (t0 : Int32) (M : mm_M) : Option (mm_M) :=
  f_X12_findWays_104 k25 x1 x2 t0 x4 M
theorem s_X12_findWays_103 (k25 : Int32 → Int32 → Int32 → Int32 → mm_M → Option (mm_M)) (hk25 : ∀ (x1 : Int32) (x2 : Int32) (x3 : Int32) (x4 : Int32) (M : mm_M), Sim sysR Y_X12_findWays 1 25 [(0, .ref 0), (1, .int (x1)), (2, .int (x2)), (3, .int (x3)), (4, .int (x4))] [] M mm_fV (k25 x1 x2 x3 x4 M)) (x1 : Int32) (x2 : Int32) (x4 : Int32) (t0 : Int32) (M : mm_M) : Sim sysR Y_X12_findWays 1 103 [(0, .ref 0), (1, .int (x1)), (2, .int (x2)), (4, .int (x4))] [.int (t0)] M mm_fV (f_X12_findWays_103 k25 x1 x2 x4 t0 M) := by
  unfold f_X12_findWays_103
  refine sim_istore_n (L' := [(0, .ref 0), (1, .int (x1)), (2, .int (x2)), (4, .int (x4)), (3, .int (t0))]) d_X12_findWays_103 rfl (Nat.le_of_ble_eq_true rfl) rfl ?_
  exact sim_sub [0, 1, 2, 4, 3] rfl (s_X12_findWays_104 k25 hk25 x1 x2 t0 x4 M)
def f_X12_findWays_97 (k25 : Int32 → Int32 → Int32 → Int32 → mm_M → Option (mm_M)) (x1 : Int32) (x2 : Int32) (x4 : Int32) (x5 : Int32) (M : mm_M) : Option (mm_M) :=
  f_X12_findWays_103 k25 x1 x2 x4 x5 M
theorem s_X12_findWays_97 (k25 : Int32 → Int32 → Int32 → Int32 → mm_M → Option (mm_M)) (hk25 : ∀ (x1 : Int32) (x2 : Int32) (x3 : Int32) (x4 : Int32) (M : mm_M), Sim sysR Y_X12_findWays 1 25 [(0, .ref 0), (1, .int (x1)), (2, .int (x2)), (3, .int (x3)), (4, .int (x4))] [] M mm_fV (k25 x1 x2 x3 x4 M)) (x1 : Int32) (x2 : Int32) (x4 : Int32) (x5 : Int32) (M : mm_M) : Sim sysR Y_X12_findWays 1 97 [(0, .ref 0), (1, .int (x1)), (2, .int (x2)), (4, .int (x4)), (5, .int (x5))] [] M mm_fV (f_X12_findWays_97 k25 x1 x2 x4 x5 M) := by
  unfold f_X12_findWays_97
  refine sim_iload 4 d_X12_findWays_97 rfl ?_
  refine sim_goto d_X12_findWays_99 ?_
  exact sim_sub [0, 1, 2, 3] rfl (s_X12_findWays_103 k25 hk25 x1 x2 x4 x5 M)
def f_X12_findWays_58 (k25 : Int32 → Int32 → Int32 → Int32 → mm_M → Option (mm_M)) (x1 : Int32) (x2 : Int32) (x3 : Int32) (x4 : Int32) (M : mm_M) : Option (mm_M) :=
  mm_bi (f_X12_farFrom x2 x4 M) (fun r1 M1 =>
  mm_ck (((9 : Int32) * (x1 &&& (((1 : Int32) <<< (x4 &&& 31)) ^^^ (-1 : Int32)))) + x4) 2304 (
  mm_let (r1 + (mI M1 46 (((9 : Int32) * (x1 &&& (((1 : Int32) <<< (x4 &&& 31)) ^^^ (-1 : Int32)))) + x4).toNatClampNeg)) (fun v1 =>
  if x3 < 0 then
    f_X12_findWays_97 k25 x1 x2 x4 v1 M1
  else
    if x3 ≤ v1 then
      f_X12_findWays_103 k25 x1 x2 x4 x3 M1
    else
      f_X12_findWays_97 k25 x1 x2 x4 v1 M1)))
theorem s_X12_findWays_58 (k25 : Int32 → Int32 → Int32 → Int32 → mm_M → Option (mm_M)) (hk25 : ∀ (x1 : Int32) (x2 : Int32) (x3 : Int32) (x4 : Int32) (M : mm_M), Sim sysR Y_X12_findWays 1 25 [(0, .ref 0), (1, .int (x1)), (2, .int (x2)), (3, .int (x3)), (4, .int (x4))] [] M mm_fV (k25 x1 x2 x3 x4 M)) (x1 : Int32) (x2 : Int32) (x3 : Int32) (x4 : Int32) (M : mm_M) : Sim sysR Y_X12_findWays 1 58 [(0, .ref 0), (1, .int (x1)), (2, .int (x2)), (3, .int (x3)), (4, .int (x4))] [] M mm_fV (f_X12_findWays_58 k25 x1 x2 x3 x4 M) := by
  unfold f_X12_findWays_58
  refine sim_aload_n 0 d_X12_findWays_58 rfl rfl ?_
  refine sim_iload_n 2 d_X12_findWays_59 rfl rfl ?_
  refine sim_iload 4 d_X12_findWays_60 rfl ?_
  refine sim_callVi Y_X12_farFrom 0 [.int (x2), .int (x4)] [] d_X12_findWays_62 lk_X12_351 cv_X12_farFrom ob_R_0 rfl (by omega) (Nat.le_of_ble_eq_true rfl) (ct_X12_farFrom x2 x4 M) (fun r1 M1 => ?_)
  refine sim_aload_n 0 d_X12_findWays_65 rfl rfl ?_
  refine sim_geta d_X12_findWays_66 fl_X12_150 ob_R_0 rfl ?_
  refine sim_bipush (9 : Int32) d_X12_findWays_69 rfl ?_
  refine sim_iload_n 1 d_X12_findWays_71 rfl rfl ?_
  refine sim_iconst (1 : Int32) d_X12_findWays_72 rfl ?_
  refine sim_iload 4 d_X12_findWays_73 rfl ?_
  refine sim_ishl d_X12_findWays_75 ?_
  refine sim_iconst (-1 : Int32) d_X12_findWays_76 rfl ?_
  refine sim_ixor d_X12_findWays_77 ?_
  refine sim_iand d_X12_findWays_78 ?_
  refine sim_imul d_X12_findWays_79 ?_
  refine sim_iload 4 d_X12_findWays_80 rfl ?_
  refine sim_iadd d_X12_findWays_82 ?_
  refine sim_iald d_X12_findWays_83 ar_R_46 ?_
  refine sim_iadd d_X12_findWays_84 ?_
  refine sim_nmi (fun v1 => ?_)
  refine sim_istore (L' := [(0, .ref 0), (1, .int (x1)), (2, .int (x2)), (3, .int (x3)), (4, .int (x4)), (5, .int (v1))]) d_X12_findWays_85 (Nat.le_of_ble_eq_true rfl) rfl ?_
  refine sim_iload_n 3 d_X12_findWays_87 rfl rfl ?_
  refine sim_if_lt d_X12_findWays_88 ?_ ?_
  ·
    exact sim_sub [0, 1, 2, 4, 5] rfl (s_X12_findWays_97 k25 hk25 x1 x2 x4 v1 M1)
  ·
    refine sim_iload 5 d_X12_findWays_91 rfl ?_
    refine sim_iload_n 3 d_X12_findWays_93 rfl rfl ?_
    refine sim_icmp_ge d_X12_findWays_94 ?_ ?_
    ·
      refine sim_iload_n 3 d_X12_findWays_102 rfl rfl ?_
      exact sim_sub [0, 1, 2, 4] rfl (s_X12_findWays_103 k25 hk25 x1 x2 x4 x3 M1)
    ·
      exact sim_sub [0, 1, 2, 4, 5] rfl (s_X12_findWays_97 k25 hk25 x1 x2 x4 v1 M1)
def f_X12_findWays_25 (k110 : Int32 → Int32 → Int32 → mm_M → Option (mm_M)) : Nat → Int32 → Int32 → Int32 → Int32 → mm_M → Option (mm_M)
  | 0, _, _, _, _, _ => none
  | n + 1, x1, x2, x3, x4, M =>
  if (mI M 0 62) ≤ x4 then
    k110 x1 x2 x3 M
  else
    if ((x1 >>> (x4 &&& 31)) &&& (1 : Int32)) = (1 : Int32) then
      if x2 = (8 : Int32) then
        f_X12_findWays_58 (f_X12_findWays_25 k110 n) x1 x2 x3 x4 M
      else
        if (mI M 0 62) ≤ x2 then
          f_X12_findWays_104 (f_X12_findWays_25 k110 n) x1 x2 x3 x4 M
        else
          f_X12_findWays_58 (f_X12_findWays_25 k110 n) x1 x2 x3 x4 M
    else
      f_X12_findWays_104 (f_X12_findWays_25 k110 n) x1 x2 x3 x4 M
theorem s_X12_findWays_25 (k110 : Int32 → Int32 → Int32 → mm_M → Option (mm_M)) (hk110 : ∀ (x1 : Int32) (x2 : Int32) (x3 : Int32) (M : mm_M), Sim sysR Y_X12_findWays 1 110 [(0, .ref 0), (1, .int (x1)), (2, .int (x2)), (3, .int (x3))] [] M mm_fV (k110 x1 x2 x3 M)) (n : Nat) : ∀ (x1 : Int32) (x2 : Int32) (x3 : Int32) (x4 : Int32) (M : mm_M), Sim sysR Y_X12_findWays 1 25 [(0, .ref 0), (1, .int (x1)), (2, .int (x2)), (3, .int (x3)), (4, .int (x4))] [] M mm_fV (f_X12_findWays_25 k110 n x1 x2 x3 x4 M) := by
  induction n with
  | zero => intros; exact sim_none
  | succ n ih =>
    intro x1 x2 x3 x4 M
    rw [f_X12_findWays_25]
    refine sim_iload 4 d_X12_findWays_25 rfl ?_
    refine sim_aload_n 0 d_X12_findWays_27 rfl rfl ?_
    refine sim_geti d_X12_findWays_28 fl_X12_348 ob_R_0 rfl ?_
    refine sim_icmp_ge d_X12_findWays_31 ?_ ?_
    ·
      exact sim_sub [0, 1, 2, 3] rfl (hk110 x1 x2 x3 M)
    ·
      refine sim_iload_n 1 d_X12_findWays_34 rfl rfl ?_
      refine sim_iload 4 d_X12_findWays_35 rfl ?_
      refine sim_ishr d_X12_findWays_37 ?_
      refine sim_iconst (1 : Int32) d_X12_findWays_38 rfl ?_
      refine sim_iand d_X12_findWays_39 ?_
      refine sim_iconst (1 : Int32) d_X12_findWays_40 rfl ?_
      refine sim_icmp_ne d_X12_findWays_41 ?_ ?_
      ·
        exact sim_sub [0, 1, 2, 3, 4] rfl (s_X12_findWays_104 (f_X12_findWays_25 k110 n) ih x1 x2 x3 x4 M)
      ·
        refine sim_iload_n 2 d_X12_findWays_44 rfl rfl ?_
        refine sim_bipush (8 : Int32) d_X12_findWays_45 rfl ?_
        refine sim_icmp_eq d_X12_findWays_47 ?_ ?_
        ·
          exact sim_sub [0, 1, 2, 3, 4] rfl (s_X12_findWays_58 (f_X12_findWays_25 k110 n) ih x1 x2 x3 x4 M)
        ·
          refine sim_iload_n 2 d_X12_findWays_50 rfl rfl ?_
          refine sim_aload_n 0 d_X12_findWays_51 rfl rfl ?_
          refine sim_geti d_X12_findWays_52 fl_X12_348 ob_R_0 rfl ?_
          refine sim_icmp_ge d_X12_findWays_55 ?_ ?_
          ·
            exact sim_sub [0, 1, 2, 3, 4] rfl (s_X12_findWays_104 (f_X12_findWays_25 k110 n) ih x1 x2 x3 x4 M)
          ·
            exact sim_sub [0, 1, 2, 3, 4] rfl (s_X12_findWays_58 (f_X12_findWays_25 k110 n) ih x1 x2 x3 x4 M)
def f_X12_findWays_149 (k14 : Int32 → Int32 → mm_M → Option (mm_M)) (x1 : Int32) (x2 : Int32) (t1 : Int32) (t2 : Int32) (M : mm_M) : Option (mm_M) :=
  mm_ck t1 2304 (
  mm_let (sI M 46 t1.toNatClampNeg t2) (fun M1 =>
  k14 x1 (x2 + (1 : Int32)) M1))
theorem s_X12_findWays_149 (k14 : Int32 → Int32 → mm_M → Option (mm_M)) (hk14 : ∀ (x1 : Int32) (x2 : Int32) (M : mm_M), Sim sysR Y_X12_findWays 1 14 [(0, .ref 0), (1, .int (x1)), (2, .int (x2))] [] M mm_fV (k14 x1 x2 M)) (x1 : Int32) (x2 : Int32) (t1 : Int32) (t2 : Int32) (M : mm_M) : Sim sysR Y_X12_findWays 1 149 [(0, .ref 0), (1, .int (x1)), (2, .int (x2))] [.int (t2), .int (t1), .ref 46] M mm_fV (f_X12_findWays_149 k14 x1 x2 t1 t2 M) := by
  unfold f_X12_findWays_149
  refine sim_iast d_X12_findWays_149 ar_R_46 ?_
  refine sim_nmM (fun M1 => ?_)
  refine sim_iinc (v := x2 + (1 : Int32)) (L' := [(0, .ref 0), (1, .int (x1)), (2, .int (x2 + (1 : Int32)))]) 2 d_X12_findWays_150 (Nat.le_of_ble_eq_true rfl) rfl rfl rfl ?_
  refine sim_goto d_X12_findWays_153 ?_
  exact sim_sub [0, 1, 2] rfl (hk14 x1 (x2 + (1 : Int32)) M1)
def f_X12_findWays_148 (k14 : Int32 → Int32 → mm_M → Option (mm_M)) (x1 : Int32) (x2 : Int32) (x3 : Int32) (t1 : Int32) (M : mm_M) : Option (mm_M) :=
  f_X12_findWays_149 k14 x1 x2 t1 x3 M
theorem s_X12_findWays_148 (k14 : Int32 → Int32 → mm_M → Option (mm_M)) (hk14 : ∀ (x1 : Int32) (x2 : Int32) (M : mm_M), Sim sysR Y_X12_findWays 1 14 [(0, .ref 0), (1, .int (x1)), (2, .int (x2))] [] M mm_fV (k14 x1 x2 M)) (x1 : Int32) (x2 : Int32) (x3 : Int32) (t1 : Int32) (M : mm_M) : Sim sysR Y_X12_findWays 1 148 [(0, .ref 0), (1, .int (x1)), (2, .int (x2)), (3, .int (x3))] [.int (t1), .ref 46] M mm_fV (f_X12_findWays_148 k14 x1 x2 x3 t1 M) := by
  unfold f_X12_findWays_148
  refine sim_iload_n 3 d_X12_findWays_148 rfl rfl ?_
  exact sim_sub [0, 1, 2] rfl (s_X12_findWays_149 k14 hk14 x1 x2 t1 x3 M)
def f_X12_findWays_138 (k14 : Int32 → Int32 → mm_M → Option (mm_M)) (x1 : Int32) (x2 : Int32) (t1 : Int32) (M : mm_M) : Option (mm_M) :=
  mm_bi (f_X12_farFrom x2 (8 : Int32) M) (fun r1 M1 =>
  f_X12_findWays_149 k14 x1 x2 t1 r1 M1)
theorem s_X12_findWays_138 (k14 : Int32 → Int32 → mm_M → Option (mm_M)) (hk14 : ∀ (x1 : Int32) (x2 : Int32) (M : mm_M), Sim sysR Y_X12_findWays 1 14 [(0, .ref 0), (1, .int (x1)), (2, .int (x2))] [] M mm_fV (k14 x1 x2 M)) (x1 : Int32) (x2 : Int32) (t1 : Int32) (M : mm_M) : Sim sysR Y_X12_findWays 1 138 [(0, .ref 0), (1, .int (x1)), (2, .int (x2))] [.int (t1), .ref 46] M mm_fV (f_X12_findWays_138 k14 x1 x2 t1 M) := by
  unfold f_X12_findWays_138
  refine sim_aload_n 0 d_X12_findWays_138 rfl rfl ?_
  refine sim_iload_n 2 d_X12_findWays_139 rfl rfl ?_
  refine sim_bipush (8 : Int32) d_X12_findWays_140 rfl ?_
  refine sim_callVi Y_X12_farFrom 0 [.int (x2), .int ((8 : Int32))] [.int (t1), .ref 46] d_X12_findWays_142 lk_X12_351 cv_X12_farFrom ob_R_0 rfl (by omega) (Nat.le_of_ble_eq_true rfl) (ct_X12_farFrom x2 (8 : Int32) M) (fun r1 M1 => ?_)
  refine sim_goto d_X12_findWays_145 ?_
  exact sim_sub [0, 1, 2] rfl (s_X12_findWays_149 k14 hk14 x1 x2 t1 r1 M1)
def f_X12_findWays_110 (k14 : Int32 → Int32 → mm_M → Option (mm_M)) (x1 : Int32) (x2 : Int32) (x3 : Int32) (M : mm_M) : Option (mm_M) :=
  if x1 = 0 then
    if x2 = (8 : Int32) then
      f_X12_findWays_138 k14 x1 x2 (((9 : Int32) * x1) + x2) M
    else
      if (mI M 0 62) ≤ x2 then
        f_X12_findWays_148 k14 x1 x2 x3 (((9 : Int32) * x1) + x2) M
      else
        f_X12_findWays_138 k14 x1 x2 (((9 : Int32) * x1) + x2) M
  else
    f_X12_findWays_148 k14 x1 x2 x3 (((9 : Int32) * x1) + x2) M
theorem s_X12_findWays_110 (k14 : Int32 → Int32 → mm_M → Option (mm_M)) (hk14 : ∀ (x1 : Int32) (x2 : Int32) (M : mm_M), Sim sysR Y_X12_findWays 1 14 [(0, .ref 0), (1, .int (x1)), (2, .int (x2))] [] M mm_fV (k14 x1 x2 M)) (x1 : Int32) (x2 : Int32) (x3 : Int32) (M : mm_M) : Sim sysR Y_X12_findWays 1 110 [(0, .ref 0), (1, .int (x1)), (2, .int (x2)), (3, .int (x3))] [] M mm_fV (f_X12_findWays_110 k14 x1 x2 x3 M) := by
  unfold f_X12_findWays_110
  refine sim_aload_n 0 d_X12_findWays_110 rfl rfl ?_
  refine sim_geta d_X12_findWays_111 fl_X12_150 ob_R_0 rfl ?_
  refine sim_bipush (9 : Int32) d_X12_findWays_114 rfl ?_
  refine sim_iload_n 1 d_X12_findWays_116 rfl rfl ?_
  refine sim_imul d_X12_findWays_117 ?_
  refine sim_iload_n 2 d_X12_findWays_118 rfl rfl ?_
  refine sim_iadd d_X12_findWays_119 ?_
  refine sim_iload_n 1 d_X12_findWays_120 rfl rfl ?_
  refine sim_if_ne d_X12_findWays_121 ?_ ?_
  ·
    exact sim_sub [0, 1, 2, 3] rfl (s_X12_findWays_148 k14 hk14 x1 x2 x3 (((9 : Int32) * x1) + x2) M)
  ·
    refine sim_iload_n 2 d_X12_findWays_124 rfl rfl ?_
    refine sim_bipush (8 : Int32) d_X12_findWays_125 rfl ?_
    refine sim_icmp_eq d_X12_findWays_127 ?_ ?_
    ·
      exact sim_sub [0, 1, 2] rfl (s_X12_findWays_138 k14 hk14 x1 x2 (((9 : Int32) * x1) + x2) M)
    ·
      refine sim_iload_n 2 d_X12_findWays_130 rfl rfl ?_
      refine sim_aload_n 0 d_X12_findWays_131 rfl rfl ?_
      refine sim_geti d_X12_findWays_132 fl_X12_348 ob_R_0 rfl ?_
      refine sim_icmp_ge d_X12_findWays_135 ?_ ?_
      ·
        exact sim_sub [0, 1, 2, 3] rfl (s_X12_findWays_148 k14 hk14 x1 x2 x3 (((9 : Int32) * x1) + x2) M)
      ·
        exact sim_sub [0, 1, 2] rfl (s_X12_findWays_138 k14 hk14 x1 x2 (((9 : Int32) * x1) + x2) M)
def f_X12_findWays_14 (k156 : Int32 → mm_M → Option (mm_M)) : Nat → Int32 → Int32 → mm_M → Option (mm_M)
  | 0, _, _, _ => none
  | n + 1, x1, x2, M =>
  if (9 : Int32) ≤ x2 then
    k156 x1 M
  else
    f_X12_findWays_25 (f_X12_findWays_110 (f_X12_findWays_14 k156 n)) mm_fu x1 x2 (-1 : Int32) (0 : Int32) M
theorem s_X12_findWays_14 (k156 : Int32 → mm_M → Option (mm_M)) (hk156 : ∀ (x1 : Int32) (M : mm_M), Sim sysR Y_X12_findWays 1 156 [(0, .ref 0), (1, .int (x1))] [] M mm_fV (k156 x1 M)) (n : Nat) : ∀ (x1 : Int32) (x2 : Int32) (M : mm_M), Sim sysR Y_X12_findWays 1 14 [(0, .ref 0), (1, .int (x1)), (2, .int (x2))] [] M mm_fV (f_X12_findWays_14 k156 n x1 x2 M) := by
  induction n with
  | zero => intros; exact sim_none
  | succ n ih =>
    intro x1 x2 M
    rw [f_X12_findWays_14]
    refine sim_iload_n 2 d_X12_findWays_14 rfl rfl ?_
    refine sim_bipush (9 : Int32) d_X12_findWays_15 rfl ?_
    refine sim_icmp_ge d_X12_findWays_17 ?_ ?_
    ·
      exact sim_sub [0, 1] rfl (hk156 x1 M)
    ·
      refine sim_iconst (-1 : Int32) d_X12_findWays_20 rfl ?_
      refine sim_istore_n (L' := [(0, .ref 0), (1, .int (x1)), (2, .int (x2)), (3, .int ((-1 : Int32)))]) d_X12_findWays_21 rfl (Nat.le_of_ble_eq_true rfl) rfl ?_
      refine sim_iconst (0 : Int32) d_X12_findWays_22 rfl ?_
      refine sim_istore (L' := [(0, .ref 0), (1, .int (x1)), (2, .int (x2)), (3, .int ((-1 : Int32))), (4, .int ((0 : Int32)))]) d_X12_findWays_23 (Nat.le_of_ble_eq_true rfl) rfl ?_
      exact sim_sub [0, 1, 2, 3, 4] rfl (s_X12_findWays_25 (f_X12_findWays_110 (f_X12_findWays_14 k156 n)) (s_X12_findWays_110 (f_X12_findWays_14 k156 n) ih) mm_fu x1 x2 (-1 : Int32) (0 : Int32) M)
def f_X12_findWays_156 (k2 : Int32 → mm_M → Option (mm_M)) (x1 : Int32) (M : mm_M) : Option (mm_M) :=
  k2 (x1 + (1 : Int32)) M
theorem s_X12_findWays_156 (k2 : Int32 → mm_M → Option (mm_M)) (hk2 : ∀ (x1 : Int32) (M : mm_M), Sim sysR Y_X12_findWays 1 2 [(0, .ref 0), (1, .int (x1))] [] M mm_fV (k2 x1 M)) (x1 : Int32) (M : mm_M) : Sim sysR Y_X12_findWays 1 156 [(0, .ref 0), (1, .int (x1))] [] M mm_fV (f_X12_findWays_156 k2 x1 M) := by
  unfold f_X12_findWays_156
  refine sim_iinc (v := x1 + (1 : Int32)) (L' := [(0, .ref 0), (1, .int (x1 + (1 : Int32)))]) 1 d_X12_findWays_156 (Nat.le_of_ble_eq_true rfl) rfl rfl rfl ?_
  refine sim_goto d_X12_findWays_159 ?_
  exact sim_sub [0, 1] rfl (hk2 (x1 + (1 : Int32)) M)
def f_X12_findWays_2 : Nat → Int32 → mm_M → Option (mm_M)
  | 0, _, _ => none
  | n + 1, x1, M =>
  if ((1 : Int32) <<< ((mI M 0 62) &&& 31)) ≤ x1 then
    some M
  else
    f_X12_findWays_14 (f_X12_findWays_156 (f_X12_findWays_2 n)) mm_fu x1 (0 : Int32) M
theorem s_X12_findWays_2 (n : Nat) : ∀ (x1 : Int32) (M : mm_M), Sim sysR Y_X12_findWays 1 2 [(0, .ref 0), (1, .int (x1))] [] M mm_fV (f_X12_findWays_2 n x1 M) := by
  induction n with
  | zero => intros; exact sim_none
  | succ n ih =>
    intro x1 M
    rw [f_X12_findWays_2]
    refine sim_iload_n 1 d_X12_findWays_2 rfl rfl ?_
    refine sim_iconst (1 : Int32) d_X12_findWays_3 rfl ?_
    refine sim_aload_n 0 d_X12_findWays_4 rfl rfl ?_
    refine sim_geti d_X12_findWays_5 fl_X12_348 ob_R_0 rfl ?_
    refine sim_ishl d_X12_findWays_8 ?_
    refine sim_icmp_ge d_X12_findWays_9 ?_ ?_
    ·
      exact sim_vret d_X12_findWays_162 rfl
    ·
      refine sim_iconst (0 : Int32) d_X12_findWays_12 rfl ?_
      refine sim_istore_n (L' := [(0, .ref 0), (1, .int (x1)), (2, .int ((0 : Int32)))]) d_X12_findWays_13 rfl (Nat.le_of_ble_eq_true rfl) rfl ?_
      exact sim_sub [0, 1, 2] rfl (s_X12_findWays_14 (f_X12_findWays_156 (f_X12_findWays_2 n)) (s_X12_findWays_156 (f_X12_findWays_2 n) ih) mm_fu x1 (0 : Int32) M)
def f_X12_findWays (M : mm_M) : Option (mm_M) :=
  f_X12_findWays_2 mm_fu (0 : Int32) M
theorem s_X12_findWays (M : mm_M) : Sim sysR Y_X12_findWays 1 0 [(0, .ref 0)] [] M mm_fV (f_X12_findWays M) := by
  unfold f_X12_findWays
  refine sim_iconst (0 : Int32) d_X12_findWays_0 rfl ?_
  refine sim_istore_n (L' := [(0, .ref 0), (1, .int ((0 : Int32)))]) d_X12_findWays_1 rfl (Nat.le_of_ble_eq_true rfl) rfl ?_
  exact sim_sub [0, 1] rfl (s_X12_findWays_2 mm_fu (0 : Int32) M)
theorem ct_X12_findWays (M : mm_M) : Ct sysR Y_X12_findWays 1 [.ref 0] M mm_fV (f_X12_findWays M) :=
  ct_of_sim (by decide) rfl (Nat.le_of_ble_eq_true rfl) (s_X12_findWays M)
def f_X12_ones_4 : Nat → Int32 → Int32 → mm_M → Option (Int32 × mm_M)
  | 0, _, _, _ => none
  | n + 1, x1, x2, M =>
  if x2 ≤ 0 then
    some (x1, M)
  else
    mm_let (x1 + (x2 - x2 / (2 : Int32) * (2 : Int32))) (fun v1 =>
    mm_let (x2 / (2 : Int32)) (fun v2 =>
    f_X12_ones_4 n v1 v2 M))
theorem s_X12_ones_4 (n : Nat) : ∀ (x1 : Int32) (x2 : Int32) (M : mm_M), Sim sysR Y_X12_ones 0 4 [(1, .int (x1)), (2, .int (x2))] [] M mm_fI (f_X12_ones_4 n x1 x2 M) := by
  induction n with
  | zero => intros; exact sim_none
  | succ n ih =>
    intro x1 x2 M
    rw [f_X12_ones_4]
    refine sim_iload_n 1 d_X12_ones_4 rfl rfl ?_
    refine sim_if_le d_X12_ones_5 ?_ ?_
    ·
      refine sim_iload_n 0 d_X12_ones_21 rfl rfl ?_
      exact sim_iret d_X12_ones_22 rfl
    ·
      refine sim_iload_n 0 d_X12_ones_8 rfl rfl ?_
      refine sim_iload_n 1 d_X12_ones_9 rfl rfl ?_
      refine sim_iconst (2 : Int32) d_X12_ones_10 rfl ?_
      refine sim_iremc d_X12_ones_11 (by decide) ?_
      refine sim_iadd d_X12_ones_12 ?_
      refine sim_nmi (fun v1 => ?_)
      refine sim_istore_n (L' := [(2, .int (x2)), (1, .int (v1))]) d_X12_ones_13 rfl (Nat.le_of_ble_eq_true rfl) rfl ?_
      refine sim_iload_n 0 d_X12_ones_14 rfl rfl ?_
      refine sim_iconst (2 : Int32) d_X12_ones_15 rfl ?_
      refine sim_idivc d_X12_ones_16 (by decide) ?_
      refine sim_nmi (fun v2 => ?_)
      refine sim_istore_n (L' := [(1, .int (v1)), (2, .int (v2))]) d_X12_ones_17 rfl (Nat.le_of_ble_eq_true rfl) rfl ?_
      refine sim_goto d_X12_ones_18 ?_
      exact sim_sub [0, 1] rfl (ih v1 v2 M)
def f_X12_ones (a1 : Int32) (M : mm_M) : Option (Int32 × mm_M) :=
  f_X12_ones_4 mm_fu (0 : Int32) a1 M
theorem s_X12_ones (a1 : Int32) (M : mm_M) : Sim sysR Y_X12_ones 0 0 [(0, .int (a1))] [] M mm_fI (f_X12_ones a1 M) := by
  unfold f_X12_ones
  refine sim_iconst (0 : Int32) d_X12_ones_0 rfl ?_
  refine sim_istore_n (L' := [(0, .int (a1)), (1, .int ((0 : Int32)))]) d_X12_ones_1 rfl (Nat.le_of_ble_eq_true rfl) rfl ?_
  refine sim_iload_n 0 d_X12_ones_2 rfl rfl ?_
  refine sim_istore_n (L' := [(0, .int (a1)), (1, .int ((0 : Int32))), (2, .int (a1))]) d_X12_ones_3 rfl (Nat.le_of_ble_eq_true rfl) rfl ?_
  exact sim_sub [1, 2] rfl (s_X12_ones_4 mm_fu (0 : Int32) a1 M)
theorem ct_X12_ones (a1 : Int32) (M : mm_M) : Ct sysR Y_X12_ones 0 [.int (a1)] M mm_fI (f_X12_ones a1 M) :=
  ct_of_sim (by decide) rfl (Nat.le_of_ble_eq_true rfl) (s_X12_ones a1 M)
def f_X12_timeOf (a1 : Int32) (M : mm_M) : Option (Int32 × mm_M) :=
  if a1 = 0 then
    some ((0 : Int32), M)
  else
    mm_ck (((9 : Int32) * a1) + (8 : Int32)) 2304 (
    mm_bi (f_X12_ones a1 M) (fun r1 M1 =>
    some ((mI M 46 (((9 : Int32) * a1) + (8 : Int32)).toNatClampNeg) + ((10 : Int32) * r1), M1)))
theorem s_X12_timeOf (a1 : Int32) (M : mm_M) : Sim sysR Y_X12_timeOf 1 0 [(0, .ref 0), (1, .int (a1))] [] M mm_fI (f_X12_timeOf a1 M) := by
  unfold f_X12_timeOf
  refine sim_iload_n 1 d_X12_timeOf_0 rfl rfl ?_
  refine sim_if_ne d_X12_timeOf_1 ?_ ?_
  ·
    refine sim_aload_n 0 d_X12_timeOf_8 rfl rfl ?_
    refine sim_geta d_X12_timeOf_9 fl_X12_150 ob_R_0 rfl ?_
    refine sim_bipush (9 : Int32) d_X12_timeOf_12 rfl ?_
    refine sim_iload_n 1 d_X12_timeOf_14 rfl rfl ?_
    refine sim_imul d_X12_timeOf_15 ?_
    refine sim_bipush (8 : Int32) d_X12_timeOf_16 rfl ?_
    refine sim_iadd d_X12_timeOf_18 ?_
    refine sim_iald d_X12_timeOf_19 ar_R_46 ?_
    refine sim_bipush (10 : Int32) d_X12_timeOf_20 rfl ?_
    refine sim_iload_n 1 d_X12_timeOf_22 rfl rfl ?_
    refine sim_callSi Y_X12_ones 0 [.int (a1)] [.int ((10 : Int32)), .int (mI M 46 (((9 : Int32) * a1) + (8 : Int32)).toNatClampNeg)] d_X12_timeOf_23 lk_X12_354 cs_X12_ones rfl (by omega) (Nat.le_of_ble_eq_true rfl) (ct_X12_ones a1 M) (fun r1 M1 => ?_)
    refine sim_imul d_X12_timeOf_26 ?_
    refine sim_iadd d_X12_timeOf_27 ?_
    exact sim_iret d_X12_timeOf_28 rfl
  ·
    refine sim_iconst (0 : Int32) d_X12_timeOf_4 rfl ?_
    refine sim_goto d_X12_timeOf_5 ?_
    exact sim_iret d_X12_timeOf_28 rfl
theorem ct_X12_timeOf (a1 : Int32) (M : mm_M) : Ct sysR Y_X12_timeOf 1 [.ref 0, .int (a1)] M mm_fI (f_X12_timeOf a1 M) :=
  ct_of_sim (by decide) rfl (Nat.le_of_ble_eq_true rfl) (s_X12_timeOf a1 M)
def f_X12_findWork_62 (k7 : Int32 → Int32 → Int32 → mm_M → Option (mm_M)) (x1 : Int32) (x2 : Int32) (x3 : Int32) (M : mm_M) : Option (mm_M) :=
  k7 x1 x2 (x3 + (1 : Int32)) M
theorem s_X12_findWork_62 (k7 : Int32 → Int32 → Int32 → mm_M → Option (mm_M)) (hk7 : ∀ (x1 : Int32) (x2 : Int32) (x3 : Int32) (M : mm_M), Sim sysR Y_X12_findWork 2 7 [(0, .ref 0), (1, .int (x1)), (2, .int (x2)), (3, .int (x3))] [] M mm_fV (k7 x1 x2 x3 M)) (x1 : Int32) (x2 : Int32) (x3 : Int32) (M : mm_M) : Sim sysR Y_X12_findWork 2 62 [(0, .ref 0), (1, .int (x1)), (2, .int (x2)), (3, .int (x3))] [] M mm_fV (f_X12_findWork_62 k7 x1 x2 x3 M) := by
  unfold f_X12_findWork_62
  refine sim_iinc (v := x3 + (1 : Int32)) (L' := [(0, .ref 0), (1, .int (x1)), (2, .int (x2)), (3, .int (x3 + (1 : Int32)))]) 3 d_X12_findWork_62 (Nat.le_of_ble_eq_true rfl) rfl rfl rfl ?_
  refine sim_goto d_X12_findWork_65 ?_
  exact sim_sub [0, 1, 2, 3] rfl (hk7 x1 x2 (x3 + (1 : Int32)) M)
def f_X12_findWork_7 (k68 : Int32 → Int32 → mm_M → Option (mm_M)) : Nat → Int32 → Int32 → Int32 → mm_M → Option (mm_M)
  | 0, _, _, _, _ => none
  | n + 1, x1, x2, x3, M =>
  if (mI M 0 2) ≤ x3 then
    k68 x1 x2 M
  else
    if (8 : Int32) ≤ (mI M 0 62) then
      k68 x1 x2 M
    else
      mm_ck x3 40 (
      if (mI M 15 x3.toNatClampNeg) = 0 then
        f_X12_findWork_62 (f_X12_findWork_7 k68 n) x1 x2 x3 M
      else
        mm_ck x3 40 (
        if (mI M 6 x3.toNatClampNeg) = 0 then
          f_X12_findWork_62 (f_X12_findWork_7 k68 n) x1 x2 x3 M
        else
          mm_ck (mI M 0 62) 8 (
          mm_let (sI M 44 (mI M 0 62).toNatClampNeg x3) (fun M1 =>
          mm_let (sI M1 0 62 ((mI M1 0 62) + (1 : Int32))) (fun M2 =>
          f_X12_findWork_62 (f_X12_findWork_7 k68 n) x1 x2 x3 M2)))))
theorem s_X12_findWork_7 (k68 : Int32 → Int32 → mm_M → Option (mm_M)) (hk68 : ∀ (x1 : Int32) (x2 : Int32) (M : mm_M), Sim sysR Y_X12_findWork 2 68 [(0, .ref 0), (1, .int (x1)), (2, .int (x2))] [] M mm_fV (k68 x1 x2 M)) (n : Nat) : ∀ (x1 : Int32) (x2 : Int32) (x3 : Int32) (M : mm_M), Sim sysR Y_X12_findWork 2 7 [(0, .ref 0), (1, .int (x1)), (2, .int (x2)), (3, .int (x3))] [] M mm_fV (f_X12_findWork_7 k68 n x1 x2 x3 M) := by
  induction n with
  | zero => intros; exact sim_none
  | succ n ih =>
    intro x1 x2 x3 M
    rw [f_X12_findWork_7]
    refine sim_iload_n 3 d_X12_findWork_7 rfl rfl ?_
    refine sim_aload_n 0 d_X12_findWork_8 rfl rfl ?_
    refine sim_geti d_X12_findWork_9 fl_X12_180 ob_R_0 rfl ?_
    refine sim_icmp_ge d_X12_findWork_12 ?_ ?_
    ·
      exact sim_sub [0, 1, 2] rfl (hk68 x1 x2 M)
    ·
      refine sim_aload_n 0 d_X12_findWork_15 rfl rfl ?_
      refine sim_geti d_X12_findWork_16 fl_X12_348 ob_R_0 rfl ?_
      refine sim_bipush (8 : Int32) d_X12_findWork_19 rfl ?_
      refine sim_icmp_ge d_X12_findWork_21 ?_ ?_
      ·
        exact sim_sub [0, 1, 2] rfl (hk68 x1 x2 M)
      ·
        refine sim_aload_n 0 d_X12_findWork_24 rfl rfl ?_
        refine sim_geta d_X12_findWork_25 fl_X12_53 ob_R_0 rfl ?_
        refine sim_iload_n 3 d_X12_findWork_28 rfl rfl ?_
        refine sim_zald d_X12_findWork_29 ar_R_15 ?_
        refine sim_if_eq d_X12_findWork_30 ?_ ?_
        ·
          exact sim_sub [0, 1, 2, 3] rfl (s_X12_findWork_62 (f_X12_findWork_7 k68 n) ih x1 x2 x3 M)
        ·
          refine sim_aload_n 0 d_X12_findWork_33 rfl rfl ?_
          refine sim_geta d_X12_findWork_34 fl_X12_25 ob_R_0 rfl ?_
          refine sim_iload_n 3 d_X12_findWork_37 rfl rfl ?_
          refine sim_zald d_X12_findWork_38 ar_R_6 ?_
          refine sim_if_eq d_X12_findWork_39 ?_ ?_
          ·
            exact sim_sub [0, 1, 2, 3] rfl (s_X12_findWork_62 (f_X12_findWork_7 k68 n) ih x1 x2 x3 M)
          ·
            refine sim_aload_n 0 d_X12_findWork_42 rfl rfl ?_
            refine sim_geta d_X12_findWork_43 fl_X12_144 ob_R_0 rfl ?_
            refine sim_aload_n 0 d_X12_findWork_46 rfl rfl ?_
            refine sim_geti d_X12_findWork_47 fl_X12_348 ob_R_0 rfl ?_
            refine sim_iload_n 3 d_X12_findWork_50 rfl rfl ?_
            refine sim_iast d_X12_findWork_51 ar_R_44 ?_
            refine sim_nmM (fun M1 => ?_)
            refine sim_aload_n 0 d_X12_findWork_52 rfl rfl ?_
            refine sim_dup d_X12_findWork_53 rfl ?_
            refine sim_geti d_X12_findWork_54 fl_X12_348 ob_R_0 rfl ?_
            refine sim_iconst (1 : Int32) d_X12_findWork_57 rfl ?_
            refine sim_iadd d_X12_findWork_58 ?_
            refine sim_puti d_X12_findWork_59 fl_X12_348 ob_R_0 rfl ?_
            refine sim_nmM (fun M2 => ?_)
            exact sim_sub [0, 1, 2, 3] rfl (s_X12_findWork_62 (f_X12_findWork_7 k68 n) ih x1 x2 x3 M2)
def f_X12_findWork_117 (k153 : Int32 → Int32 → mm_M → Option (mm_M)) : Nat → Int32 → Int32 → Int32 → mm_M → Option (mm_M)
  | 0, _, _, _, _ => none
  | n + 1, x3, x4, x5, M =>
  if (mI M 0 62) ≤ x5 then
    k153 x3 x4 M
  else
    mm_let (x4 ||| (((x3 >>> ((((mI M 0 62) - (1 : Int32)) - x5) &&& 31)) &&& (1 : Int32)) <<< (x5 &&& 31))) (fun v1 =>
    f_X12_findWork_117 k153 n x3 v1 (x5 + (1 : Int32)) M)
theorem s_X12_findWork_117 (k153 : Int32 → Int32 → mm_M → Option (mm_M)) (hk153 : ∀ (x3 : Int32) (x4 : Int32) (M : mm_M), Sim sysR Y_X12_findWork 2 153 [(0, .ref 0), (3, .int (x3)), (4, .int (x4))] [] M mm_fV (k153 x3 x4 M)) (n : Nat) : ∀ (x3 : Int32) (x4 : Int32) (x5 : Int32) (M : mm_M), Sim sysR Y_X12_findWork 2 117 [(0, .ref 0), (3, .int (x3)), (4, .int (x4)), (5, .int (x5))] [] M mm_fV (f_X12_findWork_117 k153 n x3 x4 x5 M) := by
  induction n with
  | zero => intros; exact sim_none
  | succ n ih =>
    intro x3 x4 x5 M
    rw [f_X12_findWork_117]
    refine sim_iload 3 d_X12_findWork_117 rfl ?_
    refine sim_aload_n 0 d_X12_findWork_119 rfl rfl ?_
    refine sim_geti d_X12_findWork_120 fl_X12_348 ob_R_0 rfl ?_
    refine sim_icmp_ge d_X12_findWork_123 ?_ ?_
    ·
      exact sim_sub [0, 1, 2] rfl (hk153 x3 x4 M)
    ·
      refine sim_iload 2 d_X12_findWork_126 rfl ?_
      refine sim_iload_n 1 d_X12_findWork_128 rfl rfl ?_
      refine sim_aload_n 0 d_X12_findWork_129 rfl rfl ?_
      refine sim_geti d_X12_findWork_130 fl_X12_348 ob_R_0 rfl ?_
      refine sim_iconst (1 : Int32) d_X12_findWork_133 rfl ?_
      refine sim_isub d_X12_findWork_134 ?_
      refine sim_iload 3 d_X12_findWork_135 rfl ?_
      refine sim_isub d_X12_findWork_137 ?_
      refine sim_ishr d_X12_findWork_138 ?_
      refine sim_iconst (1 : Int32) d_X12_findWork_139 rfl ?_
      refine sim_iand d_X12_findWork_140 ?_
      refine sim_iload 3 d_X12_findWork_141 rfl ?_
      refine sim_ishl d_X12_findWork_143 ?_
      refine sim_ior d_X12_findWork_144 ?_
      refine sim_nmi (fun v1 => ?_)
      refine sim_istore (L' := [(0, .ref 0), (3, .int (x3)), (5, .int (x5)), (4, .int (v1))]) d_X12_findWork_145 (Nat.le_of_ble_eq_true rfl) rfl ?_
      refine sim_iinc (v := x5 + (1 : Int32)) (L' := [(0, .ref 0), (3, .int (x3)), (4, .int (v1)), (5, .int (x5 + (1 : Int32)))]) 2 d_X12_findWork_147 (Nat.le_of_ble_eq_true rfl) rfl rfl rfl ?_
      refine sim_goto d_X12_findWork_150 ?_
      exact sim_sub [0, 1, 2, 3] rfl (ih x3 v1 (x5 + (1 : Int32)) M)
def f_X12_findWork_313 (k101 : Int32 → mm_M → Option (mm_M)) (x3 : Int32) (M : mm_M) : Option (mm_M) :=
  k101 (x3 + (1 : Int32)) M
theorem s_X12_findWork_313 (k101 : Int32 → mm_M → Option (mm_M)) (hk101 : ∀ (x3 : Int32) (M : mm_M), Sim sysR Y_X12_findWork 2 101 [(0, .ref 0), (3, .int (x3))] [] M mm_fV (k101 x3 M)) (x3 : Int32) (M : mm_M) : Sim sysR Y_X12_findWork 2 313 [(0, .ref 0), (3, .int (x3))] [] M mm_fV (f_X12_findWork_313 k101 x3 M) := by
  unfold f_X12_findWork_313
  refine sim_iinc (v := x3 + (1 : Int32)) (L' := [(0, .ref 0), (3, .int (x3 + (1 : Int32)))]) 1 d_X12_findWork_313 (Nat.le_of_ble_eq_true rfl) rfl rfl rfl ?_
  refine sim_goto d_X12_findWork_316 ?_
  exact sim_sub [0, 1] rfl (hk101 (x3 + (1 : Int32)) M)
def f_X12_findWork_289 (k101 : Int32 → mm_M → Option (mm_M)) (x3 : Int32) (x4 : Int32) (x6 : Int32) (x7 : Int32) (x8 : Int32) (M : mm_M) : Option (mm_M) :=
  mm_let (sI M 0 65 x4) (fun M1 =>
  mm_let (sI M1 0 66 x8) (fun M2 =>
  mm_let (sI M2 0 67 ((x6 + x7) - x8)) (fun M3 =>
  f_X12_findWork_313 k101 x3 M3)))
theorem s_X12_findWork_289 (k101 : Int32 → mm_M → Option (mm_M)) (hk101 : ∀ (x3 : Int32) (M : mm_M), Sim sysR Y_X12_findWork 2 101 [(0, .ref 0), (3, .int (x3))] [] M mm_fV (k101 x3 M)) (x3 : Int32) (x4 : Int32) (x6 : Int32) (x7 : Int32) (x8 : Int32) (M : mm_M) : Sim sysR Y_X12_findWork 2 289 [(0, .ref 0), (3, .int (x3)), (4, .int (x4)), (6, .int (x6)), (7, .int (x7)), (8, .int (x8))] [] M mm_fV (f_X12_findWork_289 k101 x3 x4 x6 x7 x8 M) := by
  unfold f_X12_findWork_289
  refine sim_aload_n 0 d_X12_findWork_289 rfl rfl ?_
  refine sim_iload 2 d_X12_findWork_290 rfl ?_
  refine sim_puti d_X12_findWork_292 fl_X12_363 ob_R_0 rfl ?_
  refine sim_nmM (fun M1 => ?_)
  refine sim_aload_n 0 d_X12_findWork_295 rfl rfl ?_
  refine sim_iload 5 d_X12_findWork_296 rfl ?_
  refine sim_puti d_X12_findWork_298 fl_X12_369 ob_R_0 rfl ?_
  refine sim_nmM (fun M2 => ?_)
  refine sim_aload_n 0 d_X12_findWork_301 rfl rfl ?_
  refine sim_iload 3 d_X12_findWork_302 rfl ?_
  refine sim_iload 4 d_X12_findWork_304 rfl ?_
  refine sim_iadd d_X12_findWork_306 ?_
  refine sim_iload 5 d_X12_findWork_307 rfl ?_
  refine sim_isub d_X12_findWork_309 ?_
  refine sim_puti d_X12_findWork_310 fl_X12_372 ob_R_0 rfl ?_
  refine sim_nmM (fun M3 => ?_)
  exact sim_sub [0, 1] rfl (s_X12_findWork_313 k101 hk101 x3 M3)
def f_X12_findWork_242 (k101 : Int32 → mm_M → Option (mm_M)) (x3 : Int32) (x4 : Int32) (x6 : Int32) (x7 : Int32) (x8 : Int32) (t0 : Int32) (M : mm_M) : Option (mm_M) :=
  if t0 = 0 then
    f_X12_findWork_313 k101 x3 M
  else
    if (mI M 0 65) < 0 then
      f_X12_findWork_289 k101 x3 x4 x6 x7 x8 M
    else
      if x8 < (mI M 0 66) then
        f_X12_findWork_289 k101 x3 x4 x6 x7 x8 M
      else
        if x8 = (mI M 0 66) then
          if (mI M 0 67) ≤ ((x6 + x7) - x8) then
            f_X12_findWork_313 k101 x3 M
          else
            f_X12_findWork_289 k101 x3 x4 x6 x7 x8 M
        else
          f_X12_findWork_313 k101 x3 M
theorem s_X12_findWork_242 (k101 : Int32 → mm_M → Option (mm_M)) (hk101 : ∀ (x3 : Int32) (M : mm_M), Sim sysR Y_X12_findWork 2 101 [(0, .ref 0), (3, .int (x3))] [] M mm_fV (k101 x3 M)) (x3 : Int32) (x4 : Int32) (x6 : Int32) (x7 : Int32) (x8 : Int32) (t0 : Int32) (M : mm_M) : Sim sysR Y_X12_findWork 2 242 [(0, .ref 0), (3, .int (x3)), (4, .int (x4)), (6, .int (x6)), (7, .int (x7)), (8, .int (x8))] [.int (t0)] M mm_fV (f_X12_findWork_242 k101 x3 x4 x6 x7 x8 t0 M) := by
  unfold f_X12_findWork_242
  refine sim_istore (L' := [(0, .ref 0), (3, .int (x3)), (4, .int (x4)), (6, .int (x6)), (7, .int (x7)), (8, .int (x8)), (9, .int (t0))]) d_X12_findWork_242 (Nat.le_of_ble_eq_true rfl) rfl ?_
  refine sim_iload 6 d_X12_findWork_244 rfl ?_
  refine sim_if_eq d_X12_findWork_246 ?_ ?_
  ·
    exact sim_sub [0, 1] rfl (s_X12_findWork_313 k101 hk101 x3 M)
  ·
    refine sim_aload_n 0 d_X12_findWork_249 rfl rfl ?_
    refine sim_geti d_X12_findWork_250 fl_X12_363 ob_R_0 rfl ?_
    refine sim_if_lt d_X12_findWork_253 ?_ ?_
    ·
      exact sim_sub [0, 1, 2, 3, 4, 5] rfl (s_X12_findWork_289 k101 hk101 x3 x4 x6 x7 x8 M)
    ·
      refine sim_iload 5 d_X12_findWork_256 rfl ?_
      refine sim_aload_n 0 d_X12_findWork_258 rfl rfl ?_
      refine sim_geti d_X12_findWork_259 fl_X12_369 ob_R_0 rfl ?_
      refine sim_icmp_lt d_X12_findWork_262 ?_ ?_
      ·
        exact sim_sub [0, 1, 2, 3, 4, 5] rfl (s_X12_findWork_289 k101 hk101 x3 x4 x6 x7 x8 M)
      ·
        refine sim_iload 5 d_X12_findWork_265 rfl ?_
        refine sim_aload_n 0 d_X12_findWork_267 rfl rfl ?_
        refine sim_geti d_X12_findWork_268 fl_X12_369 ob_R_0 rfl ?_
        refine sim_icmp_ne d_X12_findWork_271 ?_ ?_
        ·
          exact sim_sub [0, 1] rfl (s_X12_findWork_313 k101 hk101 x3 M)
        ·
          refine sim_iload 3 d_X12_findWork_274 rfl ?_
          refine sim_iload 4 d_X12_findWork_276 rfl ?_
          refine sim_iadd d_X12_findWork_278 ?_
          refine sim_iload 5 d_X12_findWork_279 rfl ?_
          refine sim_isub d_X12_findWork_281 ?_
          refine sim_aload_n 0 d_X12_findWork_282 rfl rfl ?_
          refine sim_geti d_X12_findWork_283 fl_X12_372 ob_R_0 rfl ?_
          refine sim_icmp_ge d_X12_findWork_286 ?_ ?_
          ·
            exact sim_sub [0, 1] rfl (s_X12_findWork_313 k101 hk101 x3 M)
          ·
            exact sim_sub [0, 1, 2, 3, 4, 5] rfl (s_X12_findWork_289 k101 hk101 x3 x4 x6 x7 x8 M)
def f_X12_findWork_241 (k101 : Int32 → mm_M → Option (mm_M)) (x3 : Int32) (x4 : Int32) (x6 : Int32) (x7 : Int32) (x8 : Int32) (M : mm_M) : Option (mm_M) :=
  f_X12_findWork_242 k101 x3 x4 x6 x7 x8 (0 : Int32) M
theorem s_X12_findWork_241 (k101 : Int32 → mm_M → Option (mm_M)) (hk101 : ∀ (x3 : Int32) (M : mm_M), Sim sysR Y_X12_findWork 2 101 [(0, .ref 0), (3, .int (x3))] [] M mm_fV (k101 x3 M)) (x3 : Int32) (x4 : Int32) (x6 : Int32) (x7 : Int32) (x8 : Int32) (M : mm_M) : Sim sysR Y_X12_findWork 2 241 [(0, .ref 0), (3, .int (x3)), (4, .int (x4)), (6, .int (x6)), (7, .int (x7)), (8, .int (x8))] [] M mm_fV (f_X12_findWork_241 k101 x3 x4 x6 x7 x8 M) := by
  unfold f_X12_findWork_241
  refine sim_iconst (0 : Int32) d_X12_findWork_241 rfl ?_
  exact sim_sub [0, 1, 2, 3, 4, 5] rfl (s_X12_findWork_242 k101 hk101 x3 x4 x6 x7 x8 (0 : Int32) M)
def f_X12_findWork_198 (k101 : Int32 → mm_M → Option (mm_M)) (x3 : Int32) (x4 : Int32) (x5 : Int32) (x6 : Int32) (x7 : Int32) (t0 : Int32) (M : mm_M) : Option (mm_M) :=
  mm_ck (0 : Int32) 2 (
  if (x5 &&& ((mI M 45 (0 : Int32).toNatClampNeg) ^^^ (-1 : Int32))) = 0 then
    mm_ck (1 : Int32) 2 (
    if (x4 &&& ((mI M 45 (1 : Int32).toNatClampNeg) ^^^ (-1 : Int32))) = 0 then
      if (mI M 0 60) < t0 then
        f_X12_findWork_241 k101 x3 x4 x6 x7 t0 M
      else
        f_X12_findWork_242 k101 x3 x4 x6 x7 t0 (1 : Int32) M
    else
      f_X12_findWork_241 k101 x3 x4 x6 x7 t0 M)
  else
    f_X12_findWork_241 k101 x3 x4 x6 x7 t0 M)
theorem s_X12_findWork_198 (k101 : Int32 → mm_M → Option (mm_M)) (hk101 : ∀ (x3 : Int32) (M : mm_M), Sim sysR Y_X12_findWork 2 101 [(0, .ref 0), (3, .int (x3))] [] M mm_fV (k101 x3 M)) (x3 : Int32) (x4 : Int32) (x5 : Int32) (x6 : Int32) (x7 : Int32) (t0 : Int32) (M : mm_M) : Sim sysR Y_X12_findWork 2 198 [(0, .ref 0), (3, .int (x3)), (4, .int (x4)), (5, .int (x5)), (6, .int (x6)), (7, .int (x7))] [.int (t0)] M mm_fV (f_X12_findWork_198 k101 x3 x4 x5 x6 x7 t0 M) := by
  unfold f_X12_findWork_198
  refine sim_istore (L' := [(0, .ref 0), (3, .int (x3)), (4, .int (x4)), (5, .int (x5)), (6, .int (x6)), (7, .int (x7)), (8, .int (t0))]) d_X12_findWork_198 (Nat.le_of_ble_eq_true rfl) rfl ?_
  refine sim_iload 3 d_X12_findWork_200 rfl ?_
  refine sim_aload_n 0 d_X12_findWork_202 rfl rfl ?_
  refine sim_geta d_X12_findWork_203 fl_X12_147 ob_R_0 rfl ?_
  refine sim_iconst (0 : Int32) d_X12_findWork_206 rfl ?_
  refine sim_iald d_X12_findWork_207 ar_R_45 ?_
  refine sim_iconst (-1 : Int32) d_X12_findWork_208 rfl ?_
  refine sim_ixor d_X12_findWork_209 ?_
  refine sim_iand d_X12_findWork_210 ?_
  refine sim_if_ne d_X12_findWork_211 ?_ ?_
  ·
    exact sim_sub [0, 1, 2, 4, 5, 6] rfl (s_X12_findWork_241 k101 hk101 x3 x4 x6 x7 t0 M)
  ·
    refine sim_iload 2 d_X12_findWork_214 rfl ?_
    refine sim_aload_n 0 d_X12_findWork_216 rfl rfl ?_
    refine sim_geta d_X12_findWork_217 fl_X12_147 ob_R_0 rfl ?_
    refine sim_iconst (1 : Int32) d_X12_findWork_220 rfl ?_
    refine sim_iald d_X12_findWork_221 ar_R_45 ?_
    refine sim_iconst (-1 : Int32) d_X12_findWork_222 rfl ?_
    refine sim_ixor d_X12_findWork_223 ?_
    refine sim_iand d_X12_findWork_224 ?_
    refine sim_if_ne d_X12_findWork_225 ?_ ?_
    ·
      exact sim_sub [0, 1, 2, 4, 5, 6] rfl (s_X12_findWork_241 k101 hk101 x3 x4 x6 x7 t0 M)
    ·
      refine sim_iload 6 d_X12_findWork_228 rfl ?_
      refine sim_aload_n 0 d_X12_findWork_230 rfl rfl ?_
      refine sim_geti d_X12_findWork_231 fl_X12_140 ob_R_0 rfl ?_
      refine sim_icmp_gt d_X12_findWork_234 ?_ ?_
      ·
        exact sim_sub [0, 1, 2, 4, 5, 6] rfl (s_X12_findWork_241 k101 hk101 x3 x4 x6 x7 t0 M)
      ·
        refine sim_iconst (1 : Int32) d_X12_findWork_237 rfl ?_
        refine sim_goto d_X12_findWork_238 ?_
        exact sim_sub [0, 1, 2, 4, 5, 6] rfl (s_X12_findWork_242 k101 hk101 x3 x4 x6 x7 t0 (1 : Int32) M)
def f_X12_findWork_153 (k101 : Int32 → mm_M → Option (mm_M)) (x3 : Int32) (x4 : Int32) (M : mm_M) : Option (mm_M) :=
  mm_let ((((1 : Int32) <<< ((mI M 0 62) &&& 31)) - (1 : Int32)) &&& (x4 ^^^ (-1 : Int32))) (fun v1 =>
  mm_bi (f_X12_timeOf v1 M) (fun r1 M1 =>
  mm_bi (f_X12_timeOf x4 M1) (fun r2 M2 =>
  if r1 ≤ r2 then
    f_X12_findWork_198 k101 x3 x4 v1 r1 r2 r2 M2
  else
    f_X12_findWork_198 k101 x3 x4 v1 r1 r2 r1 M2)))
theorem s_X12_findWork_153 (k101 : Int32 → mm_M → Option (mm_M)) (hk101 : ∀ (x3 : Int32) (M : mm_M), Sim sysR Y_X12_findWork 2 101 [(0, .ref 0), (3, .int (x3))] [] M mm_fV (k101 x3 M)) (x3 : Int32) (x4 : Int32) (M : mm_M) : Sim sysR Y_X12_findWork 2 153 [(0, .ref 0), (3, .int (x3)), (4, .int (x4))] [] M mm_fV (f_X12_findWork_153 k101 x3 x4 M) := by
  unfold f_X12_findWork_153
  refine sim_iconst (1 : Int32) d_X12_findWork_153 rfl ?_
  refine sim_aload_n 0 d_X12_findWork_154 rfl rfl ?_
  refine sim_geti d_X12_findWork_155 fl_X12_348 ob_R_0 rfl ?_
  refine sim_ishl d_X12_findWork_158 ?_
  refine sim_iconst (1 : Int32) d_X12_findWork_159 rfl ?_
  refine sim_isub d_X12_findWork_160 ?_
  refine sim_iload 2 d_X12_findWork_161 rfl ?_
  refine sim_iconst (-1 : Int32) d_X12_findWork_163 rfl ?_
  refine sim_ixor d_X12_findWork_164 ?_
  refine sim_iand d_X12_findWork_165 ?_
  refine sim_nmi (fun v1 => ?_)
  refine sim_istore (L' := [(0, .ref 0), (3, .int (x3)), (4, .int (x4)), (5, .int (v1))]) d_X12_findWork_166 (Nat.le_of_ble_eq_true rfl) rfl ?_
  refine sim_aload_n 0 d_X12_findWork_168 rfl rfl ?_
  refine sim_iload 3 d_X12_findWork_169 rfl ?_
  refine sim_callVi Y_X12_timeOf 1 [.int (v1)] [] d_X12_findWork_171 lk_X12_366 cv_X12_timeOf ob_R_0 rfl (by omega) (Nat.le_of_ble_eq_true rfl) (ct_X12_timeOf v1 M) (fun r1 M1 => ?_)
  refine sim_istore (L' := [(0, .ref 0), (3, .int (x3)), (4, .int (x4)), (5, .int (v1)), (6, .int (r1))]) d_X12_findWork_174 (Nat.le_of_ble_eq_true rfl) rfl ?_
  refine sim_aload_n 0 d_X12_findWork_176 rfl rfl ?_
  refine sim_iload 2 d_X12_findWork_177 rfl ?_
  refine sim_callVi Y_X12_timeOf 1 [.int (x4)] [] d_X12_findWork_179 lk_X12_366 cv_X12_timeOf ob_R_0 rfl (by omega) (Nat.le_of_ble_eq_true rfl) (ct_X12_timeOf x4 M1) (fun r2 M2 => ?_)
  refine sim_istore (L' := [(0, .ref 0), (3, .int (x3)), (4, .int (x4)), (5, .int (v1)), (6, .int (r1)), (7, .int (r2))]) d_X12_findWork_182 (Nat.le_of_ble_eq_true rfl) rfl ?_
  refine sim_iload 4 d_X12_findWork_184 rfl ?_
  refine sim_iload 5 d_X12_findWork_186 rfl ?_
  refine sim_icmp_le d_X12_findWork_188 ?_ ?_
  ·
    refine sim_iload 5 d_X12_findWork_196 rfl ?_
    exact sim_sub [0, 1, 2, 3, 4, 5] rfl (s_X12_findWork_198 k101 hk101 x3 x4 v1 r1 r2 r2 M2)
  ·
    refine sim_iload 4 d_X12_findWork_191 rfl ?_
    refine sim_goto d_X12_findWork_193 ?_
    exact sim_sub [0, 1, 2, 3, 4, 5] rfl (s_X12_findWork_198 k101 hk101 x3 x4 v1 r1 r2 r1 M2)
def f_X12_findWork_101 : Nat → Int32 → mm_M → Option (mm_M)
  | 0, _, _ => none
  | n + 1, x3, M =>
  if ((1 : Int32) <<< ((mI M 0 62) &&& 31)) ≤ x3 then
    some M
  else
    f_X12_findWork_117 (f_X12_findWork_153 (f_X12_findWork_101 n)) mm_fu x3 (0 : Int32) (0 : Int32) M
theorem s_X12_findWork_101 (n : Nat) : ∀ (x3 : Int32) (M : mm_M), Sim sysR Y_X12_findWork 2 101 [(0, .ref 0), (3, .int (x3))] [] M mm_fV (f_X12_findWork_101 n x3 M) := by
  induction n with
  | zero => intros; exact sim_none
  | succ n ih =>
    intro x3 M
    rw [f_X12_findWork_101]
    refine sim_iload_n 1 d_X12_findWork_101 rfl rfl ?_
    refine sim_iconst (1 : Int32) d_X12_findWork_102 rfl ?_
    refine sim_aload_n 0 d_X12_findWork_103 rfl rfl ?_
    refine sim_geti d_X12_findWork_104 fl_X12_348 ob_R_0 rfl ?_
    refine sim_ishl d_X12_findWork_107 ?_
    refine sim_icmp_ge d_X12_findWork_108 ?_ ?_
    ·
      exact sim_vret d_X12_findWork_319 rfl
    ·
      refine sim_iconst (0 : Int32) d_X12_findWork_111 rfl ?_
      refine sim_istore (L' := [(0, .ref 0), (3, .int (x3)), (4, .int ((0 : Int32)))]) d_X12_findWork_112 (Nat.le_of_ble_eq_true rfl) rfl ?_
      refine sim_iconst (0 : Int32) d_X12_findWork_114 rfl ?_
      refine sim_istore (L' := [(0, .ref 0), (3, .int (x3)), (4, .int ((0 : Int32))), (5, .int ((0 : Int32)))]) d_X12_findWork_115 (Nat.le_of_ble_eq_true rfl) rfl ?_
      exact sim_sub [0, 1, 2, 3] rfl (s_X12_findWork_117 (f_X12_findWork_153 (f_X12_findWork_101 n)) (s_X12_findWork_153 (f_X12_findWork_101 n) ih) mm_fu x3 (0 : Int32) (0 : Int32) M)
def f_X12_findWork_68 (x1 : Int32) (x2 : Int32) (M : mm_M) : Option (mm_M) :=
  mm_bi (f_X12_allowed x1 M) (fun r1 M1 =>
  mm_ck (0 : Int32) 2 (
  mm_let (sI M1 45 (0 : Int32).toNatClampNeg r1) (fun M2 =>
  mm_bi (f_X12_allowed x2 M2) (fun r2 M3 =>
  mm_ck (1 : Int32) 2 (
  mm_let (sI M3 45 (1 : Int32).toNatClampNeg r2) (fun M4 =>
  mm_bv (f_X12_findWays M4) (fun M5 =>
  mm_let (sI M5 0 65 (-1 : Int32)) (fun M6 =>
  f_X12_findWork_101 mm_fu (0 : Int32) M6))))))))
theorem s_X12_findWork_68 (x1 : Int32) (x2 : Int32) (M : mm_M) : Sim sysR Y_X12_findWork 2 68 [(0, .ref 0), (1, .int (x1)), (2, .int (x2))] [] M mm_fV (f_X12_findWork_68 x1 x2 M) := by
  unfold f_X12_findWork_68
  refine sim_aload_n 0 d_X12_findWork_68 rfl rfl ?_
  refine sim_geta d_X12_findWork_69 fl_X12_147 ob_R_0 rfl ?_
  refine sim_iconst (0 : Int32) d_X12_findWork_72 rfl ?_
  refine sim_aload_n 0 d_X12_findWork_73 rfl rfl ?_
  refine sim_iload_n 1 d_X12_findWork_74 rfl rfl ?_
  refine sim_callVi Y_X12_allowed 1 [.int (x1)] [.int ((0 : Int32)), .ref 45] d_X12_findWork_75 lk_X12_357 cv_X12_allowed ob_R_0 rfl (by omega) (Nat.le_of_ble_eq_true rfl) (ct_X12_allowed x1 M) (fun r1 M1 => ?_)
  refine sim_iast d_X12_findWork_78 ar_R_45 ?_
  refine sim_nmM (fun M2 => ?_)
  refine sim_aload_n 0 d_X12_findWork_79 rfl rfl ?_
  refine sim_geta d_X12_findWork_80 fl_X12_147 ob_R_0 rfl ?_
  refine sim_iconst (1 : Int32) d_X12_findWork_83 rfl ?_
  refine sim_aload_n 0 d_X12_findWork_84 rfl rfl ?_
  refine sim_iload_n 2 d_X12_findWork_85 rfl rfl ?_
  refine sim_callVi Y_X12_allowed 1 [.int (x2)] [.int ((1 : Int32)), .ref 45] d_X12_findWork_86 lk_X12_357 cv_X12_allowed ob_R_0 rfl (by omega) (Nat.le_of_ble_eq_true rfl) (ct_X12_allowed x2 M2) (fun r2 M3 => ?_)
  refine sim_iast d_X12_findWork_89 ar_R_45 ?_
  refine sim_nmM (fun M4 => ?_)
  refine sim_aload_n 0 d_X12_findWork_90 rfl rfl ?_
  refine sim_callVv Y_X12_findWays 1 [] [] d_X12_findWork_91 lk_X12_360 cv_X12_findWays ob_R_0 rfl (by omega) (Nat.le_of_ble_eq_true rfl) (ct_X12_findWays M4) (fun M5 => ?_)
  refine sim_aload_n 0 d_X12_findWork_94 rfl rfl ?_
  refine sim_iconst (-1 : Int32) d_X12_findWork_95 rfl ?_
  refine sim_puti d_X12_findWork_96 fl_X12_363 ob_R_0 rfl ?_
  refine sim_nmM (fun M6 => ?_)
  refine sim_iconst (0 : Int32) d_X12_findWork_99 rfl ?_
  refine sim_istore_n (L' := [(0, .ref 0), (1, .int (x1)), (2, .int (x2)), (3, .int ((0 : Int32)))]) d_X12_findWork_100 rfl (Nat.le_of_ble_eq_true rfl) rfl ?_
  exact sim_sub [0, 3] rfl (s_X12_findWork_101 mm_fu (0 : Int32) M6)
def f_X12_findWork (a1 : Int32) (a2 : Int32) (M : mm_M) : Option (mm_M) :=
  mm_let (sI M 0 62 (0 : Int32)) (fun M1 =>
  f_X12_findWork_7 f_X12_findWork_68 mm_fu a1 a2 (0 : Int32) M1)
theorem s_X12_findWork (a1 : Int32) (a2 : Int32) (M : mm_M) : Sim sysR Y_X12_findWork 2 0 [(0, .ref 0), (1, .int (a1)), (2, .int (a2))] [] M mm_fV (f_X12_findWork a1 a2 M) := by
  unfold f_X12_findWork
  refine sim_aload_n 0 d_X12_findWork_0 rfl rfl ?_
  refine sim_iconst (0 : Int32) d_X12_findWork_1 rfl ?_
  refine sim_puti d_X12_findWork_2 fl_X12_348 ob_R_0 rfl ?_
  refine sim_nmM (fun M1 => ?_)
  refine sim_iconst (0 : Int32) d_X12_findWork_5 rfl ?_
  refine sim_istore_n (L' := [(0, .ref 0), (1, .int (a1)), (2, .int (a2)), (3, .int ((0 : Int32)))]) d_X12_findWork_6 rfl (Nat.le_of_ble_eq_true rfl) rfl ?_
  exact sim_sub [0, 1, 2, 3] rfl (s_X12_findWork_7 f_X12_findWork_68 s_X12_findWork_68 mm_fu a1 a2 (0 : Int32) M1)
theorem ct_X12_findWork (a1 : Int32) (a2 : Int32) (M : mm_M) : Ct sysR Y_X12_findWork 2 [.ref 0, .int (a1), .int (a2)] M mm_fV (f_X12_findWork a1 a2 M) :=
  ct_of_sim (by decide) rfl (Nat.le_of_ble_eq_true rfl) (s_X12_findWork a1 a2 M)
def f_X12_wrongWork (a1 : Int32) (a2 : Int32) (M : mm_M) : Option (Int32 × mm_M) :=
  mm_bi (f_X12_in a1 (0 : Int32) (7 : Int32) M) (fun r1 M1 =>
  if r1 = 0 then
    some ((-1 : Int32), M1)
  else
    mm_bi (f_X12_in a2 (0 : Int32) (7 : Int32) M1) (fun r2 M2 =>
    if r2 = 0 then
      some ((-1 : Int32), M2)
    else
      if a1 = a2 then
        some ((-1 : Int32), M2)
      else
        mm_ck a1 8 (
        if (mI M2 9 a1.toNatClampNeg) = 0 then
          some ((-5 : Int32), M2)
        else
          mm_ck a2 8 (
          if (mI M2 9 a2.toNatClampNeg) = 0 then
            some ((-5 : Int32), M2)
          else
            if (mI M2 0 17) = 0 then
              some ((-5 : Int32), M2)
            else
              some ((0 : Int32), M2)))))
theorem s_X12_wrongWork (a1 : Int32) (a2 : Int32) (M : mm_M) : Sim sysR Y_X12_wrongWork 1 0 [(0, .ref 0), (1, .int (a1)), (2, .int (a2))] [] M mm_fI (f_X12_wrongWork a1 a2 M) := by
  unfold f_X12_wrongWork
  refine sim_iload_n 1 d_X12_wrongWork_0 rfl rfl ?_
  refine sim_iconst (0 : Int32) d_X12_wrongWork_1 rfl ?_
  refine sim_bipush (7 : Int32) d_X12_wrongWork_2 rfl ?_
  refine sim_callSi Y_X12_in 0 [.int (a1), .int ((0 : Int32)), .int ((7 : Int32))] [] d_X12_wrongWork_4 lk_X12_183 cs_X12_in rfl (by omega) (Nat.le_of_ble_eq_true rfl) (ct_X12_in a1 (0 : Int32) (7 : Int32) M) (fun r1 M1 => ?_)
  refine sim_if_eq d_X12_wrongWork_7 ?_ ?_
  ·
    refine sim_iconst (-1 : Int32) d_X12_wrongWork_25 rfl ?_
    exact sim_iret d_X12_wrongWork_26 rfl
  ·
    refine sim_iload_n 2 d_X12_wrongWork_10 rfl rfl ?_
    refine sim_iconst (0 : Int32) d_X12_wrongWork_11 rfl ?_
    refine sim_bipush (7 : Int32) d_X12_wrongWork_12 rfl ?_
    refine sim_callSi Y_X12_in 0 [.int (a2), .int ((0 : Int32)), .int ((7 : Int32))] [] d_X12_wrongWork_14 lk_X12_183 cs_X12_in rfl (by omega) (Nat.le_of_ble_eq_true rfl) (ct_X12_in a2 (0 : Int32) (7 : Int32) M1) (fun r2 M2 => ?_)
    refine sim_if_eq d_X12_wrongWork_17 ?_ ?_
    ·
      refine sim_iconst (-1 : Int32) d_X12_wrongWork_25 rfl ?_
      exact sim_iret d_X12_wrongWork_26 rfl
    ·
      refine sim_iload_n 1 d_X12_wrongWork_20 rfl rfl ?_
      refine sim_iload_n 2 d_X12_wrongWork_21 rfl rfl ?_
      refine sim_icmp_ne d_X12_wrongWork_22 ?_ ?_
      ·
        refine sim_aload_n 0 d_X12_wrongWork_27 rfl rfl ?_
        refine sim_geta d_X12_wrongWork_28 fl_X12_35 ob_R_0 rfl ?_
        refine sim_iload_n 1 d_X12_wrongWork_31 rfl rfl ?_
        refine sim_zald d_X12_wrongWork_32 ar_R_9 ?_
        refine sim_if_eq d_X12_wrongWork_33 ?_ ?_
        ·
          refine sim_bipush (-5 : Int32) d_X12_wrongWork_52 rfl ?_
          refine sim_goto d_X12_wrongWork_54 ?_
          exact sim_iret d_X12_wrongWork_58 rfl
        ·
          refine sim_aload_n 0 d_X12_wrongWork_36 rfl rfl ?_
          refine sim_geta d_X12_wrongWork_37 fl_X12_35 ob_R_0 rfl ?_
          refine sim_iload_n 2 d_X12_wrongWork_40 rfl rfl ?_
          refine sim_zald d_X12_wrongWork_41 ar_R_9 ?_
          refine sim_if_eq d_X12_wrongWork_42 ?_ ?_
          ·
            refine sim_bipush (-5 : Int32) d_X12_wrongWork_52 rfl ?_
            refine sim_goto d_X12_wrongWork_54 ?_
            exact sim_iret d_X12_wrongWork_58 rfl
          ·
            refine sim_aload_n 0 d_X12_wrongWork_45 rfl rfl ?_
            refine sim_getz d_X12_wrongWork_46 fl_X12_222 ob_R_0 rfl ?_
            refine sim_if_ne d_X12_wrongWork_49 ?_ ?_
            ·
              refine sim_iconst (0 : Int32) d_X12_wrongWork_57 rfl ?_
              exact sim_iret d_X12_wrongWork_58 rfl
            ·
              refine sim_bipush (-5 : Int32) d_X12_wrongWork_52 rfl ?_
              refine sim_goto d_X12_wrongWork_54 ?_
              exact sim_iret d_X12_wrongWork_58 rfl
      ·
        refine sim_iconst (-1 : Int32) d_X12_wrongWork_25 rfl ?_
        exact sim_iret d_X12_wrongWork_26 rfl
theorem ct_X12_wrongWork (a1 : Int32) (a2 : Int32) (M : mm_M) : Ct sysR Y_X12_wrongWork 1 [.ref 0, .int (a1), .int (a2)] M mm_fI (f_X12_wrongWork a1 a2 M) :=
  ct_of_sim (by decide) rfl (Nat.le_of_ble_eq_true rfl) (s_X12_wrongWork a1 a2 M)
def f_X12_work (a1 : Int32) (a2 : Int32) (a3 : Int32) (M : mm_M) : Option (Int32 × mm_M) :=
  mm_let (sI M 0 0 (0 : Int32)) (fun M1 =>
  mm_bi (f_X12_wrongWork a1 a2 M1) (fun r1 M2 =>
  if 0 ≤ r1 then
    mm_bi (f_X12_in a3 (0 : Int32) (1 : Int32) M2) (fun r2 M3 =>
    if r2 = 0 then
      mm_bi (f_X12_refuse (-2 : Int32) M3) (fun r3 M5 =>
      some (r3, M5))
    else
      mm_bv (f_X12_findWork a1 a2 M3) (fun M4 =>
      if 0 ≤ (mI M4 0 65) then
        if a3 = 0 then
          some (mI M4 0 66, M4)
        else
          some (mI M4 0 67, M4)
      else
        some ((-9 : Int32), M4)))
  else
    mm_bi (f_X12_wrongWork a1 a2 M2) (fun r4 M6 =>
    mm_bi (f_X12_refuse r4 M6) (fun r5 M7 =>
    some (r5, M7)))))
theorem s_X12_work (a1 : Int32) (a2 : Int32) (a3 : Int32) (M : mm_M) : Sim sysR Y_X12_work 3 0 [(0, .ref 0), (1, .int (a1)), (2, .int (a2)), (3, .int (a3))] [] M mm_fI (f_X12_work a1 a2 a3 M) := by
  unfold f_X12_work
  refine sim_aload_n 0 d_X12_work_0 rfl rfl ?_
  refine sim_iconst (0 : Int32) d_X12_work_1 rfl ?_
  refine sim_puti d_X12_work_2 fl_X12_177 ob_R_0 rfl ?_
  refine sim_nmM (fun M1 => ?_)
  refine sim_aload_n 0 d_X12_work_5 rfl rfl ?_
  refine sim_iload_n 1 d_X12_work_6 rfl rfl ?_
  refine sim_iload_n 2 d_X12_work_7 rfl rfl ?_
  refine sim_callVi Y_X12_wrongWork 1 [.int (a1), .int (a2)] [] d_X12_work_8 lk_X12_375 cv_X12_wrongWork ob_R_0 rfl (by omega) (Nat.le_of_ble_eq_true rfl) (ct_X12_wrongWork a1 a2 M1) (fun r1 M2 => ?_)
  refine sim_if_ge d_X12_work_11 ?_ ?_
  ·
    refine sim_iload_n 3 d_X12_work_25 rfl rfl ?_
    refine sim_iconst (0 : Int32) d_X12_work_26 rfl ?_
    refine sim_iconst (1 : Int32) d_X12_work_27 rfl ?_
    refine sim_callSi Y_X12_in 0 [.int (a3), .int ((0 : Int32)), .int ((1 : Int32))] [] d_X12_work_28 lk_X12_183 cs_X12_in rfl (by omega) (Nat.le_of_ble_eq_true rfl) (ct_X12_in a3 (0 : Int32) (1 : Int32) M2) (fun r2 M3 => ?_)
    refine sim_if_ne d_X12_work_31 ?_ ?_
    ·
      refine sim_aload_n 0 d_X12_work_41 rfl rfl ?_
      refine sim_iload_n 1 d_X12_work_42 rfl rfl ?_
      refine sim_iload_n 2 d_X12_work_43 rfl rfl ?_
      refine sim_callVv Y_X12_findWork 2 [.int (a1), .int (a2)] [] d_X12_work_44 lk_X12_378 cv_X12_findWork ob_R_0 rfl (by omega) (Nat.le_of_ble_eq_true rfl) (ct_X12_findWork a1 a2 M3) (fun M4 => ?_)
      refine sim_aload_n 0 d_X12_work_47 rfl rfl ?_
      refine sim_geti d_X12_work_48 fl_X12_363 ob_R_0 rfl ?_
      refine sim_if_ge d_X12_work_51 ?_ ?_
      ·
        refine sim_iload_n 3 d_X12_work_59 rfl rfl ?_
        refine sim_if_ne d_X12_work_60 ?_ ?_
        ·
          refine sim_aload_n 0 d_X12_work_70 rfl rfl ?_
          refine sim_geti d_X12_work_71 fl_X12_372 ob_R_0 rfl ?_
          exact sim_iret d_X12_work_74 rfl
        ·
          refine sim_aload_n 0 d_X12_work_63 rfl rfl ?_
          refine sim_geti d_X12_work_64 fl_X12_369 ob_R_0 rfl ?_
          refine sim_goto d_X12_work_67 ?_
          exact sim_iret d_X12_work_74 rfl
      ·
        refine sim_bipush (-9 : Int32) d_X12_work_54 rfl ?_
        refine sim_goto d_X12_work_56 ?_
        exact sim_iret d_X12_work_74 rfl
    ·
      refine sim_aload_n 0 d_X12_work_34 rfl rfl ?_
      refine sim_bipush (-2 : Int32) d_X12_work_35 rfl ?_
      refine sim_callVi Y_X12_refuse 0 [.int ((-2 : Int32))] [] d_X12_work_37 lk_X12_187 cv_X12_refuse ob_R_0 rfl (by omega) (Nat.le_of_ble_eq_true rfl) (ct_X12_refuse (-2 : Int32) M3) (fun r3 M5 => ?_)
      exact sim_iret d_X12_work_40 rfl
  ·
    refine sim_aload_n 0 d_X12_work_14 rfl rfl ?_
    refine sim_aload_n 0 d_X12_work_15 rfl rfl ?_
    refine sim_iload_n 1 d_X12_work_16 rfl rfl ?_
    refine sim_iload_n 2 d_X12_work_17 rfl rfl ?_
    refine sim_callVi Y_X12_wrongWork 1 [.int (a1), .int (a2)] [.ref 0] d_X12_work_18 lk_X12_375 cv_X12_wrongWork ob_R_0 rfl (by omega) (Nat.le_of_ble_eq_true rfl) (ct_X12_wrongWork a1 a2 M2) (fun r4 M6 => ?_)
    refine sim_callVi Y_X12_refuse 0 [.int (r4)] [] d_X12_work_21 lk_X12_187 cv_X12_refuse ob_R_0 rfl (by omega) (Nat.le_of_ble_eq_true rfl) (ct_X12_refuse r4 M6) (fun r5 M7 => ?_)
    exact sim_iret d_X12_work_24 rfl
theorem ct_X12_work (a1 : Int32) (a2 : Int32) (a3 : Int32) (M : mm_M) : Ct sysR Y_X12_work 3 [.ref 0, .int (a1), .int (a2), .int (a3)] M mm_fI (f_X12_work a1 a2 a3 M) :=
  ct_of_sim (by decide) rfl (Nat.le_of_ble_eq_true rfl) (s_X12_work a1 a2 a3 M)
def f_X12_workAt_198 (k109 : Int32 → Int32 → Int32 → Int32 → Int32 → Int32 → mm_M → Option (Int32 × mm_M)) (x4 : Int32) (x5 : Int32) (x6 : Int32) (x7 : Int32) (x9 : Int32) (t0 : Int32) (M : mm_M) : Option (Int32 × mm_M) :=
  k109 x4 x5 x6 x7 t0 (x9 + (1 : Int32)) M
theorem s_X12_workAt_198 (k109 : Int32 → Int32 → Int32 → Int32 → Int32 → Int32 → mm_M → Option (Int32 × mm_M)) (hk109 : ∀ (x4 : Int32) (x5 : Int32) (x6 : Int32) (x7 : Int32) (x8 : Int32) (x9 : Int32) (M : mm_M), Sim sysR Y_X12_workAt 3 109 [(0, .ref 0), (4, .int (x4)), (5, .int (x5)), (6, .int (x6)), (7, .int (x7)), (8, .int (x8)), (9, .int (x9))] [] M mm_fI (k109 x4 x5 x6 x7 x8 x9 M)) (x4 : Int32) (x5 : Int32) (x6 : Int32) (x7 : Int32) (x9 : Int32) (t0 : Int32) (M : mm_M) : Sim sysR Y_X12_workAt 3 198 [(0, .ref 0), (4, .int (x4)), (5, .int (x5)), (6, .int (x6)), (7, .int (x7)), (9, .int (x9))] [.int (t0)] M mm_fI (f_X12_workAt_198 k109 x4 x5 x6 x7 x9 t0 M) := by
  unfold f_X12_workAt_198
  refine sim_istore (L' := [(0, .ref 0), (4, .int (x4)), (5, .int (x5)), (6, .int (x6)), (7, .int (x7)), (9, .int (x9)), (8, .int (t0))]) d_X12_workAt_198 (Nat.le_of_ble_eq_true rfl) rfl ?_
  refine sim_iinc (v := x9 + (1 : Int32)) (L' := [(0, .ref 0), (4, .int (x4)), (5, .int (x5)), (6, .int (x6)), (7, .int (x7)), (8, .int (t0)), (9, .int (x9 + (1 : Int32)))]) 5 d_X12_workAt_200 (Nat.le_of_ble_eq_true rfl) rfl rfl rfl ?_
  refine sim_goto d_X12_workAt_203 ?_
  exact sim_sub [0, 1, 2, 3, 4, 5, 6] rfl (hk109 x4 x5 x6 x7 t0 (x9 + (1 : Int32)) M)
def f_X12_workAt_196 (k109 : Int32 → Int32 → Int32 → Int32 → Int32 → Int32 → mm_M → Option (Int32 × mm_M)) (x4 : Int32) (x5 : Int32) (x6 : Int32) (x7 : Int32) (x8 : Int32) (x9 : Int32) (M : mm_M) : Option (Int32 × mm_M) :=
  f_X12_workAt_198 k109 x4 x5 x6 x7 x9 x8 M
theorem s_X12_workAt_196 (k109 : Int32 → Int32 → Int32 → Int32 → Int32 → Int32 → mm_M → Option (Int32 × mm_M)) (hk109 : ∀ (x4 : Int32) (x5 : Int32) (x6 : Int32) (x7 : Int32) (x8 : Int32) (x9 : Int32) (M : mm_M), Sim sysR Y_X12_workAt 3 109 [(0, .ref 0), (4, .int (x4)), (5, .int (x5)), (6, .int (x6)), (7, .int (x7)), (8, .int (x8)), (9, .int (x9))] [] M mm_fI (k109 x4 x5 x6 x7 x8 x9 M)) (x4 : Int32) (x5 : Int32) (x6 : Int32) (x7 : Int32) (x8 : Int32) (x9 : Int32) (M : mm_M) : Sim sysR Y_X12_workAt 3 196 [(0, .ref 0), (4, .int (x4)), (5, .int (x5)), (6, .int (x6)), (7, .int (x7)), (8, .int (x8)), (9, .int (x9))] [] M mm_fI (f_X12_workAt_196 k109 x4 x5 x6 x7 x8 x9 M) := by
  unfold f_X12_workAt_196
  refine sim_iload 5 d_X12_workAt_196 rfl ?_
  exact sim_sub [0, 1, 2, 3, 4, 6] rfl (s_X12_workAt_198 k109 hk109 x4 x5 x6 x7 x9 x8 M)
def f_X12_workAt_139 (k109 : Int32 → Int32 → Int32 → Int32 → Int32 → Int32 → mm_M → Option (Int32 × mm_M)) (x4 : Int32) (x5 : Int32) (x6 : Int32) (x7 : Int32) (x8 : Int32) (x9 : Int32) (t0 : Int32) (M : mm_M) : Option (Int32 × mm_M) :=
  if t0 = 0 then
    f_X12_workAt_196 k109 x4 x5 x6 x7 x8 x9 M
  else
    mm_bi (f_X12_farFrom x6 x9 M) (fun r1 M1 =>
    mm_ck (((9 : Int32) * (x5 &&& (((1 : Int32) <<< (x9 &&& 31)) ^^^ (-1 : Int32)))) + x9) 2304 (
    mm_ck (((9 : Int32) * x5) + x6) 2304 (
    if (r1 + (mI M1 46 (((9 : Int32) * (x5 &&& (((1 : Int32) <<< (x9 &&& 31)) ^^^ (-1 : Int32)))) + x9).toNatClampNeg)) = (mI M1 46 (((9 : Int32) * x5) + x6).toNatClampNeg) then
      f_X12_workAt_198 k109 x4 x5 x6 x7 x9 x9 M1
    else
      f_X12_workAt_196 k109 x4 x5 x6 x7 x8 x9 M1)))
theorem s_X12_workAt_139 (k109 : Int32 → Int32 → Int32 → Int32 → Int32 → Int32 → mm_M → Option (Int32 × mm_M)) (hk109 : ∀ (x4 : Int32) (x5 : Int32) (x6 : Int32) (x7 : Int32) (x8 : Int32) (x9 : Int32) (M : mm_M), Sim sysR Y_X12_workAt 3 109 [(0, .ref 0), (4, .int (x4)), (5, .int (x5)), (6, .int (x6)), (7, .int (x7)), (8, .int (x8)), (9, .int (x9))] [] M mm_fI (k109 x4 x5 x6 x7 x8 x9 M)) (x4 : Int32) (x5 : Int32) (x6 : Int32) (x7 : Int32) (x8 : Int32) (x9 : Int32) (t0 : Int32) (M : mm_M) : Sim sysR Y_X12_workAt 3 139 [(0, .ref 0), (4, .int (x4)), (5, .int (x5)), (6, .int (x6)), (7, .int (x7)), (8, .int (x8)), (9, .int (x9))] [.int (t0)] M mm_fI (f_X12_workAt_139 k109 x4 x5 x6 x7 x8 x9 t0 M) := by
  unfold f_X12_workAt_139
  refine sim_istore (L' := [(0, .ref 0), (4, .int (x4)), (5, .int (x5)), (6, .int (x6)), (7, .int (x7)), (8, .int (x8)), (9, .int (x9)), (10, .int (t0))]) d_X12_workAt_139 (Nat.le_of_ble_eq_true rfl) rfl ?_
  refine sim_iload 7 d_X12_workAt_141 rfl ?_
  refine sim_if_eq d_X12_workAt_143 ?_ ?_
  ·
    exact sim_sub [0, 1, 2, 3, 4, 5, 6] rfl (s_X12_workAt_196 k109 hk109 x4 x5 x6 x7 x8 x9 M)
  ·
    refine sim_aload_n 0 d_X12_workAt_146 rfl rfl ?_
    refine sim_iload 3 d_X12_workAt_147 rfl ?_
    refine sim_iload 6 d_X12_workAt_149 rfl ?_
    refine sim_callVi Y_X12_farFrom 0 [.int (x6), .int (x9)] [] d_X12_workAt_151 lk_X12_351 cv_X12_farFrom ob_R_0 rfl (by omega) (Nat.le_of_ble_eq_true rfl) (ct_X12_farFrom x6 x9 M) (fun r1 M1 => ?_)
    refine sim_aload_n 0 d_X12_workAt_154 rfl rfl ?_
    refine sim_geta d_X12_workAt_155 fl_X12_150 ob_R_0 rfl ?_
    refine sim_bipush (9 : Int32) d_X12_workAt_158 rfl ?_
    refine sim_iload 2 d_X12_workAt_160 rfl ?_
    refine sim_iconst (1 : Int32) d_X12_workAt_162 rfl ?_
    refine sim_iload 6 d_X12_workAt_163 rfl ?_
    refine sim_ishl d_X12_workAt_165 ?_
    refine sim_iconst (-1 : Int32) d_X12_workAt_166 rfl ?_
    refine sim_ixor d_X12_workAt_167 ?_
    refine sim_iand d_X12_workAt_168 ?_
    refine sim_imul d_X12_workAt_169 ?_
    refine sim_iload 6 d_X12_workAt_170 rfl ?_
    refine sim_iadd d_X12_workAt_172 ?_
    refine sim_iald d_X12_workAt_173 ar_R_46 ?_
    refine sim_iadd d_X12_workAt_174 ?_
    refine sim_aload_n 0 d_X12_workAt_175 rfl rfl ?_
    refine sim_geta d_X12_workAt_176 fl_X12_150 ob_R_0 rfl ?_
    refine sim_bipush (9 : Int32) d_X12_workAt_179 rfl ?_
    refine sim_iload 2 d_X12_workAt_181 rfl ?_
    refine sim_imul d_X12_workAt_183 ?_
    refine sim_iload 3 d_X12_workAt_184 rfl ?_
    refine sim_iadd d_X12_workAt_186 ?_
    refine sim_iald d_X12_workAt_187 ar_R_46 ?_
    refine sim_icmp_ne d_X12_workAt_188 ?_ ?_
    ·
      exact sim_sub [0, 1, 2, 3, 4, 5, 6] rfl (s_X12_workAt_196 k109 hk109 x4 x5 x6 x7 x8 x9 M1)
    ·
      refine sim_iload 6 d_X12_workAt_191 rfl ?_
      refine sim_goto d_X12_workAt_193 ?_
      exact sim_sub [0, 1, 2, 3, 4, 6] rfl (s_X12_workAt_198 k109 hk109 x4 x5 x6 x7 x9 x9 M1)
def f_X12_workAt_109 (k206 : Int32 → Int32 → Int32 → Int32 → mm_M → Option (Int32 × mm_M)) : Nat → Int32 → Int32 → Int32 → Int32 → Int32 → Int32 → mm_M → Option (Int32 × mm_M)
  | 0, _, _, _, _, _, _, _ => none
  | n + 1, x4, x5, x6, x7, x8, x9, M =>
  if (mI M 0 62) ≤ x9 then
    k206 x4 x5 x7 x8 M
  else
    if 0 ≤ x8 then
      k206 x4 x5 x7 x8 M
    else
      if ((x5 >>> (x9 &&& 31)) &&& (1 : Int32)) = (1 : Int32) then
        f_X12_workAt_139 (f_X12_workAt_109 k206 n) x4 x5 x6 x7 x8 x9 (1 : Int32) M
      else
        f_X12_workAt_139 (f_X12_workAt_109 k206 n) x4 x5 x6 x7 x8 x9 (0 : Int32) M
theorem s_X12_workAt_109 (k206 : Int32 → Int32 → Int32 → Int32 → mm_M → Option (Int32 × mm_M)) (hk206 : ∀ (x4 : Int32) (x5 : Int32) (x7 : Int32) (x8 : Int32) (M : mm_M), Sim sysR Y_X12_workAt 3 206 [(0, .ref 0), (4, .int (x4)), (5, .int (x5)), (7, .int (x7)), (8, .int (x8))] [] M mm_fI (k206 x4 x5 x7 x8 M)) (n : Nat) : ∀ (x4 : Int32) (x5 : Int32) (x6 : Int32) (x7 : Int32) (x8 : Int32) (x9 : Int32) (M : mm_M), Sim sysR Y_X12_workAt 3 109 [(0, .ref 0), (4, .int (x4)), (5, .int (x5)), (6, .int (x6)), (7, .int (x7)), (8, .int (x8)), (9, .int (x9))] [] M mm_fI (f_X12_workAt_109 k206 n x4 x5 x6 x7 x8 x9 M) := by
  induction n with
  | zero => intros; exact sim_none
  | succ n ih =>
    intro x4 x5 x6 x7 x8 x9 M
    rw [f_X12_workAt_109]
    refine sim_iload 6 d_X12_workAt_109 rfl ?_
    refine sim_aload_n 0 d_X12_workAt_111 rfl rfl ?_
    refine sim_geti d_X12_workAt_112 fl_X12_348 ob_R_0 rfl ?_
    refine sim_icmp_ge d_X12_workAt_115 ?_ ?_
    ·
      exact sim_sub [0, 1, 2, 4, 5] rfl (hk206 x4 x5 x7 x8 M)
    ·
      refine sim_iload 5 d_X12_workAt_118 rfl ?_
      refine sim_if_ge d_X12_workAt_120 ?_ ?_
      ·
        exact sim_sub [0, 1, 2, 4, 5] rfl (hk206 x4 x5 x7 x8 M)
      ·
        refine sim_iload 2 d_X12_workAt_123 rfl ?_
        refine sim_iload 6 d_X12_workAt_125 rfl ?_
        refine sim_ishr d_X12_workAt_127 ?_
        refine sim_iconst (1 : Int32) d_X12_workAt_128 rfl ?_
        refine sim_iand d_X12_workAt_129 ?_
        refine sim_iconst (1 : Int32) d_X12_workAt_130 rfl ?_
        refine sim_icmp_ne d_X12_workAt_131 ?_ ?_
        ·
          refine sim_iconst (0 : Int32) d_X12_workAt_138 rfl ?_
          exact sim_sub [0, 1, 2, 3, 4, 5, 6] rfl (s_X12_workAt_139 (f_X12_workAt_109 k206 n) ih x4 x5 x6 x7 x8 x9 (0 : Int32) M)
        ·
          refine sim_iconst (1 : Int32) d_X12_workAt_134 rfl ?_
          refine sim_goto d_X12_workAt_135 ?_
          exact sim_sub [0, 1, 2, 3, 4, 5, 6] rfl (s_X12_workAt_139 (f_X12_workAt_109 k206 n) ih x4 x5 x6 x7 x8 x9 (1 : Int32) M)
def f_X12_workAt_206 (k96 : Int32 → Int32 → Int32 → Int32 → mm_M → Option (Int32 × mm_M)) (x4 : Int32) (x5 : Int32) (x7 : Int32) (x8 : Int32) (M : mm_M) : Option (Int32 × mm_M) :=
  mm_let (x5 &&& (((1 : Int32) <<< (x8 &&& 31)) ^^^ (-1 : Int32))) (fun v1 =>
  k96 x4 v1 x8 (x7 + (1 : Int32)) M)
theorem s_X12_workAt_206 (k96 : Int32 → Int32 → Int32 → Int32 → mm_M → Option (Int32 × mm_M)) (hk96 : ∀ (x4 : Int32) (x5 : Int32) (x6 : Int32) (x7 : Int32) (M : mm_M), Sim sysR Y_X12_workAt 3 96 [(0, .ref 0), (4, .int (x4)), (5, .int (x5)), (6, .int (x6)), (7, .int (x7))] [] M mm_fI (k96 x4 x5 x6 x7 M)) (x4 : Int32) (x5 : Int32) (x7 : Int32) (x8 : Int32) (M : mm_M) : Sim sysR Y_X12_workAt 3 206 [(0, .ref 0), (4, .int (x4)), (5, .int (x5)), (7, .int (x7)), (8, .int (x8))] [] M mm_fI (f_X12_workAt_206 k96 x4 x5 x7 x8 M) := by
  unfold f_X12_workAt_206
  refine sim_iload 4 d_X12_workAt_206 rfl ?_
  refine sim_istore (L' := [(0, .ref 0), (4, .int (x4)), (5, .int (x5)), (7, .int (x7)), (8, .int (x8)), (6, .int (x8))]) d_X12_workAt_208 (Nat.le_of_ble_eq_true rfl) rfl ?_
  refine sim_iload 2 d_X12_workAt_210 rfl ?_
  refine sim_iconst (1 : Int32) d_X12_workAt_212 rfl ?_
  refine sim_iload 4 d_X12_workAt_213 rfl ?_
  refine sim_ishl d_X12_workAt_215 ?_
  refine sim_iconst (-1 : Int32) d_X12_workAt_216 rfl ?_
  refine sim_ixor d_X12_workAt_217 ?_
  refine sim_iand d_X12_workAt_218 ?_
  refine sim_nmi (fun v1 => ?_)
  refine sim_istore (L' := [(0, .ref 0), (4, .int (x4)), (7, .int (x7)), (8, .int (x8)), (6, .int (x8)), (5, .int (v1))]) d_X12_workAt_219 (Nat.le_of_ble_eq_true rfl) rfl ?_
  refine sim_iinc (v := x7 + (1 : Int32)) (L' := [(0, .ref 0), (4, .int (x4)), (8, .int (x8)), (6, .int (x8)), (5, .int (v1)), (7, .int (x7 + (1 : Int32)))]) 2 d_X12_workAt_221 (Nat.le_of_ble_eq_true rfl) rfl rfl rfl ?_
  refine sim_goto d_X12_workAt_224 ?_
  exact sim_sub [0, 1, 4, 3, 5] rfl (hk96 x4 v1 x8 (x7 + (1 : Int32)) M)
def f_X12_workAt_96 : Nat → Int32 → Int32 → Int32 → Int32 → mm_M → Option (Int32 × mm_M)
  | 0, _, _, _, _, _ => none
  | n + 1, x4, x5, x6, x7, M =>
  if x4 < x7 then
    mm_ck x6 8 (
    some (mI M 44 x6.toNatClampNeg, M))
  else
    f_X12_workAt_109 (f_X12_workAt_206 (f_X12_workAt_96 n)) mm_fu x4 x5 x6 x7 (-1 : Int32) (0 : Int32) M
theorem s_X12_workAt_96 (n : Nat) : ∀ (x4 : Int32) (x5 : Int32) (x6 : Int32) (x7 : Int32) (M : mm_M), Sim sysR Y_X12_workAt 3 96 [(0, .ref 0), (4, .int (x4)), (5, .int (x5)), (6, .int (x6)), (7, .int (x7))] [] M mm_fI (f_X12_workAt_96 n x4 x5 x6 x7 M) := by
  induction n with
  | zero => intros; exact sim_none
  | succ n ih =>
    intro x4 x5 x6 x7 M
    rw [f_X12_workAt_96]
    refine sim_iload 4 d_X12_workAt_96 rfl ?_
    refine sim_iload 1 d_X12_workAt_98 rfl ?_
    refine sim_icmp_gt d_X12_workAt_100 ?_ ?_
    ·
      refine sim_aload_n 0 d_X12_workAt_227 rfl rfl ?_
      refine sim_geta d_X12_workAt_228 fl_X12_144 ob_R_0 rfl ?_
      refine sim_iload 3 d_X12_workAt_231 rfl ?_
      refine sim_iald d_X12_workAt_233 ar_R_44 ?_
      exact sim_iret d_X12_workAt_234 rfl
    ·
      refine sim_iconst (-1 : Int32) d_X12_workAt_103 rfl ?_
      refine sim_istore (L' := [(0, .ref 0), (4, .int (x4)), (5, .int (x5)), (6, .int (x6)), (7, .int (x7)), (8, .int ((-1 : Int32)))]) d_X12_workAt_104 (Nat.le_of_ble_eq_true rfl) rfl ?_
      refine sim_iconst (0 : Int32) d_X12_workAt_106 rfl ?_
      refine sim_istore (L' := [(0, .ref 0), (4, .int (x4)), (5, .int (x5)), (6, .int (x6)), (7, .int (x7)), (8, .int ((-1 : Int32))), (9, .int ((0 : Int32)))]) d_X12_workAt_107 (Nat.le_of_ble_eq_true rfl) rfl ?_
      exact sim_sub [0, 1, 2, 3, 4, 5, 6] rfl (s_X12_workAt_109 (f_X12_workAt_206 (f_X12_workAt_96 n)) (s_X12_workAt_206 (f_X12_workAt_96 n) ih) mm_fu x4 x5 x6 x7 (-1 : Int32) (0 : Int32) M)
def f_X12_workAt_68 (x4 : Int32) (t0 : Int32) (M : mm_M) : Option (Int32 × mm_M) :=
  mm_bi (f_X12_ones t0 M) (fun r1 M1 =>
  mm_bi (f_X12_in x4 (0 : Int32) (r1 - (1 : Int32)) M1) (fun r2 M2 =>
  if r2 = 0 then
    some ((-9 : Int32), M2)
  else
    f_X12_workAt_96 mm_fu x4 t0 (8 : Int32) (0 : Int32) M2))
theorem s_X12_workAt_68 (x4 : Int32) (t0 : Int32) (M : mm_M) : Sim sysR Y_X12_workAt 3 68 [(0, .ref 0), (4, .int (x4))] [.int (t0)] M mm_fI (f_X12_workAt_68 x4 t0 M) := by
  unfold f_X12_workAt_68
  refine sim_istore (L' := [(0, .ref 0), (4, .int (x4)), (5, .int (t0))]) d_X12_workAt_68 (Nat.le_of_ble_eq_true rfl) rfl ?_
  refine sim_iload 1 d_X12_workAt_70 rfl ?_
  refine sim_iconst (0 : Int32) d_X12_workAt_72 rfl ?_
  refine sim_iload 2 d_X12_workAt_73 rfl ?_
  refine sim_callSi Y_X12_ones 0 [.int (t0)] [.int ((0 : Int32)), .int (x4)] d_X12_workAt_75 lk_X12_354 cs_X12_ones rfl (by omega) (Nat.le_of_ble_eq_true rfl) (ct_X12_ones t0 M) (fun r1 M1 => ?_)
  refine sim_iconst (1 : Int32) d_X12_workAt_78 rfl ?_
  refine sim_isub d_X12_workAt_79 ?_
  refine sim_callSi Y_X12_in 0 [.int (x4), .int ((0 : Int32)), .int (r1 - (1 : Int32))] [] d_X12_workAt_80 lk_X12_183 cs_X12_in rfl (by omega) (Nat.le_of_ble_eq_true rfl) (ct_X12_in x4 (0 : Int32) (r1 - (1 : Int32)) M1) (fun r2 M2 => ?_)
  refine sim_if_ne d_X12_workAt_83 ?_ ?_
  ·
    refine sim_bipush (8 : Int32) d_X12_workAt_89 rfl ?_
    refine sim_istore (L' := [(0, .ref 0), (4, .int (x4)), (5, .int (t0)), (6, .int ((8 : Int32)))]) d_X12_workAt_91 (Nat.le_of_ble_eq_true rfl) rfl ?_
    refine sim_iconst (0 : Int32) d_X12_workAt_93 rfl ?_
    refine sim_istore (L' := [(0, .ref 0), (4, .int (x4)), (5, .int (t0)), (6, .int ((8 : Int32))), (7, .int ((0 : Int32)))]) d_X12_workAt_94 (Nat.le_of_ble_eq_true rfl) rfl ?_
    exact sim_sub [0, 1, 2, 3, 4] rfl (s_X12_workAt_96 mm_fu x4 t0 (8 : Int32) (0 : Int32) M2)
  ·
    refine sim_bipush (-9 : Int32) d_X12_workAt_86 rfl ?_
    exact sim_iret d_X12_workAt_88 rfl
def f_X12_workAt (a1 : Int32) (a2 : Int32) (a3 : Int32) (a4 : Int32) (M : mm_M) : Option (Int32 × mm_M) :=
  mm_let (sI M 0 0 (0 : Int32)) (fun M1 =>
  mm_bi (f_X12_wrongWork a1 a2 M1) (fun r1 M2 =>
  if 0 ≤ r1 then
    mm_bv (f_X12_findWork a1 a2 M2) (fun M3 =>
    if 0 ≤ (mI M3 0 65) then
      if a3 = 0 then
        f_X12_workAt_68 a4 ((((1 : Int32) <<< ((mI M3 0 62) &&& 31)) - (1 : Int32)) &&& ((mI M3 0 65) ^^^ (-1 : Int32))) M3
      else
        f_X12_workAt_68 a4 (mI M3 0 65) M3
    else
      f_X12_workAt_68 a4 (0 : Int32) M3)
  else
    mm_bi (f_X12_wrongWork a1 a2 M2) (fun r2 M4 =>
    mm_bi (f_X12_refuse r2 M4) (fun r3 M5 =>
    some (r3, M5)))))
theorem s_X12_workAt (a1 : Int32) (a2 : Int32) (a3 : Int32) (a4 : Int32) (M : mm_M) : Sim sysR Y_X12_workAt 3 0 [(0, .ref 0), (1, .int (a1)), (2, .int (a2)), (3, .int (a3)), (4, .int (a4))] [] M mm_fI (f_X12_workAt a1 a2 a3 a4 M) := by
  unfold f_X12_workAt
  refine sim_aload_n 0 d_X12_workAt_0 rfl rfl ?_
  refine sim_iconst (0 : Int32) d_X12_workAt_1 rfl ?_
  refine sim_puti d_X12_workAt_2 fl_X12_177 ob_R_0 rfl ?_
  refine sim_nmM (fun M1 => ?_)
  refine sim_aload_n 0 d_X12_workAt_5 rfl rfl ?_
  refine sim_iload_n 1 d_X12_workAt_6 rfl rfl ?_
  refine sim_iload_n 2 d_X12_workAt_7 rfl rfl ?_
  refine sim_callVi Y_X12_wrongWork 1 [.int (a1), .int (a2)] [] d_X12_workAt_8 lk_X12_375 cv_X12_wrongWork ob_R_0 rfl (by omega) (Nat.le_of_ble_eq_true rfl) (ct_X12_wrongWork a1 a2 M1) (fun r1 M2 => ?_)
  refine sim_if_ge d_X12_workAt_11 ?_ ?_
  ·
    refine sim_aload_n 0 d_X12_workAt_25 rfl rfl ?_
    refine sim_iload_n 1 d_X12_workAt_26 rfl rfl ?_
    refine sim_iload_n 2 d_X12_workAt_27 rfl rfl ?_
    refine sim_callVv Y_X12_findWork 2 [.int (a1), .int (a2)] [] d_X12_workAt_28 lk_X12_378 cv_X12_findWork ob_R_0 rfl (by omega) (Nat.le_of_ble_eq_true rfl) (ct_X12_findWork a1 a2 M2) (fun M3 => ?_)
    refine sim_aload_n 0 d_X12_workAt_31 rfl rfl ?_
    refine sim_geti d_X12_workAt_32 fl_X12_363 ob_R_0 rfl ?_
    refine sim_if_ge d_X12_workAt_35 ?_ ?_
    ·
      refine sim_iload_n 3 d_X12_workAt_42 rfl rfl ?_
      refine sim_if_eq d_X12_workAt_43 ?_ ?_
      ·
        refine sim_iconst (1 : Int32) d_X12_workAt_53 rfl ?_
        refine sim_aload_n 0 d_X12_workAt_54 rfl rfl ?_
        refine sim_geti d_X12_workAt_55 fl_X12_348 ob_R_0 rfl ?_
        refine sim_ishl d_X12_workAt_58 ?_
        refine sim_iconst (1 : Int32) d_X12_workAt_59 rfl ?_
        refine sim_isub d_X12_workAt_60 ?_
        refine sim_aload_n 0 d_X12_workAt_61 rfl rfl ?_
        refine sim_geti d_X12_workAt_62 fl_X12_363 ob_R_0 rfl ?_
        refine sim_iconst (-1 : Int32) d_X12_workAt_65 rfl ?_
        refine sim_ixor d_X12_workAt_66 ?_
        refine sim_iand d_X12_workAt_67 ?_
        exact sim_sub [0, 4] rfl (s_X12_workAt_68 a4 ((((1 : Int32) <<< ((mI M3 0 62) &&& 31)) - (1 : Int32)) &&& ((mI M3 0 65) ^^^ (-1 : Int32))) M3)
      ·
        refine sim_aload_n 0 d_X12_workAt_46 rfl rfl ?_
        refine sim_geti d_X12_workAt_47 fl_X12_363 ob_R_0 rfl ?_
        refine sim_goto d_X12_workAt_50 ?_
        exact sim_sub [0, 4] rfl (s_X12_workAt_68 a4 (mI M3 0 65) M3)
    ·
      refine sim_iconst (0 : Int32) d_X12_workAt_38 rfl ?_
      refine sim_goto d_X12_workAt_39 ?_
      exact sim_sub [0, 4] rfl (s_X12_workAt_68 a4 (0 : Int32) M3)
  ·
    refine sim_aload_n 0 d_X12_workAt_14 rfl rfl ?_
    refine sim_aload_n 0 d_X12_workAt_15 rfl rfl ?_
    refine sim_iload_n 1 d_X12_workAt_16 rfl rfl ?_
    refine sim_iload_n 2 d_X12_workAt_17 rfl rfl ?_
    refine sim_callVi Y_X12_wrongWork 1 [.int (a1), .int (a2)] [.ref 0] d_X12_workAt_18 lk_X12_375 cv_X12_wrongWork ob_R_0 rfl (by omega) (Nat.le_of_ble_eq_true rfl) (ct_X12_wrongWork a1 a2 M2) (fun r2 M4 => ?_)
    refine sim_callVi Y_X12_refuse 0 [.int (r2)] [] d_X12_workAt_21 lk_X12_187 cv_X12_refuse ob_R_0 rfl (by omega) (Nat.le_of_ble_eq_true rfl) (ct_X12_refuse r2 M4) (fun r3 M5 => ?_)
    exact sim_iret d_X12_workAt_24 rfl
theorem ct_X12_workAt (a1 : Int32) (a2 : Int32) (a3 : Int32) (a4 : Int32) (M : mm_M) : Ct sysR Y_X12_workAt 3 [.ref 0, .int (a1), .int (a2), .int (a3), .int (a4)] M mm_fI (f_X12_workAt a1 a2 a3 a4 M) :=
  ct_of_sim (by decide) rfl (Nat.le_of_ble_eq_true rfl) (s_X12_workAt a1 a2 a3 a4 M)
def f_X12_letters_69 (k48 : Int32 → Int32 → Int32 → mm_M → Option (Int32 × mm_M)) (x1 : Int32) (x3 : Int32) (t0 : Int32) (t1 : Int32) (M : mm_M) : Option (Int32 × mm_M) :=
  mm_let (t0 + t1) (fun v1 =>
  k48 x1 v1 (x3 + (1 : Int32)) M)
theorem s_X12_letters_69 (k48 : Int32 → Int32 → Int32 → mm_M → Option (Int32 × mm_M)) (hk48 : ∀ (x1 : Int32) (x2 : Int32) (x3 : Int32) (M : mm_M), Sim sysR Y_X12_letters 1 48 [(0, .ref 0), (1, .int (x1)), (2, .int (x2)), (3, .int (x3))] [] M mm_fI (k48 x1 x2 x3 M)) (x1 : Int32) (x3 : Int32) (t0 : Int32) (t1 : Int32) (M : mm_M) : Sim sysR Y_X12_letters 1 69 [(0, .ref 0), (1, .int (x1)), (3, .int (x3))] [.int (t1), .int (t0)] M mm_fI (f_X12_letters_69 k48 x1 x3 t0 t1 M) := by
  unfold f_X12_letters_69
  refine sim_iadd d_X12_letters_69 ?_
  refine sim_nmi (fun v1 => ?_)
  refine sim_istore_n (L' := [(0, .ref 0), (1, .int (x1)), (3, .int (x3)), (2, .int (v1))]) d_X12_letters_70 rfl (Nat.le_of_ble_eq_true rfl) rfl ?_
  refine sim_iinc (v := x3 + (1 : Int32)) (L' := [(0, .ref 0), (1, .int (x1)), (2, .int (v1)), (3, .int (x3 + (1 : Int32)))]) 2 d_X12_letters_71 (Nat.le_of_ble_eq_true rfl) rfl rfl rfl ?_
  refine sim_goto d_X12_letters_74 ?_
  exact sim_sub [0, 1, 2, 3] rfl (hk48 x1 v1 (x3 + (1 : Int32)) M)
def f_X12_letters_48 (k77 : Int32 → Int32 → mm_M → Option (Int32 × mm_M)) : Nat → Int32 → Int32 → Int32 → mm_M → Option (Int32 × mm_M)
  | 0, _, _, _, _ => none
  | n + 1, x1, x2, x3, M =>
  if (40 : Int32) ≤ x3 then
    k77 x1 x2 M
  else
    mm_ck x3 40 (
    if (mI M 15 x3.toNatClampNeg) = 0 then
      f_X12_letters_69 (f_X12_letters_48 k77 n) x1 x3 x2 (0 : Int32) M
    else
      f_X12_letters_69 (f_X12_letters_48 k77 n) x1 x3 x2 (1 : Int32) M)
theorem s_X12_letters_48 (k77 : Int32 → Int32 → mm_M → Option (Int32 × mm_M)) (hk77 : ∀ (x1 : Int32) (x2 : Int32) (M : mm_M), Sim sysR Y_X12_letters 1 77 [(0, .ref 0), (1, .int (x1)), (2, .int (x2))] [] M mm_fI (k77 x1 x2 M)) (n : Nat) : ∀ (x1 : Int32) (x2 : Int32) (x3 : Int32) (M : mm_M), Sim sysR Y_X12_letters 1 48 [(0, .ref 0), (1, .int (x1)), (2, .int (x2)), (3, .int (x3))] [] M mm_fI (f_X12_letters_48 k77 n x1 x2 x3 M) := by
  induction n with
  | zero => intros; exact sim_none
  | succ n ih =>
    intro x1 x2 x3 M
    rw [f_X12_letters_48]
    refine sim_iload_n 3 d_X12_letters_48 rfl rfl ?_
    refine sim_bipush (40 : Int32) d_X12_letters_49 rfl ?_
    refine sim_icmp_ge d_X12_letters_51 ?_ ?_
    ·
      exact sim_sub [0, 1, 2] rfl (hk77 x1 x2 M)
    ·
      refine sim_iload_n 2 d_X12_letters_54 rfl rfl ?_
      refine sim_aload_n 0 d_X12_letters_55 rfl rfl ?_
      refine sim_geta d_X12_letters_56 fl_X12_53 ob_R_0 rfl ?_
      refine sim_iload_n 3 d_X12_letters_59 rfl rfl ?_
      refine sim_zald d_X12_letters_60 ar_R_15 ?_
      refine sim_if_eq d_X12_letters_61 ?_ ?_
      ·
        refine sim_iconst (0 : Int32) d_X12_letters_68 rfl ?_
        exact sim_sub [0, 1, 3] rfl (s_X12_letters_69 (f_X12_letters_48 k77 n) ih x1 x3 x2 (0 : Int32) M)
      ·
        refine sim_iconst (1 : Int32) d_X12_letters_64 rfl ?_
        refine sim_goto d_X12_letters_65 ?_
        exact sim_sub [0, 1, 3] rfl (s_X12_letters_69 (f_X12_letters_48 k77 n) ih x1 x3 x2 (1 : Int32) M)
def f_X12_letters_169 (k94 : Int32 → Int32 → Int32 → Int32 → Int32 → mm_M → Option (Int32 × mm_M)) (x2 : Int32) (x3 : Int32) (x4 : Int32) (x5 : Int32) (x6 : Int32) (M : mm_M) : Option (Int32 × mm_M) :=
  k94 x2 x3 x4 x5 (x6 + (1 : Int32)) M
theorem s_X12_letters_169 (k94 : Int32 → Int32 → Int32 → Int32 → Int32 → mm_M → Option (Int32 × mm_M)) (hk94 : ∀ (x2 : Int32) (x3 : Int32) (x4 : Int32) (x5 : Int32) (x6 : Int32) (M : mm_M), Sim sysR Y_X12_letters 1 94 [(0, .ref 0), (2, .int (x2)), (3, .int (x3)), (4, .int (x4)), (5, .int (x5)), (6, .int (x6))] [] M mm_fI (k94 x2 x3 x4 x5 x6 M)) (x2 : Int32) (x3 : Int32) (x4 : Int32) (x5 : Int32) (x6 : Int32) (M : mm_M) : Sim sysR Y_X12_letters 1 169 [(0, .ref 0), (2, .int (x2)), (3, .int (x3)), (4, .int (x4)), (5, .int (x5)), (6, .int (x6))] [] M mm_fI (f_X12_letters_169 k94 x2 x3 x4 x5 x6 M) := by
  unfold f_X12_letters_169
  refine sim_iinc (v := x6 + (1 : Int32)) (L' := [(0, .ref 0), (2, .int (x2)), (3, .int (x3)), (4, .int (x4)), (5, .int (x5)), (6, .int (x6 + (1 : Int32)))]) 5 d_X12_letters_169 (Nat.le_of_ble_eq_true rfl) rfl rfl rfl ?_
  refine sim_goto d_X12_letters_172 ?_
  exact sim_sub [0, 1, 2, 3, 4, 5] rfl (hk94 x2 x3 x4 x5 (x6 + (1 : Int32)) M)
def f_X12_letters_163 (k94 : Int32 → Int32 → Int32 → Int32 → Int32 → mm_M → Option (Int32 × mm_M)) (x2 : Int32) (x3 : Int32) (x5 : Int32) (x6 : Int32) (t0 : Int32) (t1 : Int32) (M : mm_M) : Option (Int32 × mm_M) :=
  mm_let (t0 - t1) (fun v1 =>
  f_X12_letters_169 k94 x2 x3 v1 (x5 + (-1 : Int32)) x6 M)
theorem s_X12_letters_163 (k94 : Int32 → Int32 → Int32 → Int32 → Int32 → mm_M → Option (Int32 × mm_M)) (hk94 : ∀ (x2 : Int32) (x3 : Int32) (x4 : Int32) (x5 : Int32) (x6 : Int32) (M : mm_M), Sim sysR Y_X12_letters 1 94 [(0, .ref 0), (2, .int (x2)), (3, .int (x3)), (4, .int (x4)), (5, .int (x5)), (6, .int (x6))] [] M mm_fI (k94 x2 x3 x4 x5 x6 M)) (x2 : Int32) (x3 : Int32) (x5 : Int32) (x6 : Int32) (t0 : Int32) (t1 : Int32) (M : mm_M) : Sim sysR Y_X12_letters 1 163 [(0, .ref 0), (2, .int (x2)), (3, .int (x3)), (5, .int (x5)), (6, .int (x6))] [.int (t1), .int (t0)] M mm_fI (f_X12_letters_163 k94 x2 x3 x5 x6 t0 t1 M) := by
  unfold f_X12_letters_163
  refine sim_isub d_X12_letters_163 ?_
  refine sim_nmi (fun v1 => ?_)
  refine sim_istore (L' := [(0, .ref 0), (2, .int (x2)), (3, .int (x3)), (5, .int (x5)), (6, .int (x6)), (4, .int (v1))]) d_X12_letters_164 (Nat.le_of_ble_eq_true rfl) rfl ?_
  refine sim_iinc (v := x5 + (-1 : Int32)) (L' := [(0, .ref 0), (2, .int (x2)), (3, .int (x3)), (6, .int (x6)), (4, .int (v1)), (5, .int (x5 + (-1 : Int32)))]) 3 d_X12_letters_166 (Nat.le_of_ble_eq_true rfl) rfl rfl rfl ?_
  exact sim_sub [0, 1, 2, 4, 5, 3] rfl (s_X12_letters_169 k94 hk94 x2 x3 v1 (x5 + (-1 : Int32)) x6 M)
def f_X12_letters_145 (k94 : Int32 → Int32 → Int32 → Int32 → Int32 → mm_M → Option (Int32 × mm_M)) (x2 : Int32) (x3 : Int32) (x4 : Int32) (x5 : Int32) (x6 : Int32) (t1 : Int32) (t2 : Int32) (M : mm_M) : Option (Int32 × mm_M) :=
  mm_ck t1 40 (
  mm_let (sI M 47 t1.toNatClampNeg (t2 &&& 1)) (fun M1 =>
  mm_ck x6 40 (
  if (mI M1 47 x6.toNatClampNeg) = 0 then
    f_X12_letters_163 k94 x2 x3 x5 x6 x4 (0 : Int32) M1
  else
    f_X12_letters_163 k94 x2 x3 x5 x6 x4 (1 : Int32) M1)))
theorem s_X12_letters_145 (k94 : Int32 → Int32 → Int32 → Int32 → Int32 → mm_M → Option (Int32 × mm_M)) (hk94 : ∀ (x2 : Int32) (x3 : Int32) (x4 : Int32) (x5 : Int32) (x6 : Int32) (M : mm_M), Sim sysR Y_X12_letters 1 94 [(0, .ref 0), (2, .int (x2)), (3, .int (x3)), (4, .int (x4)), (5, .int (x5)), (6, .int (x6))] [] M mm_fI (k94 x2 x3 x4 x5 x6 M)) (x2 : Int32) (x3 : Int32) (x4 : Int32) (x5 : Int32) (x6 : Int32) (t1 : Int32) (t2 : Int32) (M : mm_M) : Sim sysR Y_X12_letters 1 145 [(0, .ref 0), (2, .int (x2)), (3, .int (x3)), (4, .int (x4)), (5, .int (x5)), (6, .int (x6))] [.int (t2), .int (t1), .ref 47] M mm_fI (f_X12_letters_145 k94 x2 x3 x4 x5 x6 t1 t2 M) := by
  unfold f_X12_letters_145
  refine sim_zast d_X12_letters_145 ar_R_47 ?_
  refine sim_nmM (fun M1 => ?_)
  refine sim_iload 3 d_X12_letters_146 rfl ?_
  refine sim_aload_n 0 d_X12_letters_148 rfl rfl ?_
  refine sim_geta d_X12_letters_149 fl_X12_153 ob_R_0 rfl ?_
  refine sim_iload 5 d_X12_letters_152 rfl ?_
  refine sim_zald d_X12_letters_154 ar_R_47 ?_
  refine sim_if_eq d_X12_letters_155 ?_ ?_
  ·
    refine sim_iconst (0 : Int32) d_X12_letters_162 rfl ?_
    exact sim_sub [0, 1, 2, 4, 5] rfl (s_X12_letters_163 k94 hk94 x2 x3 x5 x6 x4 (0 : Int32) M1)
  ·
    refine sim_iconst (1 : Int32) d_X12_letters_158 rfl ?_
    refine sim_goto d_X12_letters_159 ?_
    exact sim_sub [0, 1, 2, 4, 5] rfl (s_X12_letters_163 k94 hk94 x2 x3 x5 x6 x4 (1 : Int32) M1)
def f_X12_letters_94 : Nat → Int32 → Int32 → Int32 → Int32 → Int32 → mm_M → Option (Int32 × mm_M)
  | 0, _, _, _, _, _, _ => none
  | n + 1, x2, x3, x4, x5, x6, M =>
  if (40 : Int32) ≤ x6 then
    some (x2 / (2 : Int32), M)
  else
    mm_ck x6 40 (
    if (mI M 15 x6.toNatClampNeg) = 0 then
      f_X12_letters_169 (f_X12_letters_94 n) x2 x3 x4 x5 x6 M
    else
      mm_let (((x3 * (171 : Int32)) + (11213 : Int32)) - ((x3 * (171 : Int32)) + (11213 : Int32)) / (53125 : Int32) * (53125 : Int32)) (fun v1 =>
      mm_nz x5 (
      if x4 ≤ (v1 - v1 / x5 * x5) then
        f_X12_letters_145 (f_X12_letters_94 n) x2 v1 x4 x5 x6 x6 (0 : Int32) M
      else
        f_X12_letters_145 (f_X12_letters_94 n) x2 v1 x4 x5 x6 x6 (1 : Int32) M)))
theorem s_X12_letters_94 (n : Nat) : ∀ (x2 : Int32) (x3 : Int32) (x4 : Int32) (x5 : Int32) (x6 : Int32) (M : mm_M), Sim sysR Y_X12_letters 1 94 [(0, .ref 0), (2, .int (x2)), (3, .int (x3)), (4, .int (x4)), (5, .int (x5)), (6, .int (x6))] [] M mm_fI (f_X12_letters_94 n x2 x3 x4 x5 x6 M) := by
  induction n with
  | zero => intros; exact sim_none
  | succ n ih =>
    intro x2 x3 x4 x5 x6 M
    rw [f_X12_letters_94]
    refine sim_iload 5 d_X12_letters_94 rfl ?_
    refine sim_bipush (40 : Int32) d_X12_letters_96 rfl ?_
    refine sim_icmp_ge d_X12_letters_98 ?_ ?_
    ·
      refine sim_iload_n 1 d_X12_letters_175 rfl rfl ?_
      refine sim_iconst (2 : Int32) d_X12_letters_176 rfl ?_
      refine sim_idivc d_X12_letters_177 (by decide) ?_
      exact sim_iret d_X12_letters_178 rfl
    ·
      refine sim_aload_n 0 d_X12_letters_101 rfl rfl ?_
      refine sim_geta d_X12_letters_102 fl_X12_53 ob_R_0 rfl ?_
      refine sim_iload 5 d_X12_letters_105 rfl ?_
      refine sim_zald d_X12_letters_107 ar_R_15 ?_
      refine sim_if_eq d_X12_letters_108 ?_ ?_
      ·
        exact sim_sub [0, 1, 2, 3, 4, 5] rfl (s_X12_letters_169 (f_X12_letters_94 n) ih x2 x3 x4 x5 x6 M)
      ·
        refine sim_iload_n 2 d_X12_letters_111 rfl rfl ?_
        refine sim_sipush (171 : Int32) d_X12_letters_112 rfl ?_
        refine sim_imul d_X12_letters_115 ?_
        refine sim_sipush (11213 : Int32) d_X12_letters_116 rfl ?_
        refine sim_iadd d_X12_letters_119 ?_
        refine sim_ldcw (53125 : Int32) d_X12_letters_120 kn_X12_382 ?_
        refine sim_iremc d_X12_letters_123 (by decide) ?_
        refine sim_nmi (fun v1 => ?_)
        refine sim_istore_n (L' := [(0, .ref 0), (2, .int (x2)), (4, .int (x4)), (5, .int (x5)), (6, .int (x6)), (3, .int (v1))]) d_X12_letters_124 rfl (Nat.le_of_ble_eq_true rfl) rfl ?_
        refine sim_aload_n 0 d_X12_letters_125 rfl rfl ?_
        refine sim_geta d_X12_letters_126 fl_X12_153 ob_R_0 rfl ?_
        refine sim_iload 4 d_X12_letters_129 rfl ?_
        refine sim_iload_n 5 d_X12_letters_131 rfl rfl ?_
        refine sim_iload 3 d_X12_letters_132 rfl ?_
        refine sim_irem d_X12_letters_134 ?_
        refine sim_iload 2 d_X12_letters_135 rfl ?_
        refine sim_icmp_ge d_X12_letters_137 ?_ ?_
        ·
          refine sim_iconst (0 : Int32) d_X12_letters_144 rfl ?_
          exact sim_sub [0, 1, 5, 2, 3, 4] rfl (s_X12_letters_145 (f_X12_letters_94 n) ih x2 v1 x4 x5 x6 x6 (0 : Int32) M)
        ·
          refine sim_iconst (1 : Int32) d_X12_letters_140 rfl ?_
          refine sim_goto d_X12_letters_141 ?_
          exact sim_sub [0, 1, 5, 2, 3, 4] rfl (s_X12_letters_145 (f_X12_letters_94 n) ih x2 v1 x4 x5 x6 x6 (1 : Int32) M)
def f_X12_letters_77 (x1 : Int32) (x2 : Int32) (M : mm_M) : Option (Int32 × mm_M) :=
  mm_bv (f_X12_noLetters M) (fun M1 =>
  mm_let (x2 / (2 : Int32)) (fun v1 =>
  f_X12_letters_94 mm_fu x2 x1 v1 x2 (0 : Int32) M1))
theorem s_X12_letters_77 (x1 : Int32) (x2 : Int32) (M : mm_M) : Sim sysR Y_X12_letters 1 77 [(0, .ref 0), (1, .int (x1)), (2, .int (x2))] [] M mm_fI (f_X12_letters_77 x1 x2 M) := by
  unfold f_X12_letters_77
  refine sim_aload_n 0 d_X12_letters_77 rfl rfl ?_
  refine sim_callVv Y_X12_noLetters 0 [] [] d_X12_letters_78 lk_X12_226 cv_X12_noLetters ob_R_0 rfl (by omega) (Nat.le_of_ble_eq_true rfl) (ct_X12_noLetters M) (fun M1 => ?_)
  refine sim_iload_n 1 d_X12_letters_81 rfl rfl ?_
  refine sim_istore_n (L' := [(0, .ref 0), (1, .int (x1)), (2, .int (x2)), (3, .int (x1))]) d_X12_letters_82 rfl (Nat.le_of_ble_eq_true rfl) rfl ?_
  refine sim_iload_n 2 d_X12_letters_83 rfl rfl ?_
  refine sim_iconst (2 : Int32) d_X12_letters_84 rfl ?_
  refine sim_idivc d_X12_letters_85 (by decide) ?_
  refine sim_nmi (fun v1 => ?_)
  refine sim_istore (L' := [(0, .ref 0), (1, .int (x1)), (2, .int (x2)), (3, .int (x1)), (4, .int (v1))]) d_X12_letters_86 (Nat.le_of_ble_eq_true rfl) rfl ?_
  refine sim_iload_n 2 d_X12_letters_88 rfl rfl ?_
  refine sim_istore (L' := [(0, .ref 0), (1, .int (x1)), (2, .int (x2)), (3, .int (x1)), (4, .int (v1)), (5, .int (x2))]) d_X12_letters_89 (Nat.le_of_ble_eq_true rfl) rfl ?_
  refine sim_iconst (0 : Int32) d_X12_letters_91 rfl ?_
  refine sim_istore (L' := [(0, .ref 0), (1, .int (x1)), (2, .int (x2)), (3, .int (x1)), (4, .int (v1)), (5, .int (x2)), (6, .int ((0 : Int32)))]) d_X12_letters_92 (Nat.le_of_ble_eq_true rfl) rfl ?_
  exact sim_sub [0, 2, 3, 4, 5, 6] rfl (s_X12_letters_94 mm_fu x2 x1 v1 x2 (0 : Int32) M1)
def f_X12_letters (a1 : Int32) (M : mm_M) : Option (Int32 × mm_M) :=
  mm_let (sI M 0 0 (0 : Int32)) (fun M1 =>
  if (mI M1 0 17) = 0 then
    mm_bi (f_X12_refuse (-5 : Int32) M1) (fun r3 M4 =>
    some (r3, M4))
  else
    if 0 ≤ a1 then
      if a1 ≤ (99999 : Int32) then
        f_X12_letters_48 f_X12_letters_77 mm_fu a1 (0 : Int32) (0 : Int32) M1
      else
        mm_bi (f_X12_refuse (-6 : Int32) M1) (fun r1 M2 =>
        some (r1, M2))
    else
      mm_bi (f_X12_refuse (-4 : Int32) M1) (fun r2 M3 =>
      some (r2, M3)))
theorem s_X12_letters (a1 : Int32) (M : mm_M) : Sim sysR Y_X12_letters 1 0 [(0, .ref 0), (1, .int (a1))] [] M mm_fI (f_X12_letters a1 M) := by
  unfold f_X12_letters
  refine sim_aload_n 0 d_X12_letters_0 rfl rfl ?_
  refine sim_iconst (0 : Int32) d_X12_letters_1 rfl ?_
  refine sim_puti d_X12_letters_2 fl_X12_177 ob_R_0 rfl ?_
  refine sim_nmM (fun M1 => ?_)
  refine sim_aload_n 0 d_X12_letters_5 rfl rfl ?_
  refine sim_getz d_X12_letters_6 fl_X12_222 ob_R_0 rfl ?_
  refine sim_if_ne d_X12_letters_9 ?_ ?_
  ·
    refine sim_iload_n 1 d_X12_letters_19 rfl rfl ?_
    refine sim_if_ge d_X12_letters_20 ?_ ?_
    ·
      refine sim_iload_n 1 d_X12_letters_30 rfl rfl ?_
      refine sim_ldcw (99999 : Int32) d_X12_letters_31 kn_X12_381 ?_
      refine sim_icmp_le d_X12_letters_34 ?_ ?_
      ·
        refine sim_iconst (0 : Int32) d_X12_letters_44 rfl ?_
        refine sim_istore_n (L' := [(0, .ref 0), (1, .int (a1)), (2, .int ((0 : Int32)))]) d_X12_letters_45 rfl (Nat.le_of_ble_eq_true rfl) rfl ?_
        refine sim_iconst (0 : Int32) d_X12_letters_46 rfl ?_
        refine sim_istore_n (L' := [(0, .ref 0), (1, .int (a1)), (2, .int ((0 : Int32))), (3, .int ((0 : Int32)))]) d_X12_letters_47 rfl (Nat.le_of_ble_eq_true rfl) rfl ?_
        exact sim_sub [0, 1, 2, 3] rfl (s_X12_letters_48 f_X12_letters_77 s_X12_letters_77 mm_fu a1 (0 : Int32) (0 : Int32) M1)
      ·
        refine sim_aload_n 0 d_X12_letters_37 rfl rfl ?_
        refine sim_bipush (-6 : Int32) d_X12_letters_38 rfl ?_
        refine sim_callVi Y_X12_refuse 0 [.int ((-6 : Int32))] [] d_X12_letters_40 lk_X12_187 cv_X12_refuse ob_R_0 rfl (by omega) (Nat.le_of_ble_eq_true rfl) (ct_X12_refuse (-6 : Int32) M1) (fun r1 M2 => ?_)
        exact sim_iret d_X12_letters_43 rfl
    ·
      refine sim_aload_n 0 d_X12_letters_23 rfl rfl ?_
      refine sim_bipush (-4 : Int32) d_X12_letters_24 rfl ?_
      refine sim_callVi Y_X12_refuse 0 [.int ((-4 : Int32))] [] d_X12_letters_26 lk_X12_187 cv_X12_refuse ob_R_0 rfl (by omega) (Nat.le_of_ble_eq_true rfl) (ct_X12_refuse (-4 : Int32) M1) (fun r2 M3 => ?_)
      exact sim_iret d_X12_letters_29 rfl
  ·
    refine sim_aload_n 0 d_X12_letters_12 rfl rfl ?_
    refine sim_bipush (-5 : Int32) d_X12_letters_13 rfl ?_
    refine sim_callVi Y_X12_refuse 0 [.int ((-5 : Int32))] [] d_X12_letters_15 lk_X12_187 cv_X12_refuse ob_R_0 rfl (by omega) (Nat.le_of_ble_eq_true rfl) (ct_X12_refuse (-5 : Int32) M1) (fun r3 M4 => ?_)
    exact sim_iret d_X12_letters_18 rfl
theorem ct_X12_letters (a1 : Int32) (M : mm_M) : Ct sysR Y_X12_letters 1 [.ref 0, .int (a1)] M mm_fI (f_X12_letters a1 M) :=
  ct_of_sim (by decide) rfl (Nat.le_of_ble_eq_true rfl) (s_X12_letters a1 M)
def f_X12_letter (a1 : Int32) (M : mm_M) : Option (Int32 × mm_M) :=
  mm_let (sI M 0 0 (0 : Int32)) (fun M1 =>
  mm_bi (f_X12_isShop a1 M1) (fun r1 M2 =>
  if r1 = 0 then
    mm_bi (f_X12_refuse (-1 : Int32) M2) (fun r2 M3 =>
    some (r2, M3))
  else
    mm_ck a1 40 (
    if (mI M2 47 a1.toNatClampNeg) = 0 then
      some ((0 : Int32), M2)
    else
      some ((1 : Int32), M2))))
theorem s_X12_letter (a1 : Int32) (M : mm_M) : Sim sysR Y_X12_letter 2 0 [(0, .ref 0), (1, .int (a1))] [] M mm_fI (f_X12_letter a1 M) := by
  unfold f_X12_letter
  refine sim_aload_n 0 d_X12_letter_0 rfl rfl ?_
  refine sim_iconst (0 : Int32) d_X12_letter_1 rfl ?_
  refine sim_puti d_X12_letter_2 fl_X12_177 ob_R_0 rfl ?_
  refine sim_nmM (fun M1 => ?_)
  refine sim_aload_n 0 d_X12_letter_5 rfl rfl ?_
  refine sim_iload_n 1 d_X12_letter_6 rfl rfl ?_
  refine sim_callVi Y_X12_isShop 1 [.int (a1)] [] d_X12_letter_7 lk_X12_194 cv_X12_isShop ob_R_0 rfl (by omega) (Nat.le_of_ble_eq_true rfl) (ct_X12_isShop a1 M1) (fun r1 M2 => ?_)
  refine sim_if_eq d_X12_letter_10 ?_ ?_
  ·
    refine sim_aload_n 0 d_X12_letter_30 rfl rfl ?_
    refine sim_iconst (-1 : Int32) d_X12_letter_31 rfl ?_
    refine sim_callVi Y_X12_refuse 0 [.int ((-1 : Int32))] [] d_X12_letter_32 lk_X12_187 cv_X12_refuse ob_R_0 rfl (by omega) (Nat.le_of_ble_eq_true rfl) (ct_X12_refuse (-1 : Int32) M2) (fun r2 M3 => ?_)
    exact sim_iret d_X12_letter_35 rfl
  ·
    refine sim_aload_n 0 d_X12_letter_13 rfl rfl ?_
    refine sim_geta d_X12_letter_14 fl_X12_153 ob_R_0 rfl ?_
    refine sim_iload_n 1 d_X12_letter_17 rfl rfl ?_
    refine sim_zald d_X12_letter_18 ar_R_47 ?_
    refine sim_if_eq d_X12_letter_19 ?_ ?_
    ·
      refine sim_iconst (0 : Int32) d_X12_letter_26 rfl ?_
      refine sim_goto d_X12_letter_27 ?_
      exact sim_iret d_X12_letter_35 rfl
    ·
      refine sim_iconst (1 : Int32) d_X12_letter_22 rfl ?_
      refine sim_goto d_X12_letter_23 ?_
      exact sim_iret d_X12_letter_35 rfl
theorem ct_X12_letter (a1 : Int32) (M : mm_M) : Ct sysR Y_X12_letter 2 [.ref 0, .int (a1)] M mm_fI (f_X12_letter a1 M) :=
  ct_of_sim (by decide) rfl (Nat.le_of_ble_eq_true rfl) (s_X12_letter a1 M)
def f_X12_countIn_75 (k3 : Int32 → Int32 → Int32 → Int32 → mm_M → Option (mm_M)) (x1 : Int32) (x2 : Int32) (x3 : Int32) (x4 : Int32) (M : mm_M) : Option (mm_M) :=
  k3 x1 x2 x3 (x4 + (1 : Int32)) M
theorem s_X12_countIn_75 (k3 : Int32 → Int32 → Int32 → Int32 → mm_M → Option (mm_M)) (hk3 : ∀ (x1 : Int32) (x2 : Int32) (x3 : Int32) (x4 : Int32) (M : mm_M), Sim sysR Y_X12_countIn 0 3 [(0, .ref 0), (1, .int (x1)), (2, .int (x2)), (3, .int (x3)), (4, .int (x4))] [] M mm_fV (k3 x1 x2 x3 x4 M)) (x1 : Int32) (x2 : Int32) (x3 : Int32) (x4 : Int32) (M : mm_M) : Sim sysR Y_X12_countIn 0 75 [(0, .ref 0), (1, .int (x1)), (2, .int (x2)), (3, .int (x3)), (4, .int (x4))] [] M mm_fV (f_X12_countIn_75 k3 x1 x2 x3 x4 M) := by
  unfold f_X12_countIn_75
  refine sim_iinc (v := x4 + (1 : Int32)) (L' := [(0, .ref 0), (1, .int (x1)), (2, .int (x2)), (3, .int (x3)), (4, .int (x4 + (1 : Int32)))]) 4 d_X12_countIn_75 (Nat.le_of_ble_eq_true rfl) rfl rfl rfl ?_
  refine sim_goto d_X12_countIn_78 ?_
  exact sim_sub [0, 1, 2, 3, 4] rfl (hk3 x1 x2 x3 (x4 + (1 : Int32)) M)
def f_X12_countIn_3 (k44 : Int32 → Int32 → mm_M → Option (mm_M)) : Nat → Int32 → Int32 → Int32 → Int32 → mm_M → Option (mm_M)
  | 0, _, _, _, _, _ => none
  | n + 1, x1, x2, x3, x4, M =>
  if (mI M 0 43) ≤ x4 then
    some M
  else
    mm_ck x4 100 (
    if (mI M 36 x4.toNatClampNeg) = 0 then
      f_X12_countIn_75 (f_X12_countIn_3 k44 n) x1 x2 x3 x4 M
    else
      mm_ck x4 100 (
      if (mI M 28 x4.toNatClampNeg) = x1 then
        mm_ck x4 100 (
        if (mI M 30 x4.toNatClampNeg) < x3 then
          f_X12_countIn_75 (f_X12_countIn_3 k44 n) x1 x2 x3 x4 M
        else
          k44 x2 x4 M)
      else
        f_X12_countIn_75 (f_X12_countIn_3 k44 n) x1 x2 x3 x4 M))
theorem s_X12_countIn_3 (k44 : Int32 → Int32 → mm_M → Option (mm_M)) (hk44 : ∀ (x2 : Int32) (x4 : Int32) (M : mm_M), Sim sysR Y_X12_countIn 0 44 [(0, .ref 0), (2, .int (x2)), (4, .int (x4))] [] M mm_fV (k44 x2 x4 M)) (n : Nat) : ∀ (x1 : Int32) (x2 : Int32) (x3 : Int32) (x4 : Int32) (M : mm_M), Sim sysR Y_X12_countIn 0 3 [(0, .ref 0), (1, .int (x1)), (2, .int (x2)), (3, .int (x3)), (4, .int (x4))] [] M mm_fV (f_X12_countIn_3 k44 n x1 x2 x3 x4 M) := by
  induction n with
  | zero => intros; exact sim_none
  | succ n ih =>
    intro x1 x2 x3 x4 M
    rw [f_X12_countIn_3]
    refine sim_iload 4 d_X12_countIn_3 rfl ?_
    refine sim_aload_n 0 d_X12_countIn_5 rfl rfl ?_
    refine sim_geti d_X12_countIn_6 fl_X12_249 ob_R_0 rfl ?_
    refine sim_icmp_ge d_X12_countIn_9 ?_ ?_
    ·
      exact sim_vret d_X12_countIn_81 rfl
    ·
      refine sim_aload_n 0 d_X12_countIn_12 rfl rfl ?_
      refine sim_geta d_X12_countIn_13 fl_X12_116 ob_R_0 rfl ?_
      refine sim_iload 4 d_X12_countIn_16 rfl ?_
      refine sim_zald d_X12_countIn_18 ar_R_36 ?_
      refine sim_if_eq d_X12_countIn_19 ?_ ?_
      ·
        exact sim_sub [0, 1, 2, 3, 4] rfl (s_X12_countIn_75 (f_X12_countIn_3 k44 n) ih x1 x2 x3 x4 M)
      ·
        refine sim_aload_n 0 d_X12_countIn_22 rfl rfl ?_
        refine sim_geta d_X12_countIn_23 fl_X12_92 ob_R_0 rfl ?_
        refine sim_iload 4 d_X12_countIn_26 rfl ?_
        refine sim_iald d_X12_countIn_28 ar_R_28 ?_
        refine sim_iload_n 1 d_X12_countIn_29 rfl rfl ?_
        refine sim_icmp_ne d_X12_countIn_30 ?_ ?_
        ·
          exact sim_sub [0, 1, 2, 3, 4] rfl (s_X12_countIn_75 (f_X12_countIn_3 k44 n) ih x1 x2 x3 x4 M)
        ·
          refine sim_aload_n 0 d_X12_countIn_33 rfl rfl ?_
          refine sim_geta d_X12_countIn_34 fl_X12_98 ob_R_0 rfl ?_
          refine sim_iload 4 d_X12_countIn_37 rfl ?_
          refine sim_iald d_X12_countIn_39 ar_R_30 ?_
          refine sim_iload_n 3 d_X12_countIn_40 rfl rfl ?_
          refine sim_icmp_lt d_X12_countIn_41 ?_ ?_
          ·
            exact sim_sub [0, 1, 2, 3, 4] rfl (s_X12_countIn_75 (f_X12_countIn_3 k44 n) ih x1 x2 x3 x4 M)
          ·
            exact sim_sub [0, 2, 4] rfl (hk44 x2 x4 M)
def f_X12_countIn_44 (x2 : Int32) (x4 : Int32) (M : mm_M) : Option (mm_M) :=
  mm_ck x2 4 (
  mm_ck x2 4 (
  mm_let (sI M 48 x2.toNatClampNeg ((mI M 48 x2.toNatClampNeg) + (1 : Int32))) (fun M1 =>
  mm_ck (x2 + (1 : Int32)) 4 (
  mm_ck x4 100 (
  mm_ck (x2 + (1 : Int32)) 4 (
  mm_let (sI M1 48 (x2 + (1 : Int32)).toNatClampNeg ((mI M1 48 (x2 + (1 : Int32)).toNatClampNeg) + ((mI M1 32 x4.toNatClampNeg) / (4 : Int32)))) (fun M2 =>
  some M2)))))))
theorem s_X12_countIn_44 (x2 : Int32) (x4 : Int32) (M : mm_M) : Sim sysR Y_X12_countIn 0 44 [(0, .ref 0), (2, .int (x2)), (4, .int (x4))] [] M mm_fV (f_X12_countIn_44 x2 x4 M) := by
  unfold f_X12_countIn_44
  refine sim_aload_n 0 d_X12_countIn_44 rfl rfl ?_
  refine sim_geta d_X12_countIn_45 fl_X12_156 ob_R_0 rfl ?_
  refine sim_iload_n 1 d_X12_countIn_48 rfl rfl ?_
  refine sim_dup2_11 d_X12_countIn_49 rfl rfl ?_
  refine sim_iald d_X12_countIn_50 ar_R_48 ?_
  refine sim_iconst (1 : Int32) d_X12_countIn_51 rfl ?_
  refine sim_iadd d_X12_countIn_52 ?_
  refine sim_iast d_X12_countIn_53 ar_R_48 ?_
  refine sim_nmM (fun M1 => ?_)
  refine sim_aload_n 0 d_X12_countIn_54 rfl rfl ?_
  refine sim_geta d_X12_countIn_55 fl_X12_156 ob_R_0 rfl ?_
  refine sim_iload_n 1 d_X12_countIn_58 rfl rfl ?_
  refine sim_iconst (1 : Int32) d_X12_countIn_59 rfl ?_
  refine sim_iadd d_X12_countIn_60 ?_
  refine sim_dup2_11 d_X12_countIn_61 rfl rfl ?_
  refine sim_iald d_X12_countIn_62 ar_R_48 ?_
  refine sim_aload_n 0 d_X12_countIn_63 rfl rfl ?_
  refine sim_geta d_X12_countIn_64 fl_X12_104 ob_R_0 rfl ?_
  refine sim_iload 2 d_X12_countIn_67 rfl ?_
  refine sim_iald d_X12_countIn_69 ar_R_32 ?_
  refine sim_iconst (4 : Int32) d_X12_countIn_70 rfl ?_
  refine sim_idivc d_X12_countIn_71 (by decide) ?_
  refine sim_iadd d_X12_countIn_72 ?_
  refine sim_iast d_X12_countIn_73 ar_R_48 ?_
  refine sim_nmM (fun M2 => ?_)
  exact sim_vret d_X12_countIn_74 rfl
def f_X12_countIn (a1 : Int32) (a2 : Int32) (a3 : Int32) (M : mm_M) : Option (mm_M) :=
  f_X12_countIn_3 f_X12_countIn_44 mm_fu a1 a2 a3 (0 : Int32) M
theorem s_X12_countIn (a1 : Int32) (a2 : Int32) (a3 : Int32) (M : mm_M) : Sim sysR Y_X12_countIn 0 0 [(0, .ref 0), (1, .int (a1)), (2, .int (a2)), (3, .int (a3))] [] M mm_fV (f_X12_countIn a1 a2 a3 M) := by
  unfold f_X12_countIn
  refine sim_iconst (0 : Int32) d_X12_countIn_0 rfl ?_
  refine sim_istore (L' := [(0, .ref 0), (1, .int (a1)), (2, .int (a2)), (3, .int (a3)), (4, .int ((0 : Int32)))]) d_X12_countIn_1 (Nat.le_of_ble_eq_true rfl) rfl ?_
  exact sim_sub [0, 1, 2, 3, 4] rfl (s_X12_countIn_3 f_X12_countIn_44 s_X12_countIn_44 mm_fu a1 a2 a3 (0 : Int32) M)
theorem ct_X12_countIn (a1 : Int32) (a2 : Int32) (a3 : Int32) (M : mm_M) : Ct sysR Y_X12_countIn 0 [.ref 0, .int (a1), .int (a2), .int (a3)] M mm_fV (f_X12_countIn a1 a2 a3 M) :=
  ct_of_sim (by decide) rfl (Nat.le_of_ble_eq_true rfl) (s_X12_countIn a1 a2 a3 M)
def f_X12_noTable_10 : Nat → Int32 → mm_M → Option (mm_M)
  | 0, _, _ => none
  | n + 1, x1, M =>
  if (4 : Int32) ≤ x1 then
    some M
  else
    mm_ck x1 4 (
    mm_let (sI M 48 x1.toNatClampNeg (0 : Int32)) (fun M1 =>
    f_X12_noTable_10 n (x1 + (1 : Int32)) M1))
theorem s_X12_noTable_10 (n : Nat) : ∀ (x1 : Int32) (M : mm_M), Sim sysR Y_X12_noTable 9 10 [(0, .ref 0), (1, .int (x1))] [] M mm_fV (f_X12_noTable_10 n x1 M) := by
  induction n with
  | zero => intros; exact sim_none
  | succ n ih =>
    intro x1 M
    rw [f_X12_noTable_10]
    refine sim_iload_n 1 d_X12_noTable_10 rfl rfl ?_
    refine sim_iconst (4 : Int32) d_X12_noTable_11 rfl ?_
    refine sim_icmp_ge d_X12_noTable_12 ?_ ?_
    ·
      exact sim_vret d_X12_noTable_28 rfl
    ·
      refine sim_aload_n 0 d_X12_noTable_15 rfl rfl ?_
      refine sim_geta d_X12_noTable_16 fl_X12_156 ob_R_0 rfl ?_
      refine sim_iload_n 1 d_X12_noTable_19 rfl rfl ?_
      refine sim_iconst (0 : Int32) d_X12_noTable_20 rfl ?_
      refine sim_iast d_X12_noTable_21 ar_R_48 ?_
      refine sim_nmM (fun M1 => ?_)
      refine sim_iinc (v := x1 + (1 : Int32)) (L' := [(0, .ref 0), (1, .int (x1 + (1 : Int32)))]) 1 d_X12_noTable_22 (Nat.le_of_ble_eq_true rfl) rfl rfl rfl ?_
      refine sim_goto d_X12_noTable_25 ?_
      exact sim_sub [0, 1] rfl (ih (x1 + (1 : Int32)) M1)
def f_X12_noTable (M : mm_M) : Option (mm_M) :=
  mm_bv (f_X12_weigh (mI M 0 1) M) (fun M1 =>
  f_X12_noTable_10 mm_fu (0 : Int32) M1)
theorem s_X12_noTable (M : mm_M) : Sim sysR Y_X12_noTable 9 0 [(0, .ref 0)] [] M mm_fV (f_X12_noTable M) := by
  unfold f_X12_noTable
  refine sim_aload_n 0 d_X12_noTable_0 rfl rfl ?_
  refine sim_aload_n 0 d_X12_noTable_1 rfl rfl ?_
  refine sim_geti d_X12_noTable_2 fl_X12_191 ob_R_0 rfl ?_
  refine sim_callVv Y_X12_weigh 8 [.int (mI M 0 1)] [] d_X12_noTable_5 lk_X12_246 cv_X12_weigh ob_R_0 rfl (by omega) (Nat.le_of_ble_eq_true rfl) (ct_X12_weigh (mI M 0 1) M) (fun M1 => ?_)
  refine sim_iconst (0 : Int32) d_X12_noTable_8 rfl ?_
  refine sim_istore_n (L' := [(0, .ref 0), (1, .int ((0 : Int32)))]) d_X12_noTable_9 rfl (Nat.le_of_ble_eq_true rfl) rfl ?_
  exact sim_sub [0, 1] rfl (s_X12_noTable_10 mm_fu (0 : Int32) M1)
theorem ct_X12_noTable (M : mm_M) : Ct sysR Y_X12_noTable 9 [.ref 0] M mm_fV (f_X12_noTable M) :=
  ct_of_sim (by decide) rfl (Nat.le_of_ble_eq_true rfl) (s_X12_noTable M)
def f_X12_ways_16 : Nat → Int32 → Int32 → Int64 → Int32 → mm_M → Option (Int64 × mm_M)
  | 0, _, _, _, _, _ => none
  | n + 1, x0, x1, x2, x4, M =>
  if x1 < x4 then
    some (x2, M)
  else
    mm_nzL ((x4).toInt64) (
    mm_let ((x2 * (((x0 - x1) + x4).toInt64)) / ((x4).toInt64)) (fun v1 =>
    f_X12_ways_16 n x0 x1 v1 (x4 + (1 : Int32)) M))
theorem s_X12_ways_16 (n : Nat) : ∀ (x0 : Int32) (x1 : Int32) (x2 : Int64) (x4 : Int32) (M : mm_M), Sim sysR Y_X12_ways 0 16 [(0, .int (x0)), (1, .int (x1)), (2, .long (x2)), (4, .int (x4))] [] M mm_fL (f_X12_ways_16 n x0 x1 x2 x4 M) := by
  induction n with
  | zero => intros; exact sim_none
  | succ n ih =>
    intro x0 x1 x2 x4 M
    rw [f_X12_ways_16]
    refine sim_iload 3 d_X12_ways_16 rfl ?_
    refine sim_iload_n 1 d_X12_ways_18 rfl rfl ?_
    refine sim_icmp_gt d_X12_ways_19 ?_ ?_
    ·
      refine sim_lload_n 2 d_X12_ways_42 rfl rfl ?_
      exact sim_lret d_X12_ways_43 rfl
    ·
      refine sim_lload_n 2 d_X12_ways_22 rfl rfl ?_
      refine sim_iload_n 0 d_X12_ways_23 rfl rfl ?_
      refine sim_iload_n 1 d_X12_ways_24 rfl rfl ?_
      refine sim_isub d_X12_ways_25 ?_
      refine sim_iload 3 d_X12_ways_26 rfl ?_
      refine sim_iadd d_X12_ways_28 ?_
      refine sim_i2l d_X12_ways_29 ?_
      refine sim_lmul d_X12_ways_30 ?_
      refine sim_iload 3 d_X12_ways_31 rfl ?_
      refine sim_i2l d_X12_ways_33 ?_
      refine sim_ldiv d_X12_ways_34 ?_
      refine sim_nml (fun v1 => ?_)
      refine sim_lstore_n (L' := [(0, .int (x0)), (1, .int (x1)), (4, .int (x4)), (2, .long (v1))]) d_X12_ways_35 rfl (Nat.le_of_ble_eq_true rfl) rfl ?_
      refine sim_iinc (v := x4 + (1 : Int32)) (L' := [(0, .int (x0)), (1, .int (x1)), (2, .long (v1)), (4, .int (x4 + (1 : Int32)))]) 2 d_X12_ways_36 (Nat.le_of_ble_eq_true rfl) rfl rfl rfl ?_
      refine sim_goto d_X12_ways_39 ?_
      exact sim_sub [0, 1, 2, 3] rfl (ih x0 x1 v1 (x4 + (1 : Int32)) M)
def f_X12_ways (a1 : Int32) (a2 : Int32) (M : mm_M) : Option (Int64 × mm_M) :=
  if a2 < 0 then
    some ((0 : Int64), M)
  else
    if a2 ≤ a1 then
      f_X12_ways_16 mm_fu a1 a2 (1 : Int64) (1 : Int32) M
    else
      some ((0 : Int64), M)
theorem s_X12_ways (a1 : Int32) (a2 : Int32) (M : mm_M) : Sim sysR Y_X12_ways 0 0 [(0, .int (a1)), (1, .int (a2))] [] M mm_fL (f_X12_ways a1 a2 M) := by
  unfold f_X12_ways
  refine sim_iload_n 1 d_X12_ways_0 rfl rfl ?_
  refine sim_if_lt d_X12_ways_1 ?_ ?_
  ·
    refine sim_lconst (0 : Int64) d_X12_ways_9 rfl ?_
    exact sim_lret d_X12_ways_10 rfl
  ·
    refine sim_iload_n 1 d_X12_ways_4 rfl rfl ?_
    refine sim_iload_n 0 d_X12_ways_5 rfl rfl ?_
    refine sim_icmp_le d_X12_ways_6 ?_ ?_
    ·
      refine sim_lconst (1 : Int64) d_X12_ways_11 rfl ?_
      refine sim_lstore_n (L' := [(0, .int (a1)), (1, .int (a2)), (2, .long ((1 : Int64)))]) d_X12_ways_12 rfl (Nat.le_of_ble_eq_true rfl) rfl ?_
      refine sim_iconst (1 : Int32) d_X12_ways_13 rfl ?_
      refine sim_istore (L' := [(0, .int (a1)), (1, .int (a2)), (2, .long ((1 : Int64))), (4, .int ((1 : Int32)))]) d_X12_ways_14 (Nat.le_of_ble_eq_true rfl) rfl ?_
      exact sim_sub [0, 1, 2, 3] rfl (s_X12_ways_16 mm_fu a1 a2 (1 : Int64) (1 : Int32) M)
    ·
      refine sim_lconst (0 : Int64) d_X12_ways_9 rfl ?_
      exact sim_lret d_X12_ways_10 rfl
theorem ct_X12_ways (a1 : Int32) (a2 : Int32) (M : mm_M) : Ct sysR Y_X12_ways 0 [.int (a1), .int (a2)] M mm_fL (f_X12_ways a1 a2 M) :=
  ct_of_sim (by decide) rfl (Nat.le_of_ble_eq_true rfl) (s_X12_ways a1 a2 M)
def f_X12_chance_53 (k97 : Int32 → Int32 → Int64 → mm_M → Option (Int64 × mm_M)) : Nat → Int32 → Int32 → Int32 → Int64 → Int32 → mm_M → Option (Int64 × mm_M)
  | 0, _, _, _, _, _, _ => none
  | n + 1, x1, x2, x3, x4, x6, M =>
  mm_ck (1 : Int32) 4 (
  if (mI M 48 (1 : Int32).toNatClampNeg) < x6 then
    k97 x1 x2 x4 M
  else
    mm_bi (f_X12_ways x3 x6 M) (fun r1 M1 =>
    mm_ck (0 : Int32) 4 (
    mm_bi (f_X12_ways (x2 - x3) ((mI M1 48 (0 : Int32).toNatClampNeg) - x6) M1) (fun r2 M2 =>
    mm_let (x4 + (r1 * r2)) (fun v1 =>
    f_X12_chance_53 k97 n x1 x2 x3 v1 (x6 + (1 : Int32)) M2)))))
theorem s_X12_chance_53 (k97 : Int32 → Int32 → Int64 → mm_M → Option (Int64 × mm_M)) (hk97 : ∀ (x1 : Int32) (x2 : Int32) (x4 : Int64) (M : mm_M), Sim sysR Y_X12_chance 1 97 [(0, .ref 0), (1, .int (x1)), (2, .int (x2)), (4, .long (x4))] [] M mm_fL (k97 x1 x2 x4 M)) (n : Nat) : ∀ (x1 : Int32) (x2 : Int32) (x3 : Int32) (x4 : Int64) (x6 : Int32) (M : mm_M), Sim sysR Y_X12_chance 1 53 [(0, .ref 0), (1, .int (x1)), (2, .int (x2)), (3, .int (x3)), (4, .long (x4)), (6, .int (x6))] [] M mm_fL (f_X12_chance_53 k97 n x1 x2 x3 x4 x6 M) := by
  induction n with
  | zero => intros; exact sim_none
  | succ n ih =>
    intro x1 x2 x3 x4 x6 M
    rw [f_X12_chance_53]
    refine sim_iload 5 d_X12_chance_53 rfl ?_
    refine sim_aload_n 0 d_X12_chance_55 rfl rfl ?_
    refine sim_geta d_X12_chance_56 fl_X12_156 ob_R_0 rfl ?_
    refine sim_iconst (1 : Int32) d_X12_chance_59 rfl ?_
    refine sim_iald d_X12_chance_60 ar_R_48 ?_
    refine sim_icmp_gt d_X12_chance_61 ?_ ?_
    ·
      exact sim_sub [0, 1, 2, 4] rfl (hk97 x1 x2 x4 M)
    ·
      refine sim_lload 4 d_X12_chance_64 rfl ?_
      refine sim_iload_n 3 d_X12_chance_66 rfl rfl ?_
      refine sim_iload 5 d_X12_chance_67 rfl ?_
      refine sim_callSl Y_X12_ways 0 [.int (x3), .int (x6)] [.long (x4)] d_X12_chance_69 lk_X12_383 cs_X12_ways rfl (by omega) (Nat.le_of_ble_eq_true rfl) (ct_X12_ways x3 x6 M) (fun r1 M1 => ?_)
      refine sim_iload_n 2 d_X12_chance_72 rfl rfl ?_
      refine sim_iload_n 3 d_X12_chance_73 rfl rfl ?_
      refine sim_isub d_X12_chance_74 ?_
      refine sim_aload_n 0 d_X12_chance_75 rfl rfl ?_
      refine sim_geta d_X12_chance_76 fl_X12_156 ob_R_0 rfl ?_
      refine sim_iconst (0 : Int32) d_X12_chance_79 rfl ?_
      refine sim_iald d_X12_chance_80 ar_R_48 ?_
      refine sim_iload 5 d_X12_chance_81 rfl ?_
      refine sim_isub d_X12_chance_83 ?_
      refine sim_callSl Y_X12_ways 0 [.int (x2 - x3), .int ((mI M1 48 (0 : Int32).toNatClampNeg) - x6)] [.long (r1), .long (x4)] d_X12_chance_84 lk_X12_383 cs_X12_ways rfl (by omega) (Nat.le_of_ble_eq_true rfl) (ct_X12_ways (x2 - x3) ((mI M1 48 (0 : Int32).toNatClampNeg) - x6) M1) (fun r2 M2 => ?_)
      refine sim_lmul d_X12_chance_87 ?_
      refine sim_ladd d_X12_chance_88 ?_
      refine sim_nml (fun v1 => ?_)
      refine sim_lstore (L' := [(0, .ref 0), (1, .int (x1)), (2, .int (x2)), (3, .int (x3)), (6, .int (x6)), (4, .long (v1))]) d_X12_chance_89 (Nat.le_of_ble_eq_true rfl) rfl ?_
      refine sim_iinc (v := x6 + (1 : Int32)) (L' := [(0, .ref 0), (1, .int (x1)), (2, .int (x2)), (3, .int (x3)), (4, .long (v1)), (6, .int (x6 + (1 : Int32)))]) 4 d_X12_chance_91 (Nat.le_of_ble_eq_true rfl) rfl rfl rfl ?_
      refine sim_goto d_X12_chance_94 ?_
      exact sim_sub [0, 1, 2, 3, 4, 5] rfl (ih x1 x2 x3 v1 (x6 + (1 : Int32)) M2)
def f_X12_chance_97 (x1 : Int32) (x2 : Int32) (x4 : Int64) (M : mm_M) : Option (Int64 × mm_M) :=
  mm_ck (0 : Int32) 4 (
  mm_bi (f_X12_ways x2 (mI M 48 (0 : Int32).toNatClampNeg) M) (fun r1 M1 =>
  if x1 = (6 : Int32) then
    if 0 < (lg_cmp (x4 * (20 : Int64)) (r1)) then
      some ((0 : Int64), M1)
    else
      some ((1 : Int64), M1)
  else
    mm_bi (f_X12_divisor x4 r1 M1) (fun r2 M2 =>
    if x1 = 0 then
      mm_nzL r2 (
      some (x4 / r2, M2))
    else
      mm_nzL r2 (
      some (r1 / r2, M2)))))
theorem s_X12_chance_97 (x1 : Int32) (x2 : Int32) (x4 : Int64) (M : mm_M) : Sim sysR Y_X12_chance 1 97 [(0, .ref 0), (1, .int (x1)), (2, .int (x2)), (4, .long (x4))] [] M mm_fL (f_X12_chance_97 x1 x2 x4 M) := by
  unfold f_X12_chance_97
  refine sim_iload_n 2 d_X12_chance_97 rfl rfl ?_
  refine sim_aload_n 0 d_X12_chance_98 rfl rfl ?_
  refine sim_geta d_X12_chance_99 fl_X12_156 ob_R_0 rfl ?_
  refine sim_iconst (0 : Int32) d_X12_chance_102 rfl ?_
  refine sim_iald d_X12_chance_103 ar_R_48 ?_
  refine sim_callSl Y_X12_ways 0 [.int (x2), .int (mI M 48 (0 : Int32).toNatClampNeg)] [] d_X12_chance_104 lk_X12_383 cs_X12_ways rfl (by omega) (Nat.le_of_ble_eq_true rfl) (ct_X12_ways x2 (mI M 48 (0 : Int32).toNatClampNeg) M) (fun r1 M1 => ?_)
  refine sim_lstore (L' := [(0, .ref 0), (1, .int (x1)), (2, .int (x2)), (4, .long (x4)), (6, .long (r1))]) d_X12_chance_107 (Nat.le_of_ble_eq_true rfl) rfl ?_
  refine sim_iload_n 1 d_X12_chance_109 rfl rfl ?_
  refine sim_bipush (6 : Int32) d_X12_chance_110 rfl ?_
  refine sim_icmp_ne d_X12_chance_112 ?_ ?_
  ·
    refine sim_lload 3 d_X12_chance_133 rfl ?_
    refine sim_lload 4 d_X12_chance_135 rfl ?_
    refine sim_callSl Y_X12_divisor 0 [.long (x4), .long (r1)] [] d_X12_chance_137 lk_X12_229 cs_X12_divisor rfl (by omega) (Nat.le_of_ble_eq_true rfl) (ct_X12_divisor x4 r1 M1) (fun r2 M2 => ?_)
    refine sim_lstore (L' := [(0, .ref 0), (1, .int (x1)), (2, .int (x2)), (4, .long (x4)), (6, .long (r1)), (8, .long (r2))]) d_X12_chance_140 (Nat.le_of_ble_eq_true rfl) rfl ?_
    refine sim_iload_n 1 d_X12_chance_142 rfl rfl ?_
    refine sim_if_ne d_X12_chance_143 ?_ ?_
    ·
      refine sim_lload 4 d_X12_chance_154 rfl ?_
      refine sim_lload 5 d_X12_chance_156 rfl ?_
      refine sim_ldiv d_X12_chance_158 ?_
      exact sim_lret d_X12_chance_159 rfl
    ·
      refine sim_lload 3 d_X12_chance_146 rfl ?_
      refine sim_lload 5 d_X12_chance_148 rfl ?_
      refine sim_ldiv d_X12_chance_150 ?_
      refine sim_goto d_X12_chance_151 ?_
      exact sim_lret d_X12_chance_159 rfl
  ·
    refine sim_lload 3 d_X12_chance_115 rfl ?_
    refine sim_ldc2 (20 : Int64) d_X12_chance_117 kn_X12_387 ?_
    refine sim_lmul d_X12_chance_120 ?_
    refine sim_lload 4 d_X12_chance_121 rfl ?_
    refine sim_lcmp d_X12_chance_123 ?_
    refine sim_if_gt d_X12_chance_124 ?_ ?_
    ·
      refine sim_lconst (0 : Int64) d_X12_chance_131 rfl ?_
      exact sim_lret d_X12_chance_132 rfl
    ·
      refine sim_lconst (1 : Int64) d_X12_chance_127 rfl ?_
      refine sim_goto d_X12_chance_128 ?_
      exact sim_lret d_X12_chance_132 rfl
def f_X12_chance (a1 : Int32) (M : mm_M) : Option (Int64 × mm_M) :=
  mm_bi (f_X12_in a1 (2 : Int32) (5 : Int32) M) (fun r1 M1 =>
  if r1 = 0 then
    mm_ck (0 : Int32) 4 (
    mm_ck (2 : Int32) 4 (
    mm_let ((mI M1 48 (0 : Int32).toNatClampNeg) + (mI M1 48 (2 : Int32).toNatClampNeg)) (fun v1 =>
    mm_ck (1 : Int32) 4 (
    mm_ck (3 : Int32) 4 (
    mm_let ((mI M1 48 (1 : Int32).toNatClampNeg) + (mI M1 48 (3 : Int32).toNatClampNeg)) (fun v2 =>
    f_X12_chance_53 f_X12_chance_97 mm_fu a1 v1 v2 (0 : Int64) (0 : Int32) M1))))))
  else
    mm_ck (a1 - (2 : Int32)) 4 (
    some ((mI M1 48 (a1 - (2 : Int32)).toNatClampNeg).toInt64, M1)))
theorem s_X12_chance (a1 : Int32) (M : mm_M) : Sim sysR Y_X12_chance 1 0 [(0, .ref 0), (1, .int (a1))] [] M mm_fL (f_X12_chance a1 M) := by
  unfold f_X12_chance
  refine sim_iload_n 1 d_X12_chance_0 rfl rfl ?_
  refine sim_iconst (2 : Int32) d_X12_chance_1 rfl ?_
  refine sim_iconst (5 : Int32) d_X12_chance_2 rfl ?_
  refine sim_callSi Y_X12_in 0 [.int (a1), .int ((2 : Int32)), .int ((5 : Int32))] [] d_X12_chance_3 lk_X12_183 cs_X12_in rfl (by omega) (Nat.le_of_ble_eq_true rfl) (ct_X12_in a1 (2 : Int32) (5 : Int32) M) (fun r1 M1 => ?_)
  refine sim_if_eq d_X12_chance_6 ?_ ?_
  ·
    refine sim_aload_n 0 d_X12_chance_19 rfl rfl ?_
    refine sim_geta d_X12_chance_20 fl_X12_156 ob_R_0 rfl ?_
    refine sim_iconst (0 : Int32) d_X12_chance_23 rfl ?_
    refine sim_iald d_X12_chance_24 ar_R_48 ?_
    refine sim_aload_n 0 d_X12_chance_25 rfl rfl ?_
    refine sim_geta d_X12_chance_26 fl_X12_156 ob_R_0 rfl ?_
    refine sim_iconst (2 : Int32) d_X12_chance_29 rfl ?_
    refine sim_iald d_X12_chance_30 ar_R_48 ?_
    refine sim_iadd d_X12_chance_31 ?_
    refine sim_nmi (fun v1 => ?_)
    refine sim_istore_n (L' := [(0, .ref 0), (1, .int (a1)), (2, .int (v1))]) d_X12_chance_32 rfl (Nat.le_of_ble_eq_true rfl) rfl ?_
    refine sim_aload_n 0 d_X12_chance_33 rfl rfl ?_
    refine sim_geta d_X12_chance_34 fl_X12_156 ob_R_0 rfl ?_
    refine sim_iconst (1 : Int32) d_X12_chance_37 rfl ?_
    refine sim_iald d_X12_chance_38 ar_R_48 ?_
    refine sim_aload_n 0 d_X12_chance_39 rfl rfl ?_
    refine sim_geta d_X12_chance_40 fl_X12_156 ob_R_0 rfl ?_
    refine sim_iconst (3 : Int32) d_X12_chance_43 rfl ?_
    refine sim_iald d_X12_chance_44 ar_R_48 ?_
    refine sim_iadd d_X12_chance_45 ?_
    refine sim_nmi (fun v2 => ?_)
    refine sim_istore_n (L' := [(0, .ref 0), (1, .int (a1)), (2, .int (v1)), (3, .int (v2))]) d_X12_chance_46 rfl (Nat.le_of_ble_eq_true rfl) rfl ?_
    refine sim_lconst (0 : Int64) d_X12_chance_47 rfl ?_
    refine sim_lstore (L' := [(0, .ref 0), (1, .int (a1)), (2, .int (v1)), (3, .int (v2)), (4, .long ((0 : Int64)))]) d_X12_chance_48 (Nat.le_of_ble_eq_true rfl) rfl ?_
    refine sim_iconst (0 : Int32) d_X12_chance_50 rfl ?_
    refine sim_istore (L' := [(0, .ref 0), (1, .int (a1)), (2, .int (v1)), (3, .int (v2)), (4, .long ((0 : Int64))), (6, .int ((0 : Int32)))]) d_X12_chance_51 (Nat.le_of_ble_eq_true rfl) rfl ?_
    exact sim_sub [0, 1, 2, 3, 4, 5] rfl (s_X12_chance_53 f_X12_chance_97 s_X12_chance_97 mm_fu a1 v1 v2 (0 : Int64) (0 : Int32) M1)
  ·
    refine sim_aload_n 0 d_X12_chance_9 rfl rfl ?_
    refine sim_geta d_X12_chance_10 fl_X12_156 ob_R_0 rfl ?_
    refine sim_iload_n 1 d_X12_chance_13 rfl rfl ?_
    refine sim_iconst (2 : Int32) d_X12_chance_14 rfl ?_
    refine sim_isub d_X12_chance_15 ?_
    refine sim_iald d_X12_chance_16 ar_R_48 ?_
    refine sim_i2l d_X12_chance_17 ?_
    exact sim_lret d_X12_chance_18 rfl
theorem ct_X12_chance (a1 : Int32) (M : mm_M) : Ct sysR Y_X12_chance 1 [.ref 0, .int (a1)] M mm_fL (f_X12_chance a1 M) :=
  ct_of_sim (by decide) rfl (Nat.le_of_ble_eq_true rfl) (s_X12_chance a1 M)

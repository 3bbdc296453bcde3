def f_X11_refuse (a1 : Int32) (M : mm_M) : Option (Int32 × mm_M) :=
  mm_let ((-1 : Int32) - a1) (fun v1 =>
  if v1 < 0 then
    some (a1, M)
  else
    if (6 : Int32) ≤ v1 then
      some (a1, M)
    else
      mm_ck v1 6 (
      mm_ck v1 6 (
      mm_let (sI M 14 v1.toNatClampNeg ((mI M 14 v1.toNatClampNeg) + (1 : Int32))) (fun M1 =>
      some (a1, M1)))))
theorem s_X11_refuse (a1 : Int32) (M : mm_M) : Sim sysC Y_X11_refuse 0 0 [(0, .ref 0), (1, .int (a1))] [] M mm_fI (f_X11_refuse a1 M) := by
  unfold f_X11_refuse
  refine sim_iconst (-1 : Int32) d_X11_refuse_0 rfl ?_
  refine sim_iload_n 1 d_X11_refuse_1 rfl rfl ?_
  refine sim_isub d_X11_refuse_2 ?_
  refine sim_nmi (fun v1 => ?_)
  refine sim_istore_n (L' := [(0, .ref 0), (1, .int (a1)), (2, .int (v1))]) d_X11_refuse_3 rfl (Nat.le_of_ble_eq_true rfl) rfl ?_
  refine sim_iload_n 2 d_X11_refuse_4 rfl rfl ?_
  refine sim_if_lt d_X11_refuse_5 ?_ ?_
  ·
    refine sim_iload_n 1 d_X11_refuse_27 rfl rfl ?_
    exact sim_iret d_X11_refuse_28 rfl
  ·
    refine sim_iload_n 2 d_X11_refuse_8 rfl rfl ?_
    refine sim_aload_n 0 d_X11_refuse_9 rfl rfl ?_
    refine sim_geta d_X11_refuse_10 fl_X11_81 ob_C_0 rfl ?_
    refine sim_alen (6 : Int32) d_X11_refuse_13 ar_C_14 (Or.inl rfl) rfl ?_
    refine sim_icmp_ge d_X11_refuse_14 ?_ ?_
    ·
      refine sim_iload_n 1 d_X11_refuse_27 rfl rfl ?_
      exact sim_iret d_X11_refuse_28 rfl
    ·
      refine sim_aload_n 0 d_X11_refuse_17 rfl rfl ?_
      refine sim_geta d_X11_refuse_18 fl_X11_81 ob_C_0 rfl ?_
      refine sim_iload_n 2 d_X11_refuse_21 rfl rfl ?_
      refine sim_dup2_11 d_X11_refuse_22 rfl rfl ?_
      refine sim_iald d_X11_refuse_23 ar_C_14 ?_
      refine sim_iconst (1 : Int32) d_X11_refuse_24 rfl ?_
      refine sim_iadd d_X11_refuse_25 ?_
      refine sim_iast d_X11_refuse_26 ar_C_14 ?_
      refine sim_nmM (fun M1 => ?_)
      refine sim_iload_n 1 d_X11_refuse_27 rfl rfl ?_
      exact sim_iret d_X11_refuse_28 rfl
theorem ct_X11_refuse (a1 : Int32) (M : mm_M) : Ct sysC Y_X11_refuse 0 [.ref 0, .int (a1)] M mm_fI (f_X11_refuse a1 M) :=
  ct_of_sim (by decide) rfl (Nat.le_of_ble_eq_true rfl) (s_X11_refuse a1 M)
def f_X11_days (a1 : Int32) (M : mm_M) : Option (Int32 × mm_M) :=
  if (1 : Int32) ≤ a1 then
    if a1 ≤ ((2000 : Int32) - (mI M 0 16)) then
      mm_let (sI M 0 16 ((mI M 0 16) + a1)) (fun M1 =>
      some (mI M1 0 16, M1))
    else
      mm_bi (f_X11_refuse (-6 : Int32) M) (fun r1 M2 =>
      some (r1, M2))
  else
    mm_bi (f_X11_refuse (-4 : Int32) M) (fun r2 M3 =>
    some (r2, M3))
theorem s_X11_days (a1 : Int32) (M : mm_M) : Sim sysC Y_X11_days 1 0 [(0, .ref 0), (1, .int (a1))] [] M mm_fI (f_X11_days a1 M) := by
  unfold f_X11_days
  refine sim_iload_n 1 d_X11_days_0 rfl rfl ?_
  refine sim_iconst (1 : Int32) d_X11_days_1 rfl ?_
  refine sim_icmp_ge d_X11_days_2 ?_ ?_
  ·
    refine sim_iload_n 1 d_X11_days_12 rfl rfl ?_
    refine sim_sipush (2000 : Int32) d_X11_days_13 rfl ?_
    refine sim_aload_n 0 d_X11_days_16 rfl rfl ?_
    refine sim_geti d_X11_days_17 fl_X11_102 ob_C_0 rfl ?_
    refine sim_isub d_X11_days_20 ?_
    refine sim_icmp_le d_X11_days_21 ?_ ?_
    ·
      refine sim_aload_n 0 d_X11_days_31 rfl rfl ?_
      refine sim_dup d_X11_days_32 rfl ?_
      refine sim_geti d_X11_days_33 fl_X11_102 ob_C_0 rfl ?_
      refine sim_iload_n 1 d_X11_days_36 rfl rfl ?_
      refine sim_iadd d_X11_days_37 ?_
      refine sim_puti d_X11_days_38 fl_X11_102 ob_C_0 rfl ?_
      refine sim_nmM (fun M1 => ?_)
      refine sim_aload_n 0 d_X11_days_41 rfl rfl ?_
      refine sim_geti d_X11_days_42 fl_X11_102 ob_C_0 rfl ?_
      exact sim_iret d_X11_days_45 rfl
    ·
      refine sim_aload_n 0 d_X11_days_24 rfl rfl ?_
      refine sim_bipush (-6 : Int32) d_X11_days_25 rfl ?_
      refine sim_callVi Y_X11_refuse 0 [.int ((-6 : Int32))] [] d_X11_days_27 lk_X11_108 cv_X11_refuse ob_C_0 rfl (by omega) (Nat.le_of_ble_eq_true rfl) (ct_X11_refuse (-6 : Int32) M) (fun r1 M2 => ?_)
      exact sim_iret d_X11_days_30 rfl
  ·
    refine sim_aload_n 0 d_X11_days_5 rfl rfl ?_
    refine sim_bipush (-4 : Int32) d_X11_days_6 rfl ?_
    refine sim_callVi Y_X11_refuse 0 [.int ((-4 : Int32))] [] d_X11_days_8 lk_X11_108 cv_X11_refuse ob_C_0 rfl (by omega) (Nat.le_of_ble_eq_true rfl) (ct_X11_refuse (-4 : Int32) M) (fun r2 M3 => ?_)
    exact sim_iret d_X11_days_11 rfl
theorem ct_X11_days (a1 : Int32) (M : mm_M) : Ct sysC Y_X11_days 1 [.ref 0, .int (a1)] M mm_fI (f_X11_days a1 M) :=
  ct_of_sim (by decide) rfl (Nat.le_of_ble_eq_true rfl) (s_X11_days a1 M)
def f_X11_isKind (a1 : Int32) (M : mm_M) : Option (Int32 × mm_M) :=
  if a1 < 0 then
    some ((0 : Int32), M)
  else
    if (5 : Int32) ≤ a1 then
      some ((0 : Int32), M)
    else
      some ((1 : Int32), M)
theorem s_X11_isKind (a1 : Int32) (M : mm_M) : Sim sysC Y_X11_isKind 0 0 [(0, .int (a1))] [] M mm_fI (f_X11_isKind a1 M) := by
  unfold f_X11_isKind
  refine sim_iload_n 0 d_X11_isKind_0 rfl rfl ?_
  refine sim_if_lt d_X11_isKind_1 ?_ ?_
  ·
    refine sim_iconst (0 : Int32) d_X11_isKind_13 rfl ?_
    exact sim_zret d_X11_isKind_14 rfl rfl
  ·
    refine sim_iload_n 0 d_X11_isKind_4 rfl rfl ?_
    refine sim_iconst (5 : Int32) d_X11_isKind_5 rfl ?_
    refine sim_icmp_ge d_X11_isKind_6 ?_ ?_
    ·
      refine sim_iconst (0 : Int32) d_X11_isKind_13 rfl ?_
      exact sim_zret d_X11_isKind_14 rfl rfl
    ·
      refine sim_iconst (1 : Int32) d_X11_isKind_9 rfl ?_
      refine sim_goto d_X11_isKind_10 ?_
      exact sim_zret d_X11_isKind_14 rfl rfl
theorem ct_X11_isKind (a1 : Int32) (M : mm_M) : Ct sysC Y_X11_isKind 0 [.int (a1)] M mm_fI (f_X11_isKind a1 M) :=
  ct_of_sim (by decide) rfl (Nat.le_of_ble_eq_true rfl) (s_X11_isKind a1 M)
def f_X11_isWard (a1 : Int32) (M : mm_M) : Option (Int32 × mm_M) :=
  if a1 < 0 then
    some ((0 : Int32), M)
  else
    if (4 : Int32) ≤ a1 then
      some ((0 : Int32), M)
    else
      some ((1 : Int32), M)
theorem s_X11_isWard (a1 : Int32) (M : mm_M) : Sim sysC Y_X11_isWard 0 0 [(0, .int (a1))] [] M mm_fI (f_X11_isWard a1 M) := by
  unfold f_X11_isWard
  refine sim_iload_n 0 d_X11_isWard_0 rfl rfl ?_
  refine sim_if_lt d_X11_isWard_1 ?_ ?_
  ·
    refine sim_iconst (0 : Int32) d_X11_isWard_13 rfl ?_
    exact sim_zret d_X11_isWard_14 rfl rfl
  ·
    refine sim_iload_n 0 d_X11_isWard_4 rfl rfl ?_
    refine sim_iconst (4 : Int32) d_X11_isWard_5 rfl ?_
    refine sim_icmp_ge d_X11_isWard_6 ?_ ?_
    ·
      refine sim_iconst (0 : Int32) d_X11_isWard_13 rfl ?_
      exact sim_zret d_X11_isWard_14 rfl rfl
    ·
      refine sim_iconst (1 : Int32) d_X11_isWard_9 rfl ?_
      refine sim_goto d_X11_isWard_10 ?_
      exact sim_zret d_X11_isWard_14 rfl rfl
theorem ct_X11_isWard (a1 : Int32) (M : mm_M) : Ct sysC Y_X11_isWard 0 [.int (a1)] M mm_fI (f_X11_isWard a1 M) :=
  ct_of_sim (by decide) rfl (Nat.le_of_ble_eq_true rfl) (s_X11_isWard a1 M)
def f_X6_has (a1 : Int32) (M : mm_M) : Option (Int32 × mm_M) :=
  if a1 < 0 then
    some ((0 : Int32), M)
  else
    if (mI M 2 8) ≤ a1 then
      some ((0 : Int32), M)
    else
      some ((1 : Int32), M)
theorem s_X6_has (a1 : Int32) (M : mm_M) : Sim sysC Y_X6_has 0 0 [(0, .ref 2), (1, .int (a1))] [] M mm_fI (f_X6_has a1 M) := by
  unfold f_X6_has
  refine sim_iload_n 1 d_X6_has_0 rfl rfl ?_
  refine sim_if_lt d_X6_has_1 ?_ ?_
  ·
    refine sim_iconst (0 : Int32) d_X6_has_16 rfl ?_
    exact sim_zret d_X6_has_17 rfl rfl
  ·
    refine sim_iload_n 1 d_X6_has_4 rfl rfl ?_
    refine sim_aload_n 0 d_X6_has_5 rfl rfl ?_
    refine sim_geti d_X6_has_6 fl_X6_37 ob_C_2 rfl ?_
    refine sim_icmp_ge d_X6_has_9 ?_ ?_
    ·
      refine sim_iconst (0 : Int32) d_X6_has_16 rfl ?_
      exact sim_zret d_X6_has_17 rfl rfl
    ·
      refine sim_iconst (1 : Int32) d_X6_has_12 rfl ?_
      refine sim_goto d_X6_has_13 ?_
      exact sim_zret d_X6_has_17 rfl rfl
theorem ct_X6_has (a1 : Int32) (M : mm_M) : Ct sysC Y_X6_has 0 [.ref 2, .int (a1)] M mm_fI (f_X6_has a1 M) :=
  ct_of_sim (by decide) rfl (Nat.le_of_ble_eq_true rfl) (s_X6_has a1 M)
def f_X6_addOwner (a1 : Int32) (a2 : Int32) (M : mm_M) : Option (Int32 × mm_M) :=
  mm_bi (f_X6_has a1 M) (fun r1 M1 =>
  if r1 = 0 then
    some ((-6 : Int32), M1)
  else
    mm_ck a1 40 (
    if (mI M1 32 a1.toNatClampNeg) < (6 : Int32) then
      mm_ck a1 40 (
      mm_ck ((a1 * (6 : Int32)) + (mI M1 32 a1.toNatClampNeg)) 240 (
      mm_let (sI M1 33 ((a1 * (6 : Int32)) + (mI M1 32 a1.toNatClampNeg)).toNatClampNeg a2) (fun M2 =>
      mm_ck a1 40 (
      mm_ck a1 40 (
      mm_let (sI M2 32 a1.toNatClampNeg ((mI M2 32 a1.toNatClampNeg) + (1 : Int32))) (fun M3 =>
      mm_ck a1 40 (
      some (mI M3 32 a1.toNatClampNeg, M3))))))))
    else
      some ((-6 : Int32), M1)))
theorem s_X6_addOwner (a1 : Int32) (a2 : Int32) (M : mm_M) : Sim sysC Y_X6_addOwner 1 0 [(0, .ref 2), (1, .int (a1)), (2, .int (a2))] [] M mm_fI (f_X6_addOwner a1 a2 M) := by
  unfold f_X6_addOwner
  refine sim_aload_n 0 d_X6_addOwner_0 rfl rfl ?_
  refine sim_iload_n 1 d_X6_addOwner_1 rfl rfl ?_
  refine sim_callVi Y_X6_has 0 [.int (a1)] [] d_X6_addOwner_2 lk_X6_45 cv_X6_has ob_C_2 rfl (by omega) (Nat.le_of_ble_eq_true rfl) (ct_X6_has a1 M) (fun r1 M1 => ?_)
  refine sim_if_eq d_X6_addOwner_5 ?_ ?_
  ·
    refine sim_bipush (-6 : Int32) d_X6_addOwner_19 rfl ?_
    exact sim_iret d_X6_addOwner_21 rfl
  ·
    refine sim_aload_n 0 d_X6_addOwner_8 rfl rfl ?_
    refine sim_geta d_X6_addOwner_9 fl_X6_31 ob_C_2 rfl ?_
    refine sim_iload_n 1 d_X6_addOwner_12 rfl rfl ?_
    refine sim_iald d_X6_addOwner_13 ar_C_32 ?_
    refine sim_bipush (6 : Int32) d_X6_addOwner_14 rfl ?_
    refine sim_icmp_lt d_X6_addOwner_16 ?_ ?_
    ·
      refine sim_aload_n 0 d_X6_addOwner_22 rfl rfl ?_
      refine sim_geta d_X6_addOwner_23 fl_X6_34 ob_C_2 rfl ?_
      refine sim_iload_n 1 d_X6_addOwner_26 rfl rfl ?_
      refine sim_bipush (6 : Int32) d_X6_addOwner_27 rfl ?_
      refine sim_imul d_X6_addOwner_29 ?_
      refine sim_aload_n 0 d_X6_addOwner_30 rfl rfl ?_
      refine sim_geta d_X6_addOwner_31 fl_X6_31 ob_C_2 rfl ?_
      refine sim_iload_n 1 d_X6_addOwner_34 rfl rfl ?_
      refine sim_iald d_X6_addOwner_35 ar_C_32 ?_
      refine sim_iadd d_X6_addOwner_36 ?_
      refine sim_iload_n 2 d_X6_addOwner_37 rfl rfl ?_
      refine sim_iast d_X6_addOwner_38 ar_C_33 ?_
      refine sim_nmM (fun M2 => ?_)
      refine sim_aload_n 0 d_X6_addOwner_39 rfl rfl ?_
      refine sim_geta d_X6_addOwner_40 fl_X6_31 ob_C_2 rfl ?_
      refine sim_iload_n 1 d_X6_addOwner_43 rfl rfl ?_
      refine sim_dup2_11 d_X6_addOwner_44 rfl rfl ?_
      refine sim_iald d_X6_addOwner_45 ar_C_32 ?_
      refine sim_iconst (1 : Int32) d_X6_addOwner_46 rfl ?_
      refine sim_iadd d_X6_addOwner_47 ?_
      refine sim_iast d_X6_addOwner_48 ar_C_32 ?_
      refine sim_nmM (fun M3 => ?_)
      refine sim_aload_n 0 d_X6_addOwner_49 rfl rfl ?_
      refine sim_geta d_X6_addOwner_50 fl_X6_31 ob_C_2 rfl ?_
      refine sim_iload_n 1 d_X6_addOwner_53 rfl rfl ?_
      refine sim_iald d_X6_addOwner_54 ar_C_32 ?_
      exact sim_iret d_X6_addOwner_55 rfl
    ·
      refine sim_bipush (-6 : Int32) d_X6_addOwner_19 rfl ?_
      exact sim_iret d_X6_addOwner_21 rfl
theorem ct_X6_addOwner (a1 : Int32) (a2 : Int32) (M : mm_M) : Ct sysC Y_X6_addOwner 1 [.ref 2, .int (a1), .int (a2)] M mm_fI (f_X6_addOwner a1 a2 M) :=
  ct_of_sim (by decide) rfl (Nat.le_of_ble_eq_true rfl) (s_X6_addOwner a1 a2 M)
def f_X6_add (a1 : Int32) (a2 : Int32) (a3 : Int32) (a4 : Int32) (a5 : Int32) (M : mm_M) : Option (Int32 × mm_M) :=
  mm_let (mI M 2 8) (fun v1 =>
  if v1 < (40 : Int32) then
    mm_ck v1 40 (
    mm_let (sI M 26 v1.toNatClampNeg a1) (fun M1 =>
    mm_ck v1 40 (
    mm_let (sI M1 27 v1.toNatClampNeg a2) (fun M2 =>
    mm_ck v1 40 (
    mm_let (sI M2 28 v1.toNatClampNeg a3) (fun M3 =>
    mm_ck v1 40 (
    mm_let (sI M3 29 v1.toNatClampNeg a4) (fun M4 =>
    mm_ck v1 40 (
    mm_let (sI M4 30 v1.toNatClampNeg (1 : Int32)) (fun M5 =>
    mm_ck v1 40 (
    mm_let (sI M5 31 v1.toNatClampNeg ((1 : Int32) &&& 1)) (fun M6 =>
    mm_let (sI M6 2 8 ((mI M6 2 8) + (1 : Int32))) (fun M7 =>
    mm_bi (f_X6_addOwner v1 a5 M7) (fun r1 M8 =>
    some (v1, M8)))))))))))))))
  else
    some ((-6 : Int32), M))
theorem s_X6_add (a1 : Int32) (a2 : Int32) (a3 : Int32) (a4 : Int32) (a5 : Int32) (M : mm_M) : Sim sysC Y_X6_add 2 0 [(0, .ref 2), (1, .int (a1)), (2, .int (a2)), (3, .int (a3)), (4, .int (a4)), (5, .int (a5))] [] M mm_fI (f_X6_add a1 a2 a3 a4 a5 M) := by
  unfold f_X6_add
  refine sim_aload_n 0 d_X6_add_0 rfl rfl ?_
  refine sim_geti d_X6_add_1 fl_X6_37 ob_C_2 rfl ?_
  refine sim_nmi (fun v1 => ?_)
  refine sim_istore (L' := [(0, .ref 2), (1, .int (a1)), (2, .int (a2)), (3, .int (a3)), (4, .int (a4)), (5, .int (a5)), (6, .int (v1))]) d_X6_add_4 (Nat.le_of_ble_eq_true rfl) rfl ?_
  refine sim_iload 6 d_X6_add_6 rfl ?_
  refine sim_bipush (40 : Int32) d_X6_add_8 rfl ?_
  refine sim_icmp_lt d_X6_add_10 ?_ ?_
  ·
    refine sim_aload_n 0 d_X6_add_16 rfl rfl ?_
    refine sim_geta d_X6_add_17 fl_X6_9 ob_C_2 rfl ?_
    refine sim_iload 6 d_X6_add_20 rfl ?_
    refine sim_iload_n 1 d_X6_add_22 rfl rfl ?_
    refine sim_iast d_X6_add_23 ar_C_26 ?_
    refine sim_nmM (fun M1 => ?_)
    refine sim_aload_n 0 d_X6_add_24 rfl rfl ?_
    refine sim_geta d_X6_add_25 fl_X6_15 ob_C_2 rfl ?_
    refine sim_iload 6 d_X6_add_28 rfl ?_
    refine sim_iload_n 2 d_X6_add_30 rfl rfl ?_
    refine sim_iast d_X6_add_31 ar_C_27 ?_
    refine sim_nmM (fun M2 => ?_)
    refine sim_aload_n 0 d_X6_add_32 rfl rfl ?_
    refine sim_geta d_X6_add_33 fl_X6_18 ob_C_2 rfl ?_
    refine sim_iload 6 d_X6_add_36 rfl ?_
    refine sim_iload_n 3 d_X6_add_38 rfl rfl ?_
    refine sim_iast d_X6_add_39 ar_C_28 ?_
    refine sim_nmM (fun M3 => ?_)
    refine sim_aload_n 0 d_X6_add_40 rfl rfl ?_
    refine sim_geta d_X6_add_41 fl_X6_21 ob_C_2 rfl ?_
    refine sim_iload 6 d_X6_add_44 rfl ?_
    refine sim_iload 4 d_X6_add_46 rfl ?_
    refine sim_iast d_X6_add_48 ar_C_29 ?_
    refine sim_nmM (fun M4 => ?_)
    refine sim_aload_n 0 d_X6_add_49 rfl rfl ?_
    refine sim_geta d_X6_add_50 fl_X6_24 ob_C_2 rfl ?_
    refine sim_iload 6 d_X6_add_53 rfl ?_
    refine sim_iconst (1 : Int32) d_X6_add_55 rfl ?_
    refine sim_iast d_X6_add_56 ar_C_30 ?_
    refine sim_nmM (fun M5 => ?_)
    refine sim_aload_n 0 d_X6_add_57 rfl rfl ?_
    refine sim_geta d_X6_add_58 fl_X6_27 ob_C_2 rfl ?_
    refine sim_iload 6 d_X6_add_61 rfl ?_
    refine sim_iconst (1 : Int32) d_X6_add_63 rfl ?_
    refine sim_zast d_X6_add_64 ar_C_31 ?_
    refine sim_nmM (fun M6 => ?_)
    refine sim_aload_n 0 d_X6_add_65 rfl rfl ?_
    refine sim_dup d_X6_add_66 rfl ?_
    refine sim_geti d_X6_add_67 fl_X6_37 ob_C_2 rfl ?_
    refine sim_iconst (1 : Int32) d_X6_add_70 rfl ?_
    refine sim_iadd d_X6_add_71 ?_
    refine sim_puti d_X6_add_72 fl_X6_37 ob_C_2 rfl ?_
    refine sim_nmM (fun M7 => ?_)
    refine sim_aload_n 0 d_X6_add_75 rfl rfl ?_
    refine sim_iload 6 d_X6_add_76 rfl ?_
    refine sim_iload 5 d_X6_add_78 rfl ?_
    refine sim_callVi Y_X6_addOwner 1 [.int (v1), .int (a5)] [] d_X6_add_80 lk_X6_41 cv_X6_addOwner ob_C_2 rfl (by omega) (Nat.le_of_ble_eq_true rfl) (ct_X6_addOwner v1 a5 M7) (fun r1 M8 => ?_)
    refine sim_pop d_X6_add_83 rfl ?_
    refine sim_iload 6 d_X6_add_84 rfl ?_
    exact sim_iret d_X6_add_86 rfl
  ·
    refine sim_bipush (-6 : Int32) d_X6_add_13 rfl ?_
    exact sim_iret d_X6_add_15 rfl
theorem ct_X6_add (a1 : Int32) (a2 : Int32) (a3 : Int32) (a4 : Int32) (a5 : Int32) (M : mm_M) : Ct sysC Y_X6_add 2 [.ref 2, .int (a1), .int (a2), .int (a3), .int (a4), .int (a5)] M mm_fI (f_X6_add a1 a2 a3 a4 a5 M) :=
  ct_of_sim (by decide) rfl (Nat.le_of_ble_eq_true rfl) (s_X6_add a1 a2 a3 a4 a5 M)
def f_X11_shop_68 (M : mm_M) : Option (Int32 × mm_M) :=
  mm_bi (f_X11_refuse (-6 : Int32) M) (fun r1 M1 =>
  some (r1, M1))
theorem s_X11_shop_68 (M : mm_M) : Sim sysC Y_X11_shop 3 68 [(0, .ref 0)] [] M mm_fI (f_X11_shop_68 M) := by
  unfold f_X11_shop_68
  refine sim_aload_n 0 d_X11_shop_68 rfl rfl ?_
  refine sim_bipush (-6 : Int32) d_X11_shop_69 rfl ?_
  refine sim_callVi Y_X11_refuse 0 [.int ((-6 : Int32))] [] d_X11_shop_71 lk_X11_108 cv_X11_refuse ob_C_0 rfl (by omega) (Nat.le_of_ble_eq_true rfl) (ct_X11_refuse (-6 : Int32) M) (fun r1 M1 => ?_)
  exact sim_iret d_X11_shop_74 rfl
def f_X11_shop_36 (M : mm_M) : Option (Int32 × mm_M) :=
  mm_bi (f_X11_refuse (-4 : Int32) M) (fun r1 M1 =>
  some (r1, M1))
theorem s_X11_shop_36 (M : mm_M) : Sim sysC Y_X11_shop 3 36 [(0, .ref 0)] [] M mm_fI (f_X11_shop_36 M) := by
  unfold f_X11_shop_36
  refine sim_aload_n 0 d_X11_shop_36 rfl rfl ?_
  refine sim_bipush (-4 : Int32) d_X11_shop_37 rfl ?_
  refine sim_callVi Y_X11_refuse 0 [.int ((-4 : Int32))] [] d_X11_shop_39 lk_X11_108 cv_X11_refuse ob_C_0 rfl (by omega) (Nat.le_of_ble_eq_true rfl) (ct_X11_refuse (-4 : Int32) M) (fun r1 M1 => ?_)
  exact sim_iret d_X11_shop_42 rfl
def f_X11_shop (a1 : Int32) (a2 : Int32) (a3 : Int32) (a4 : Int32) (M : mm_M) : Option (Int32 × mm_M) :=
  mm_bi (f_X11_isKind a1 M) (fun r1 M1 =>
  if r1 = 0 then
    mm_bi (f_X11_refuse (-2 : Int32) M1) (fun r5 M5 =>
    some (r5, M5))
  else
    mm_bi (f_X11_isWard a2 M1) (fun r2 M2 =>
    if r2 = 0 then
      mm_bi (f_X11_refuse (-1 : Int32) M2) (fun r4 M4 =>
      some (r4, M4))
    else
      if a3 < 0 then
        f_X11_shop_36 M2
      else
        if 0 ≤ a4 then
          if (60 : Int32) < a3 then
            f_X11_shop_68 M2
          else
            if (60 : Int32) < a4 then
              f_X11_shop_68 M2
            else
              if (mI M2 2 8) < (40 : Int32) then
                mm_bi (f_X6_add a1 a2 a3 a4 (mI M2 0 16) M2) (fun r3 M3 =>
                some (r3, M3))
              else
                f_X11_shop_68 M2
        else
          f_X11_shop_36 M2))
theorem s_X11_shop (a1 : Int32) (a2 : Int32) (a3 : Int32) (a4 : Int32) (M : mm_M) : Sim sysC Y_X11_shop 3 0 [(0, .ref 0), (1, .int (a1)), (2, .int (a2)), (3, .int (a3)), (4, .int (a4))] [] M mm_fI (f_X11_shop a1 a2 a3 a4 M) := by
  unfold f_X11_shop
  refine sim_iload_n 1 d_X11_shop_0 rfl rfl ?_
  refine sim_callSi Y_X11_isKind 0 [.int (a1)] [] d_X11_shop_1 lk_X11_112 cs_X11_isKind rfl (by omega) (Nat.le_of_ble_eq_true rfl) (ct_X11_isKind a1 M) (fun r1 M1 => ?_)
  refine sim_if_ne d_X11_shop_4 ?_ ?_
  ·
    refine sim_iload_n 2 d_X11_shop_14 rfl rfl ?_
    refine sim_callSi Y_X11_isWard 0 [.int (a2)] [] d_X11_shop_15 lk_X11_116 cs_X11_isWard rfl (by omega) (Nat.le_of_ble_eq_true rfl) (ct_X11_isWard a2 M1) (fun r2 M2 => ?_)
    refine sim_if_ne d_X11_shop_18 ?_ ?_
    ·
      refine sim_iload_n 3 d_X11_shop_27 rfl rfl ?_
      refine sim_if_lt d_X11_shop_28 ?_ ?_
      ·
        exact sim_sub [0] rfl (s_X11_shop_36 M2)
      ·
        refine sim_iload 4 d_X11_shop_31 rfl ?_
        refine sim_if_ge d_X11_shop_33 ?_ ?_
        ·
          refine sim_iload_n 3 d_X11_shop_43 rfl rfl ?_
          refine sim_bipush (60 : Int32) d_X11_shop_44 rfl ?_
          refine sim_icmp_gt d_X11_shop_46 ?_ ?_
          ·
            exact sim_sub [0] rfl (s_X11_shop_68 M2)
          ·
            refine sim_iload 4 d_X11_shop_49 rfl ?_
            refine sim_bipush (60 : Int32) d_X11_shop_51 rfl ?_
            refine sim_icmp_gt d_X11_shop_53 ?_ ?_
            ·
              exact sim_sub [0] rfl (s_X11_shop_68 M2)
            ·
              refine sim_aload_n 0 d_X11_shop_56 rfl rfl ?_
              refine sim_geta d_X11_shop_57 fl_X11_20 ob_C_0 rfl ?_
              refine sim_geti d_X11_shop_60 fl_X11_119 ob_C_2 rfl ?_
              refine sim_bipush (40 : Int32) d_X11_shop_63 rfl ?_
              refine sim_icmp_lt d_X11_shop_65 ?_ ?_
              ·
                refine sim_aload_n 0 d_X11_shop_75 rfl rfl ?_
                refine sim_geta d_X11_shop_76 fl_X11_20 ob_C_0 rfl ?_
                refine sim_iload_n 1 d_X11_shop_79 rfl rfl ?_
                refine sim_iload_n 2 d_X11_shop_80 rfl rfl ?_
                refine sim_iload_n 3 d_X11_shop_81 rfl rfl ?_
                refine sim_iload 4 d_X11_shop_82 rfl ?_
                refine sim_aload_n 0 d_X11_shop_84 rfl rfl ?_
                refine sim_geti d_X11_shop_85 fl_X11_102 ob_C_0 rfl ?_
                refine sim_callVi Y_X6_add 2 [.int (a1), .int (a2), .int (a3), .int (a4), .int (mI M2 0 16)] [] d_X11_shop_88 lk_X11_124 cv_X6_add ob_C_2 rfl (by omega) (Nat.le_of_ble_eq_true rfl) (ct_X6_add a1 a2 a3 a4 (mI M2 0 16) M2) (fun r3 M3 => ?_)
                exact sim_iret d_X11_shop_91 rfl
              ·
                exact sim_sub [0] rfl (s_X11_shop_68 M2)
        ·
          exact sim_sub [0] rfl (s_X11_shop_36 M2)
    ·
      refine sim_aload_n 0 d_X11_shop_21 rfl rfl ?_
      refine sim_iconst (-1 : Int32) d_X11_shop_22 rfl ?_
      refine sim_callVi Y_X11_refuse 0 [.int ((-1 : Int32))] [] d_X11_shop_23 lk_X11_108 cv_X11_refuse ob_C_0 rfl (by omega) (Nat.le_of_ble_eq_true rfl) (ct_X11_refuse (-1 : Int32) M2) (fun r4 M4 => ?_)
      exact sim_iret d_X11_shop_26 rfl
  ·
    refine sim_aload_n 0 d_X11_shop_7 rfl rfl ?_
    refine sim_bipush (-2 : Int32) d_X11_shop_8 rfl ?_
    refine sim_callVi Y_X11_refuse 0 [.int ((-2 : Int32))] [] d_X11_shop_10 lk_X11_108 cv_X11_refuse ob_C_0 rfl (by omega) (Nat.le_of_ble_eq_true rfl) (ct_X11_refuse (-2 : Int32) M1) (fun r5 M5 => ?_)
    exact sim_iret d_X11_shop_13 rfl
theorem ct_X11_shop (a1 : Int32) (a2 : Int32) (a3 : Int32) (a4 : Int32) (M : mm_M) : Ct sysC Y_X11_shop 3 [.ref 0, .int (a1), .int (a2), .int (a3), .int (a4)] M mm_fI (f_X11_shop a1 a2 a3 a4 M) :=
  ct_of_sim (by decide) rfl (Nat.le_of_ble_eq_true rfl) (s_X11_shop a1 a2 a3 a4 M)
def f_X11_outside (a1 : Int32) (a2 : Int32) (a3 : Int32) (M : mm_M) : Option (Int32 × mm_M) :=
  if a2 ≤ a1 then
    if a1 ≤ a3 then
      some ((0 : Int32), M)
    else
      some ((-6 : Int32), M)
  else
    some ((-4 : Int32), M)
theorem s_X11_outside (a1 : Int32) (a2 : Int32) (a3 : Int32) (M : mm_M) : Sim sysC Y_X11_outside 0 0 [(0, .int (a1)), (1, .int (a2)), (2, .int (a3))] [] M mm_fI (f_X11_outside a1 a2 a3 M) := by
  unfold f_X11_outside
  refine sim_iload_n 0 d_X11_outside_0 rfl rfl ?_
  refine sim_iload_n 1 d_X11_outside_1 rfl rfl ?_
  refine sim_icmp_ge d_X11_outside_2 ?_ ?_
  ·
    refine sim_iload_n 0 d_X11_outside_8 rfl rfl ?_
    refine sim_iload_n 2 d_X11_outside_9 rfl rfl ?_
    refine sim_icmp_le d_X11_outside_10 ?_ ?_
    ·
      refine sim_iconst (0 : Int32) d_X11_outside_18 rfl ?_
      exact sim_iret d_X11_outside_19 rfl
    ·
      refine sim_bipush (-6 : Int32) d_X11_outside_13 rfl ?_
      refine sim_goto d_X11_outside_15 ?_
      exact sim_iret d_X11_outside_19 rfl
  ·
    refine sim_bipush (-4 : Int32) d_X11_outside_5 rfl ?_
    exact sim_iret d_X11_outside_7 rfl
theorem ct_X11_outside (a1 : Int32) (a2 : Int32) (a3 : Int32) (M : mm_M) : Ct sysC Y_X11_outside 0 [.int (a1), .int (a2), .int (a3)] M mm_fI (f_X11_outside a1 a2 a3 M) :=
  ct_of_sim (by decide) rfl (Nat.le_of_ble_eq_true rfl) (s_X11_outside a1 a2 a3 M)
def f_X11_weight (a1 : Int32) (a2 : Int32) (M : mm_M) : Option (Int32 × mm_M) :=
  mm_bi (f_X6_has a1 M) (fun r1 M1 =>
  if r1 = 0 then
    mm_bi (f_X11_refuse (-1 : Int32) M1) (fun r4 M5 =>
    some (r4, M5))
  else
    mm_bi (f_X11_outside a2 (1 : Int32) (20 : Int32) M1) (fun r2 M2 =>
    if r2 = 0 then
      mm_ck a1 40 (
      mm_let (mI M2 30 a1.toNatClampNeg) (fun v1 =>
      mm_ck a1 40 (
      mm_let (sI M2 30 a1.toNatClampNeg a2) (fun M3 =>
      some (v1, M3)))))
    else
      mm_bi (f_X11_refuse r2 M2) (fun r3 M4 =>
      some (r3, M4))))
theorem s_X11_weight (a1 : Int32) (a2 : Int32) (M : mm_M) : Sim sysC Y_X11_weight 1 0 [(0, .ref 0), (1, .int (a1)), (2, .int (a2))] [] M mm_fI (f_X11_weight a1 a2 M) := by
  unfold f_X11_weight
  refine sim_aload_n 0 d_X11_weight_0 rfl rfl ?_
  refine sim_geta d_X11_weight_1 fl_X11_20 ob_C_0 rfl ?_
  refine sim_iload_n 1 d_X11_weight_4 rfl rfl ?_
  refine sim_callVi Y_X6_has 0 [.int (a1)] [] d_X11_weight_5 lk_X11_128 cv_X6_has ob_C_2 rfl (by omega) (Nat.le_of_ble_eq_true rfl) (ct_X6_has a1 M) (fun r1 M1 => ?_)
  refine sim_if_ne d_X11_weight_8 ?_ ?_
  ·
    refine sim_iload_n 2 d_X11_weight_17 rfl rfl ?_
    refine sim_iconst (1 : Int32) d_X11_weight_18 rfl ?_
    refine sim_bipush (20 : Int32) d_X11_weight_19 rfl ?_
    refine sim_callSi Y_X11_outside 0 [.int (a2), .int ((1 : Int32)), .int ((20 : Int32))] [] d_X11_weight_21 lk_X11_131 cs_X11_outside rfl (by omega) (Nat.le_of_ble_eq_true rfl) (ct_X11_outside a2 (1 : Int32) (20 : Int32) M1) (fun r2 M2 => ?_)
    refine sim_istore_n (L' := [(0, .ref 0), (1, .int (a1)), (2, .int (a2)), (3, .int (r2))]) d_X11_weight_24 rfl (Nat.le_of_ble_eq_true rfl) rfl ?_
    refine sim_iload_n 3 d_X11_weight_25 rfl rfl ?_
    refine sim_if_eq d_X11_weight_26 ?_ ?_
    ·
      refine sim_aload_n 0 d_X11_weight_35 rfl rfl ?_
      refine sim_geta d_X11_weight_36 fl_X11_20 ob_C_0 rfl ?_
      refine sim_geta d_X11_weight_39 fl_X11_135 ob_C_2 rfl ?_
      refine sim_iload_n 1 d_X11_weight_42 rfl rfl ?_
      refine sim_iald d_X11_weight_43 ar_C_30 ?_
      refine sim_nmi (fun v1 => ?_)
      refine sim_istore (L' := [(0, .ref 0), (1, .int (a1)), (2, .int (a2)), (3, .int (r2)), (4, .int (v1))]) d_X11_weight_44 (Nat.le_of_ble_eq_true rfl) rfl ?_
      refine sim_aload_n 0 d_X11_weight_46 rfl rfl ?_
      refine sim_geta d_X11_weight_47 fl_X11_20 ob_C_0 rfl ?_
      refine sim_geta d_X11_weight_50 fl_X11_135 ob_C_2 rfl ?_
      refine sim_iload_n 1 d_X11_weight_53 rfl rfl ?_
      refine sim_iload_n 2 d_X11_weight_54 rfl rfl ?_
      refine sim_iast d_X11_weight_55 ar_C_30 ?_
      refine sim_nmM (fun M3 => ?_)
      refine sim_iload 4 d_X11_weight_56 rfl ?_
      exact sim_iret d_X11_weight_58 rfl
    ·
      refine sim_aload_n 0 d_X11_weight_29 rfl rfl ?_
      refine sim_iload_n 3 d_X11_weight_30 rfl rfl ?_
      refine sim_callVi Y_X11_refuse 0 [.int (r2)] [] d_X11_weight_31 lk_X11_108 cv_X11_refuse ob_C_0 rfl (by omega) (Nat.le_of_ble_eq_true rfl) (ct_X11_refuse r2 M2) (fun r3 M4 => ?_)
      exact sim_iret d_X11_weight_34 rfl
  ·
    refine sim_aload_n 0 d_X11_weight_11 rfl rfl ?_
    refine sim_iconst (-1 : Int32) d_X11_weight_12 rfl ?_
    refine sim_callVi Y_X11_refuse 0 [.int ((-1 : Int32))] [] d_X11_weight_13 lk_X11_108 cv_X11_refuse ob_C_0 rfl (by omega) (Nat.le_of_ble_eq_true rfl) (ct_X11_refuse (-1 : Int32) M1) (fun r4 M5 => ?_)
    exact sim_iret d_X11_weight_16 rfl
theorem ct_X11_weight (a1 : Int32) (a2 : Int32) (M : mm_M) : Ct sysC Y_X11_weight 1 [.ref 0, .int (a1), .int (a2)] M mm_fI (f_X11_weight a1 a2 M) :=
  ct_of_sim (by decide) rfl (Nat.le_of_ble_eq_true rfl) (s_X11_weight a1 a2 M)
def f_X11_open (a1 : Int32) (a2 : Int32) (M : mm_M) : Option (Int32 × mm_M) :=
  mm_bi (f_X6_has a1 M) (fun r1 M1 =>
  if r1 = 0 then
    mm_bi (f_X11_refuse (-1 : Int32) M1) (fun r2 M3 =>
    some (r2, M3))
  else
    mm_ck a1 40 (
    if (mI M1 31 a1.toNatClampNeg) = a2 then
      some ((0 : Int32), M1)
    else
      mm_ck a1 40 (
      mm_let (sI M1 31 a1.toNatClampNeg (a2 &&& 1)) (fun M2 =>
      some ((1 : Int32), M2)))))
theorem s_X11_open (a1 : Int32) (a2 : Int32) (M : mm_M) : Sim sysC Y_X11_open 1 0 [(0, .ref 0), (1, .int (a1)), (2, .int (a2))] [] M mm_fI (f_X11_open a1 a2 M) := by
  unfold f_X11_open
  refine sim_aload_n 0 d_X11_open_0 rfl rfl ?_
  refine sim_geta d_X11_open_1 fl_X11_20 ob_C_0 rfl ?_
  refine sim_iload_n 1 d_X11_open_4 rfl rfl ?_
  refine sim_callVi Y_X6_has 0 [.int (a1)] [] d_X11_open_5 lk_X11_128 cv_X6_has ob_C_2 rfl (by omega) (Nat.le_of_ble_eq_true rfl) (ct_X6_has a1 M) (fun r1 M1 => ?_)
  refine sim_if_ne d_X11_open_8 ?_ ?_
  ·
    refine sim_aload_n 0 d_X11_open_17 rfl rfl ?_
    refine sim_geta d_X11_open_18 fl_X11_20 ob_C_0 rfl ?_
    refine sim_geta d_X11_open_21 fl_X11_138 ob_C_2 rfl ?_
    refine sim_iload_n 1 d_X11_open_24 rfl rfl ?_
    refine sim_zald d_X11_open_25 ar_C_31 ?_
    refine sim_iload_n 2 d_X11_open_26 rfl rfl ?_
    refine sim_icmp_ne d_X11_open_27 ?_ ?_
    ·
      refine sim_aload_n 0 d_X11_open_32 rfl rfl ?_
      refine sim_geta d_X11_open_33 fl_X11_20 ob_C_0 rfl ?_
      refine sim_geta d_X11_open_36 fl_X11_138 ob_C_2 rfl ?_
      refine sim_iload_n 1 d_X11_open_39 rfl rfl ?_
      refine sim_iload_n 2 d_X11_open_40 rfl rfl ?_
      refine sim_zast d_X11_open_41 ar_C_31 ?_
      refine sim_nmM (fun M2 => ?_)
      refine sim_iconst (1 : Int32) d_X11_open_42 rfl ?_
      exact sim_iret d_X11_open_43 rfl
    ·
      refine sim_iconst (0 : Int32) d_X11_open_30 rfl ?_
      exact sim_iret d_X11_open_31 rfl
  ·
    refine sim_aload_n 0 d_X11_open_11 rfl rfl ?_
    refine sim_iconst (-1 : Int32) d_X11_open_12 rfl ?_
    refine sim_callVi Y_X11_refuse 0 [.int ((-1 : Int32))] [] d_X11_open_13 lk_X11_108 cv_X11_refuse ob_C_0 rfl (by omega) (Nat.le_of_ble_eq_true rfl) (ct_X11_refuse (-1 : Int32) M1) (fun r2 M3 => ?_)
    exact sim_iret d_X11_open_16 rfl
theorem ct_X11_open (a1 : Int32) (a2 : Int32) (M : mm_M) : Ct sysC Y_X11_open 1 [.ref 0, .int (a1), .int (a2)] M mm_fI (f_X11_open a1 a2 M) :=
  ct_of_sim (by decide) rfl (Nat.le_of_ble_eq_true rfl) (s_X11_open a1 a2 M)
def f_X6_ownedSince (a1 : Int32) (M : mm_M) : Option (Int32 × mm_M) :=
  mm_bi (f_X6_has a1 M) (fun r1 M1 =>
  if r1 = 0 then
    some ((-1 : Int32), M1)
  else
    mm_ck a1 40 (
    if (1 : Int32) ≤ (mI M1 32 a1.toNatClampNeg) then
      mm_ck a1 40 (
      mm_ck (((a1 * (6 : Int32)) + (mI M1 32 a1.toNatClampNeg)) - (1 : Int32)) 240 (
      some (mI M1 33 (((a1 * (6 : Int32)) + (mI M1 32 a1.toNatClampNeg)) - (1 : Int32)).toNatClampNeg, M1)))
    else
      some ((-1 : Int32), M1)))
theorem s_X6_ownedSince (a1 : Int32) (M : mm_M) : Sim sysC Y_X6_ownedSince 1 0 [(0, .ref 2), (1, .int (a1))] [] M mm_fI (f_X6_ownedSince a1 M) := by
  unfold f_X6_ownedSince
  refine sim_aload_n 0 d_X6_ownedSince_0 rfl rfl ?_
  refine sim_iload_n 1 d_X6_ownedSince_1 rfl rfl ?_
  refine sim_callVi Y_X6_has 0 [.int (a1)] [] d_X6_ownedSince_2 lk_X6_45 cv_X6_has ob_C_2 rfl (by omega) (Nat.le_of_ble_eq_true rfl) (ct_X6_has a1 M) (fun r1 M1 => ?_)
  refine sim_if_eq d_X6_ownedSince_5 ?_ ?_
  ·
    refine sim_iconst (-1 : Int32) d_X6_ownedSince_18 rfl ?_
    exact sim_iret d_X6_ownedSince_19 rfl
  ·
    refine sim_aload_n 0 d_X6_ownedSince_8 rfl rfl ?_
    refine sim_geta d_X6_ownedSince_9 fl_X6_31 ob_C_2 rfl ?_
    refine sim_iload_n 1 d_X6_ownedSince_12 rfl rfl ?_
    refine sim_iald d_X6_ownedSince_13 ar_C_32 ?_
    refine sim_iconst (1 : Int32) d_X6_ownedSince_14 rfl ?_
    refine sim_icmp_ge d_X6_ownedSince_15 ?_ ?_
    ·
      refine sim_aload_n 0 d_X6_ownedSince_20 rfl rfl ?_
      refine sim_geta d_X6_ownedSince_21 fl_X6_34 ob_C_2 rfl ?_
      refine sim_iload_n 1 d_X6_ownedSince_24 rfl rfl ?_
      refine sim_bipush (6 : Int32) d_X6_ownedSince_25 rfl ?_
      refine sim_imul d_X6_ownedSince_27 ?_
      refine sim_aload_n 0 d_X6_ownedSince_28 rfl rfl ?_
      refine sim_geta d_X6_ownedSince_29 fl_X6_31 ob_C_2 rfl ?_
      refine sim_iload_n 1 d_X6_ownedSince_32 rfl rfl ?_
      refine sim_iald d_X6_ownedSince_33 ar_C_32 ?_
      refine sim_iadd d_X6_ownedSince_34 ?_
      refine sim_iconst (1 : Int32) d_X6_ownedSince_35 rfl ?_
      refine sim_isub d_X6_ownedSince_36 ?_
      refine sim_iald d_X6_ownedSince_37 ar_C_33 ?_
      exact sim_iret d_X6_ownedSince_38 rfl
    ·
      refine sim_iconst (-1 : Int32) d_X6_ownedSince_18 rfl ?_
      exact sim_iret d_X6_ownedSince_19 rfl
theorem ct_X6_ownedSince (a1 : Int32) (M : mm_M) : Ct sysC Y_X6_ownedSince 1 [.ref 2, .int (a1)] M mm_fI (f_X6_ownedSince a1 M) :=
  ct_of_sim (by decide) rfl (Nat.le_of_ble_eq_true rfl) (s_X6_ownedSince a1 M)
def f_X11_sell (a1 : Int32) (M : mm_M) : Option (Int32 × mm_M) :=
  mm_bi (f_X6_has a1 M) (fun r1 M1 =>
  if r1 = 0 then
    mm_bi (f_X11_refuse (-1 : Int32) M1) (fun r6 M6 =>
    some (r6, M6))
  else
    mm_bi (f_X6_ownedSince a1 M1) (fun r2 M2 =>
    if r2 = (mI M2 0 16) then
      mm_bi (f_X11_refuse (-3 : Int32) M2) (fun r5 M5 =>
      some (r5, M5))
    else
      mm_ck a1 40 (
      if (mI M2 32 a1.toNatClampNeg) < (6 : Int32) then
        mm_bi (f_X6_addOwner a1 (mI M2 0 16) M2) (fun r3 M3 =>
        some (r3, M3))
      else
        mm_bi (f_X11_refuse (-6 : Int32) M2) (fun r4 M4 =>
        some (r4, M4)))))
theorem s_X11_sell (a1 : Int32) (M : mm_M) : Sim sysC Y_X11_sell 2 0 [(0, .ref 0), (1, .int (a1))] [] M mm_fI (f_X11_sell a1 M) := by
  unfold f_X11_sell
  refine sim_aload_n 0 d_X11_sell_0 rfl rfl ?_
  refine sim_geta d_X11_sell_1 fl_X11_20 ob_C_0 rfl ?_
  refine sim_iload_n 1 d_X11_sell_4 rfl rfl ?_
  refine sim_callVi Y_X6_has 0 [.int (a1)] [] d_X11_sell_5 lk_X11_128 cv_X6_has ob_C_2 rfl (by omega) (Nat.le_of_ble_eq_true rfl) (ct_X6_has a1 M) (fun r1 M1 => ?_)
  refine sim_if_ne d_X11_sell_8 ?_ ?_
  ·
    refine sim_aload_n 0 d_X11_sell_17 rfl rfl ?_
    refine sim_geta d_X11_sell_18 fl_X11_20 ob_C_0 rfl ?_
    refine sim_iload_n 1 d_X11_sell_21 rfl rfl ?_
    refine sim_callVi Y_X6_ownedSince 1 [.int (a1)] [] d_X11_sell_22 lk_X11_141 cv_X6_ownedSince ob_C_2 rfl (by omega) (Nat.le_of_ble_eq_true rfl) (ct_X6_ownedSince a1 M1) (fun r2 M2 => ?_)
    refine sim_aload_n 0 d_X11_sell_25 rfl rfl ?_
    refine sim_geti d_X11_sell_26 fl_X11_102 ob_C_0 rfl ?_
    refine sim_icmp_ne d_X11_sell_29 ?_ ?_
    ·
      refine sim_aload_n 0 d_X11_sell_39 rfl rfl ?_
      refine sim_geta d_X11_sell_40 fl_X11_20 ob_C_0 rfl ?_
      refine sim_geta d_X11_sell_43 fl_X11_144 ob_C_2 rfl ?_
      refine sim_iload_n 1 d_X11_sell_46 rfl rfl ?_
      refine sim_iald d_X11_sell_47 ar_C_32 ?_
      refine sim_bipush (6 : Int32) d_X11_sell_48 rfl ?_
      refine sim_icmp_lt d_X11_sell_50 ?_ ?_
      ·
        refine sim_aload_n 0 d_X11_sell_60 rfl rfl ?_
        refine sim_geta d_X11_sell_61 fl_X11_20 ob_C_0 rfl ?_
        refine sim_iload_n 1 d_X11_sell_64 rfl rfl ?_
        refine sim_aload_n 0 d_X11_sell_65 rfl rfl ?_
        refine sim_geti d_X11_sell_66 fl_X11_102 ob_C_0 rfl ?_
        refine sim_callVi Y_X6_addOwner 1 [.int (a1), .int (mI M2 0 16)] [] d_X11_sell_69 lk_X11_147 cv_X6_addOwner ob_C_2 rfl (by omega) (Nat.le_of_ble_eq_true rfl) (ct_X6_addOwner a1 (mI M2 0 16) M2) (fun r3 M3 => ?_)
        exact sim_iret d_X11_sell_72 rfl
      ·
        refine sim_aload_n 0 d_X11_sell_53 rfl rfl ?_
        refine sim_bipush (-6 : Int32) d_X11_sell_54 rfl ?_
        refine sim_callVi Y_X11_refuse 0 [.int ((-6 : Int32))] [] d_X11_sell_56 lk_X11_108 cv_X11_refuse ob_C_0 rfl (by omega) (Nat.le_of_ble_eq_true rfl) (ct_X11_refuse (-6 : Int32) M2) (fun r4 M4 => ?_)
        exact sim_iret d_X11_sell_59 rfl
    ·
      refine sim_aload_n 0 d_X11_sell_32 rfl rfl ?_
      refine sim_bipush (-3 : Int32) d_X11_sell_33 rfl ?_
      refine sim_callVi Y_X11_refuse 0 [.int ((-3 : Int32))] [] d_X11_sell_35 lk_X11_108 cv_X11_refuse ob_C_0 rfl (by omega) (Nat.le_of_ble_eq_true rfl) (ct_X11_refuse (-3 : Int32) M2) (fun r5 M5 => ?_)
      exact sim_iret d_X11_sell_38 rfl
  ·
    refine sim_aload_n 0 d_X11_sell_11 rfl rfl ?_
    refine sim_iconst (-1 : Int32) d_X11_sell_12 rfl ?_
    refine sim_callVi Y_X11_refuse 0 [.int ((-1 : Int32))] [] d_X11_sell_13 lk_X11_108 cv_X11_refuse ob_C_0 rfl (by omega) (Nat.le_of_ble_eq_true rfl) (ct_X11_refuse (-1 : Int32) M1) (fun r6 M6 => ?_)
    exact sim_iret d_X11_sell_16 rfl
theorem ct_X11_sell (a1 : Int32) (M : mm_M) : Ct sysC Y_X11_sell 2 [.ref 0, .int (a1)] M mm_fI (f_X11_sell a1 M) :=
  ct_of_sim (by decide) rfl (Nat.le_of_ble_eq_true rfl) (s_X11_sell a1 M)
def f_X0_has (a1 : Int32) (M : mm_M) : Option (Int32 × mm_M) :=
  if a1 < 0 then
    some ((0 : Int32), M)
  else
    if (8 : Int32) ≤ a1 then
      some ((0 : Int32), M)
    else
      some ((1 : Int32), M)
theorem s_X0_has (a1 : Int32) (M : mm_M) : Sim sysC Y_X0_has 0 0 [(0, .ref 3), (1, .int (a1))] [] M mm_fI (f_X0_has a1 M) := by
  unfold f_X0_has
  refine sim_iload_n 1 d_X0_has_0 rfl rfl ?_
  refine sim_if_lt d_X0_has_1 ?_ ?_
  ·
    refine sim_iconst (0 : Int32) d_X0_has_14 rfl ?_
    exact sim_zret d_X0_has_15 rfl rfl
  ·
    refine sim_iload_n 1 d_X0_has_4 rfl rfl ?_
    refine sim_bipush (8 : Int32) d_X0_has_5 rfl ?_
    refine sim_icmp_ge d_X0_has_7 ?_ ?_
    ·
      refine sim_iconst (0 : Int32) d_X0_has_14 rfl ?_
      exact sim_zret d_X0_has_15 rfl rfl
    ·
      refine sim_iconst (1 : Int32) d_X0_has_10 rfl ?_
      refine sim_goto d_X0_has_11 ?_
      exact sim_zret d_X0_has_15 rfl rfl
theorem ct_X0_has (a1 : Int32) (M : mm_M) : Ct sysC Y_X0_has 0 [.ref 3, .int (a1)] M mm_fI (f_X0_has a1 M) :=
  ct_of_sim (by decide) rfl (Nat.le_of_ble_eq_true rfl) (s_X0_has a1 M)
def f_X0_tell_49 : Nat → Int32 → Int32 → Int32 → mm_M → Option (Int32 × mm_M)
  | 0, _, _, _, _ => none
  | n + 1, x1, x3, x4, M =>
  if (40 : Int32) ≤ x4 then
    mm_bz x3 (some (x3, M))
  else
    mm_ck ((x1 * (40 : Int32)) + x4) 320 (
    mm_let (sI M 38 ((x1 * (40 : Int32)) + x4).toNatClampNeg ((0 : Int32) &&& 1)) (fun M1 =>
    f_X0_tell_49 n x1 x3 (x4 + (1 : Int32)) M1))
theorem s_X0_tell_49 (n : Nat) : ∀ (x1 : Int32) (x3 : Int32) (x4 : Int32) (M : mm_M), Sim sysC Y_X0_tell 1 49 [(0, .ref 3), (1, .int (x1)), (3, .int (x3)), (4, .int (x4))] [] M mm_fI (f_X0_tell_49 n x1 x3 x4 M) := by
  induction n with
  | zero => intros; exact sim_none
  | succ n ih =>
    intro x1 x3 x4 M
    rw [f_X0_tell_49]
    refine sim_iload 3 d_X0_tell_49 rfl ?_
    refine sim_bipush (40 : Int32) d_X0_tell_51 rfl ?_
    refine sim_icmp_ge d_X0_tell_53 ?_ ?_
    ·
      refine sim_iload_n 2 d_X0_tell_75 rfl rfl ?_
      exact sim_zretb d_X0_tell_76 rfl
    ·
      refine sim_aload_n 0 d_X0_tell_56 rfl rfl ?_
      refine sim_geta d_X0_tell_57 fl_X0_25 ob_C_3 rfl ?_
      refine sim_iload_n 1 d_X0_tell_60 rfl rfl ?_
      refine sim_bipush (40 : Int32) d_X0_tell_61 rfl ?_
      refine sim_imul d_X0_tell_63 ?_
      refine sim_iload 3 d_X0_tell_64 rfl ?_
      refine sim_iadd d_X0_tell_66 ?_
      refine sim_iconst (0 : Int32) d_X0_tell_67 rfl ?_
      refine sim_zast d_X0_tell_68 ar_C_38 ?_
      refine sim_nmM (fun M1 => ?_)
      refine sim_iinc (v := x4 + (1 : Int32)) (L' := [(0, .ref 3), (1, .int (x1)), (3, .int (x3)), (4, .int (x4 + (1 : Int32)))]) 3 d_X0_tell_69 (Nat.le_of_ble_eq_true rfl) rfl rfl rfl ?_
      refine sim_goto d_X0_tell_72 ?_
      exact sim_sub [0, 1, 2, 3] rfl (ih x1 x3 (x4 + (1 : Int32)) M1)
def f_X0_tell_24 (x1 : Int32) (x2 : Int32) (t0 : Int32) (M : mm_M) : Option (Int32 × mm_M) :=
  mm_ck x1 8 (
  mm_let (sI M 34 x1.toNatClampNeg ((1 : Int32) &&& 1)) (fun M1 =>
  mm_ck x1 8 (
  mm_let (sI M1 35 x1.toNatClampNeg x2) (fun M2 =>
  mm_ck x1 8 (
  mm_let (sI M2 36 x1.toNatClampNeg (0 : Int32)) (fun M3 =>
  f_X0_tell_49 mm_fu x1 t0 (0 : Int32) M3))))))
theorem s_X0_tell_24 (x1 : Int32) (x2 : Int32) (t0 : Int32) (M : mm_M) : Sim sysC Y_X0_tell 1 24 [(0, .ref 3), (1, .int (x1)), (2, .int (x2))] [.int (t0)] M mm_fI (f_X0_tell_24 x1 x2 t0 M) := by
  unfold f_X0_tell_24
  refine sim_istore_n (L' := [(0, .ref 3), (1, .int (x1)), (2, .int (x2)), (3, .int (t0))]) d_X0_tell_24 rfl (Nat.le_of_ble_eq_true rfl) rfl ?_
  refine sim_aload_n 0 d_X0_tell_25 rfl rfl ?_
  refine sim_geta d_X0_tell_26 fl_X0_9 ob_C_3 rfl ?_
  refine sim_iload_n 1 d_X0_tell_29 rfl rfl ?_
  refine sim_iconst (1 : Int32) d_X0_tell_30 rfl ?_
  refine sim_zast d_X0_tell_31 ar_C_34 ?_
  refine sim_nmM (fun M1 => ?_)
  refine sim_aload_n 0 d_X0_tell_32 rfl rfl ?_
  refine sim_geta d_X0_tell_33 fl_X0_15 ob_C_3 rfl ?_
  refine sim_iload_n 1 d_X0_tell_36 rfl rfl ?_
  refine sim_iload_n 2 d_X0_tell_37 rfl rfl ?_
  refine sim_iast d_X0_tell_38 ar_C_35 ?_
  refine sim_nmM (fun M2 => ?_)
  refine sim_aload_n 0 d_X0_tell_39 rfl rfl ?_
  refine sim_geta d_X0_tell_40 fl_X0_19 ob_C_3 rfl ?_
  refine sim_iload_n 1 d_X0_tell_43 rfl rfl ?_
  refine sim_iconst (0 : Int32) d_X0_tell_44 rfl ?_
  refine sim_iast d_X0_tell_45 ar_C_36 ?_
  refine sim_nmM (fun M3 => ?_)
  refine sim_iconst (0 : Int32) d_X0_tell_46 rfl ?_
  refine sim_istore (L' := [(0, .ref 3), (1, .int (x1)), (2, .int (x2)), (3, .int (t0)), (4, .int ((0 : Int32)))]) d_X0_tell_47 (Nat.le_of_ble_eq_true rfl) rfl ?_
  exact sim_sub [0, 1, 3, 4] rfl (s_X0_tell_49 mm_fu x1 t0 (0 : Int32) M3)
def f_X0_tell (a1 : Int32) (a2 : Int32) (M : mm_M) : Option (Int32 × mm_M) :=
  mm_bi (f_X0_has a1 M) (fun r1 M1 =>
  if r1 = 0 then
    some ((0 : Int32), M1)
  else
    mm_ck a1 8 (
    if (mI M1 34 a1.toNatClampNeg) = 0 then
      f_X0_tell_24 a1 a2 (1 : Int32) M1
    else
      f_X0_tell_24 a1 a2 (0 : Int32) M1))
theorem s_X0_tell (a1 : Int32) (a2 : Int32) (M : mm_M) : Sim sysC Y_X0_tell 1 0 [(0, .ref 3), (1, .int (a1)), (2, .int (a2))] [] M mm_fI (f_X0_tell a1 a2 M) := by
  unfold f_X0_tell
  refine sim_aload_n 0 d_X0_tell_0 rfl rfl ?_
  refine sim_iload_n 1 d_X0_tell_1 rfl rfl ?_
  refine sim_callVi Y_X0_has 0 [.int (a1)] [] d_X0_tell_2 lk_X0_28 cv_X0_has ob_C_3 rfl (by omega) (Nat.le_of_ble_eq_true rfl) (ct_X0_has a1 M) (fun r1 M1 => ?_)
  refine sim_if_ne d_X0_tell_5 ?_ ?_
  ·
    refine sim_aload_n 0 d_X0_tell_10 rfl rfl ?_
    refine sim_geta d_X0_tell_11 fl_X0_9 ob_C_3 rfl ?_
    refine sim_iload_n 1 d_X0_tell_14 rfl rfl ?_
    refine sim_zald d_X0_tell_15 ar_C_34 ?_
    refine sim_if_ne d_X0_tell_16 ?_ ?_
    ·
      refine sim_iconst (0 : Int32) d_X0_tell_23 rfl ?_
      exact sim_sub [0, 1, 2] rfl (s_X0_tell_24 a1 a2 (0 : Int32) M1)
    ·
      refine sim_iconst (1 : Int32) d_X0_tell_19 rfl ?_
      refine sim_goto d_X0_tell_20 ?_
      exact sim_sub [0, 1, 2] rfl (s_X0_tell_24 a1 a2 (1 : Int32) M1)
  ·
    refine sim_iconst (0 : Int32) d_X0_tell_8 rfl ?_
    exact sim_zret d_X0_tell_9 rfl rfl
theorem ct_X0_tell (a1 : Int32) (a2 : Int32) (M : mm_M) : Ct sysC Y_X0_tell 1 [.ref 3, .int (a1), .int (a2)] M mm_fI (f_X0_tell a1 a2 M) :=
  ct_of_sim (by decide) rfl (Nat.le_of_ble_eq_true rfl) (s_X0_tell a1 a2 M)
def f_X11_child (a1 : Int32) (a2 : Int32) (M : mm_M) : Option (Int32 × mm_M) :=
  mm_bi (f_X0_has a1 M) (fun r1 M1 =>
  if r1 = 0 then
    mm_bi (f_X11_refuse (-1 : Int32) M1) (fun r5 M5 =>
    some (r5, M5))
  else
    mm_bi (f_X11_outside a2 (-7000 : Int32) (-3000 : Int32) M1) (fun r2 M2 =>
    if r2 = 0 then
      mm_bi (f_X0_tell a1 a2 M2) (fun r3 M3 =>
      if r3 = 0 then
        some ((0 : Int32), M3)
      else
        some ((1 : Int32), M3))
    else
      mm_bi (f_X11_refuse r2 M2) (fun r4 M4 =>
      some (r4, M4))))
theorem s_X11_child (a1 : Int32) (a2 : Int32) (M : mm_M) : Sim sysC Y_X11_child 2 0 [(0, .ref 0), (1, .int (a1)), (2, .int (a2))] [] M mm_fI (f_X11_child a1 a2 M) := by
  unfold f_X11_child
  refine sim_aload_n 0 d_X11_child_0 rfl rfl ?_
  refine sim_geta d_X11_child_1 fl_X11_25 ob_C_0 rfl ?_
  refine sim_iload_n 1 d_X11_child_4 rfl rfl ?_
  refine sim_callVi Y_X0_has 0 [.int (a1)] [] d_X11_child_5 lk_X11_151 cv_X0_has ob_C_3 rfl (by omega) (Nat.le_of_ble_eq_true rfl) (ct_X0_has a1 M) (fun r1 M1 => ?_)
  refine sim_if_ne d_X11_child_8 ?_ ?_
  ·
    refine sim_iload_n 2 d_X11_child_17 rfl rfl ?_
    refine sim_sipush (-7000 : Int32) d_X11_child_18 rfl ?_
    refine sim_sipush (-3000 : Int32) d_X11_child_21 rfl ?_
    refine sim_callSi Y_X11_outside 0 [.int (a2), .int ((-7000 : Int32)), .int ((-3000 : Int32))] [] d_X11_child_24 lk_X11_131 cs_X11_outside rfl (by omega) (Nat.le_of_ble_eq_true rfl) (ct_X11_outside a2 (-7000 : Int32) (-3000 : Int32) M1) (fun r2 M2 => ?_)
    refine sim_istore_n (L' := [(0, .ref 0), (1, .int (a1)), (2, .int (a2)), (3, .int (r2))]) d_X11_child_27 rfl (Nat.le_of_ble_eq_true rfl) rfl ?_
    refine sim_iload_n 3 d_X11_child_28 rfl rfl ?_
    refine sim_if_eq d_X11_child_29 ?_ ?_
    ·
      refine sim_aload_n 0 d_X11_child_38 rfl rfl ?_
      refine sim_geta d_X11_child_39 fl_X11_25 ob_C_0 rfl ?_
      refine sim_iload_n 1 d_X11_child_42 rfl rfl ?_
      refine sim_iload_n 2 d_X11_child_43 rfl rfl ?_
      refine sim_callVi Y_X0_tell 1 [.int (a1), .int (a2)] [] d_X11_child_44 lk_X11_154 cv_X0_tell ob_C_3 rfl (by omega) (Nat.le_of_ble_eq_true rfl) (ct_X0_tell a1 a2 M2) (fun r3 M3 => ?_)
      refine sim_if_eq d_X11_child_47 ?_ ?_
      ·
        refine sim_iconst (0 : Int32) d_X11_child_54 rfl ?_
        exact sim_iret d_X11_child_55 rfl
      ·
        refine sim_iconst (1 : Int32) d_X11_child_50 rfl ?_
        refine sim_goto d_X11_child_51 ?_
        exact sim_iret d_X11_child_55 rfl
    ·
      refine sim_aload_n 0 d_X11_child_32 rfl rfl ?_
      refine sim_iload_n 3 d_X11_child_33 rfl rfl ?_
      refine sim_callVi Y_X11_refuse 0 [.int (r2)] [] d_X11_child_34 lk_X11_108 cv_X11_refuse ob_C_0 rfl (by omega) (Nat.le_of_ble_eq_true rfl) (ct_X11_refuse r2 M2) (fun r4 M4 => ?_)
      exact sim_iret d_X11_child_37 rfl
  ·
    refine sim_aload_n 0 d_X11_child_11 rfl rfl ?_
    refine sim_iconst (-1 : Int32) d_X11_child_12 rfl ?_
    refine sim_callVi Y_X11_refuse 0 [.int ((-1 : Int32))] [] d_X11_child_13 lk_X11_108 cv_X11_refuse ob_C_0 rfl (by omega) (Nat.le_of_ble_eq_true rfl) (ct_X11_refuse (-1 : Int32) M1) (fun r5 M5 => ?_)
    exact sim_iret d_X11_child_16 rfl
theorem ct_X11_child (a1 : Int32) (a2 : Int32) (M : mm_M) : Ct sysC Y_X11_child 2 [.ref 0, .int (a1), .int (a2)] M mm_fI (f_X11_child a1 a2 M) :=
  ct_of_sim (by decide) rfl (Nat.le_of_ble_eq_true rfl) (s_X11_child a1 a2 M)
def f_X0_addGuess_40 (k91 : Int32 → Int32 → Int32 → mm_M → Option (Int32 × mm_M)) : Nat → Int32 → Int32 → Int32 → Int32 → Int32 → mm_M → Option (Int32 × mm_M)
  | 0, _, _, _, _, _, _ => none
  | n + 1, x1, x2, x3, x4, x5, M =>
  if (12 : Int32) ≤ x5 then
    k91 x1 x2 x4 M
  else
    if x4 ≤ x3 then
      k91 x1 x2 x4 M
    else
      mm_ck (x4 - (1 : Int32)) 96 (
      if (mI M 37 (x4 - (1 : Int32)).toNatClampNeg) ≤ x2 then
        k91 x1 x2 x4 M
      else
        mm_ck (x4 - (1 : Int32)) 96 (
        mm_ck x4 96 (
        mm_let (sI M 37 x4.toNatClampNeg (mI M 37 (x4 - (1 : Int32)).toNatClampNeg)) (fun M1 =>
        f_X0_addGuess_40 k91 n x1 x2 x3 (x4 + (-1 : Int32)) (x5 + (1 : Int32)) M1))))
theorem s_X0_addGuess_40 (k91 : Int32 → Int32 → Int32 → mm_M → Option (Int32 × mm_M)) (hk91 : ∀ (x1 : Int32) (x2 : Int32) (x4 : Int32) (M : mm_M), Sim sysC Y_X0_addGuess 1 91 [(0, .ref 3), (1, .int (x1)), (2, .int (x2)), (4, .int (x4))] [] M mm_fI (k91 x1 x2 x4 M)) (n : Nat) : ∀ (x1 : Int32) (x2 : Int32) (x3 : Int32) (x4 : Int32) (x5 : Int32) (M : mm_M), Sim sysC Y_X0_addGuess 1 40 [(0, .ref 3), (1, .int (x1)), (2, .int (x2)), (3, .int (x3)), (4, .int (x4)), (5, .int (x5))] [] M mm_fI (f_X0_addGuess_40 k91 n x1 x2 x3 x4 x5 M) := by
  induction n with
  | zero => intros; exact sim_none
  | succ n ih =>
    intro x1 x2 x3 x4 x5 M
    rw [f_X0_addGuess_40]
    refine sim_iload 5 d_X0_addGuess_40 rfl ?_
    refine sim_bipush (12 : Int32) d_X0_addGuess_42 rfl ?_
    refine sim_icmp_ge d_X0_addGuess_44 ?_ ?_
    ·
      exact sim_sub [0, 1, 2, 4] rfl (hk91 x1 x2 x4 M)
    ·
      refine sim_iload 4 d_X0_addGuess_47 rfl ?_
      refine sim_iload_n 3 d_X0_addGuess_49 rfl rfl ?_
      refine sim_icmp_le d_X0_addGuess_50 ?_ ?_
      ·
        exact sim_sub [0, 1, 2, 4] rfl (hk91 x1 x2 x4 M)
      ·
        refine sim_aload_n 0 d_X0_addGuess_53 rfl rfl ?_
        refine sim_geta d_X0_addGuess_54 fl_X0_22 ob_C_3 rfl ?_
        refine sim_iload 4 d_X0_addGuess_57 rfl ?_
        refine sim_iconst (1 : Int32) d_X0_addGuess_59 rfl ?_
        refine sim_isub d_X0_addGuess_60 ?_
        refine sim_iald d_X0_addGuess_61 ar_C_37 ?_
        refine sim_iload_n 2 d_X0_addGuess_62 rfl rfl ?_
        refine sim_icmp_le d_X0_addGuess_63 ?_ ?_
        ·
          exact sim_sub [0, 1, 2, 4] rfl (hk91 x1 x2 x4 M)
        ·
          refine sim_aload_n 0 d_X0_addGuess_66 rfl rfl ?_
          refine sim_geta d_X0_addGuess_67 fl_X0_22 ob_C_3 rfl ?_
          refine sim_iload 4 d_X0_addGuess_70 rfl ?_
          refine sim_aload_n 0 d_X0_addGuess_72 rfl rfl ?_
          refine sim_geta d_X0_addGuess_73 fl_X0_22 ob_C_3 rfl ?_
          refine sim_iload 4 d_X0_addGuess_76 rfl ?_
          refine sim_iconst (1 : Int32) d_X0_addGuess_78 rfl ?_
          refine sim_isub d_X0_addGuess_79 ?_
          refine sim_iald d_X0_addGuess_80 ar_C_37 ?_
          refine sim_iast d_X0_addGuess_81 ar_C_37 ?_
          refine sim_nmM (fun M1 => ?_)
          refine sim_iinc (v := x4 + (-1 : Int32)) (L' := [(0, .ref 3), (1, .int (x1)), (2, .int (x2)), (3, .int (x3)), (5, .int (x5)), (4, .int (x4 + (-1 : Int32)))]) 4 d_X0_addGuess_82 (Nat.le_of_ble_eq_true rfl) rfl rfl rfl ?_
          refine sim_iinc (v := x5 + (1 : Int32)) (L' := [(0, .ref 3), (1, .int (x1)), (2, .int (x2)), (3, .int (x3)), (4, .int (x4 + (-1 : Int32))), (5, .int (x5 + (1 : Int32)))]) 4 d_X0_addGuess_85 (Nat.le_of_ble_eq_true rfl) rfl rfl rfl ?_
          refine sim_goto d_X0_addGuess_88 ?_
          exact sim_sub [0, 1, 2, 3, 4, 5] rfl (ih x1 x2 x3 (x4 + (-1 : Int32)) (x5 + (1 : Int32)) M1)
def f_X0_addGuess_91 (x1 : Int32) (x2 : Int32) (x4 : Int32) (M : mm_M) : Option (Int32 × mm_M) :=
  mm_ck x4 96 (
  mm_let (sI M 37 x4.toNatClampNeg x2) (fun M1 =>
  mm_ck x1 8 (
  mm_ck x1 8 (
  mm_let (sI M1 36 x1.toNatClampNeg ((mI M1 36 x1.toNatClampNeg) + (1 : Int32))) (fun M2 =>
  mm_ck x1 8 (
  some (mI M2 36 x1.toNatClampNeg, M2)))))))
theorem s_X0_addGuess_91 (x1 : Int32) (x2 : Int32) (x4 : Int32) (M : mm_M) : Sim sysC Y_X0_addGuess 1 91 [(0, .ref 3), (1, .int (x1)), (2, .int (x2)), (4, .int (x4))] [] M mm_fI (f_X0_addGuess_91 x1 x2 x4 M) := by
  unfold f_X0_addGuess_91
  refine sim_aload_n 0 d_X0_addGuess_91 rfl rfl ?_
  refine sim_geta d_X0_addGuess_92 fl_X0_22 ob_C_3 rfl ?_
  refine sim_iload 3 d_X0_addGuess_95 rfl ?_
  refine sim_iload_n 2 d_X0_addGuess_97 rfl rfl ?_
  refine sim_iast d_X0_addGuess_98 ar_C_37 ?_
  refine sim_nmM (fun M1 => ?_)
  refine sim_aload_n 0 d_X0_addGuess_99 rfl rfl ?_
  refine sim_geta d_X0_addGuess_100 fl_X0_19 ob_C_3 rfl ?_
  refine sim_iload_n 1 d_X0_addGuess_103 rfl rfl ?_
  refine sim_dup2_11 d_X0_addGuess_104 rfl rfl ?_
  refine sim_iald d_X0_addGuess_105 ar_C_36 ?_
  refine sim_iconst (1 : Int32) d_X0_addGuess_106 rfl ?_
  refine sim_iadd d_X0_addGuess_107 ?_
  refine sim_iast d_X0_addGuess_108 ar_C_36 ?_
  refine sim_nmM (fun M2 => ?_)
  refine sim_aload_n 0 d_X0_addGuess_109 rfl rfl ?_
  refine sim_geta d_X0_addGuess_110 fl_X0_19 ob_C_3 rfl ?_
  refine sim_iload_n 1 d_X0_addGuess_113 rfl rfl ?_
  refine sim_iald d_X0_addGuess_114 ar_C_36 ?_
  exact sim_iret d_X0_addGuess_115 rfl
def f_X0_addGuess (a1 : Int32) (a2 : Int32) (M : mm_M) : Option (Int32 × mm_M) :=
  mm_bi (f_X0_has a1 M) (fun r1 M1 =>
  if r1 = 0 then
    some ((-6 : Int32), M1)
  else
    mm_ck a1 8 (
    if (mI M1 36 a1.toNatClampNeg) < (12 : Int32) then
      mm_let (a1 * (12 : Int32)) (fun v1 =>
      mm_ck a1 8 (
      mm_let (v1 + (mI M1 36 a1.toNatClampNeg)) (fun v2 =>
      f_X0_addGuess_40 f_X0_addGuess_91 mm_fu a1 a2 v1 v2 (0 : Int32) M1)))
    else
      some ((-6 : Int32), M1)))
theorem s_X0_addGuess (a1 : Int32) (a2 : Int32) (M : mm_M) : Sim sysC Y_X0_addGuess 1 0 [(0, .ref 3), (1, .int (a1)), (2, .int (a2))] [] M mm_fI (f_X0_addGuess a1 a2 M) := by
  unfold f_X0_addGuess
  refine sim_aload_n 0 d_X0_addGuess_0 rfl rfl ?_
  refine sim_iload_n 1 d_X0_addGuess_1 rfl rfl ?_
  refine sim_callVi Y_X0_has 0 [.int (a1)] [] d_X0_addGuess_2 lk_X0_28 cv_X0_has ob_C_3 rfl (by omega) (Nat.le_of_ble_eq_true rfl) (ct_X0_has a1 M) (fun r1 M1 => ?_)
  refine sim_if_eq d_X0_addGuess_5 ?_ ?_
  ·
    refine sim_bipush (-6 : Int32) d_X0_addGuess_19 rfl ?_
    exact sim_iret d_X0_addGuess_21 rfl
  ·
    refine sim_aload_n 0 d_X0_addGuess_8 rfl rfl ?_
    refine sim_geta d_X0_addGuess_9 fl_X0_19 ob_C_3 rfl ?_
    refine sim_iload_n 1 d_X0_addGuess_12 rfl rfl ?_
    refine sim_iald d_X0_addGuess_13 ar_C_36 ?_
    refine sim_bipush (12 : Int32) d_X0_addGuess_14 rfl ?_
    refine sim_icmp_lt d_X0_addGuess_16 ?_ ?_
    ·
      refine sim_iload_n 1 d_X0_addGuess_22 rfl rfl ?_
      refine sim_bipush (12 : Int32) d_X0_addGuess_23 rfl ?_
      refine sim_imul d_X0_addGuess_25 ?_
      refine sim_nmi (fun v1 => ?_)
      refine sim_istore_n (L' := [(0, .ref 3), (1, .int (a1)), (2, .int (a2)), (3, .int (v1))]) d_X0_addGuess_26 rfl (Nat.le_of_ble_eq_true rfl) rfl ?_
      refine sim_iload_n 3 d_X0_addGuess_27 rfl rfl ?_
      refine sim_aload_n 0 d_X0_addGuess_28 rfl rfl ?_
      refine sim_geta d_X0_addGuess_29 fl_X0_19 ob_C_3 rfl ?_
      refine sim_iload_n 1 d_X0_addGuess_32 rfl rfl ?_
      refine sim_iald d_X0_addGuess_33 ar_C_36 ?_
      refine sim_iadd d_X0_addGuess_34 ?_
      refine sim_nmi (fun v2 => ?_)
      refine sim_istore (L' := [(0, .ref 3), (1, .int (a1)), (2, .int (a2)), (3, .int (v1)), (4, .int (v2))]) d_X0_addGuess_35 (Nat.le_of_ble_eq_true rfl) rfl ?_
      refine sim_iconst (0 : Int32) d_X0_addGuess_37 rfl ?_
      refine sim_istore (L' := [(0, .ref 3), (1, .int (a1)), (2, .int (a2)), (3, .int (v1)), (4, .int (v2)), (5, .int ((0 : Int32)))]) d_X0_addGuess_38 (Nat.le_of_ble_eq_true rfl) rfl ?_
      exact sim_sub [0, 1, 2, 3, 4, 5] rfl (s_X0_addGuess_40 f_X0_addGuess_91 s_X0_addGuess_91 mm_fu a1 a2 v1 v2 (0 : Int32) M1)
    ·
      refine sim_bipush (-6 : Int32) d_X0_addGuess_19 rfl ?_
      exact sim_iret d_X0_addGuess_21 rfl
theorem ct_X0_addGuess (a1 : Int32) (a2 : Int32) (M : mm_M) : Ct sysC Y_X0_addGuess 1 [.ref 3, .int (a1), .int (a2)] M mm_fI (f_X0_addGuess a1 a2 M) :=
  ct_of_sim (by decide) rfl (Nat.le_of_ble_eq_true rfl) (s_X0_addGuess a1 a2 M)
def f_X11_guess_69 (M : mm_M) : Option (Int32 × mm_M) :=
  mm_bi (f_X11_refuse (-6 : Int32) M) (fun r1 M1 =>
  some (r1, M1))
theorem s_X11_guess_69 (M : mm_M) : Sim sysC Y_X11_guess 2 69 [(0, .ref 0)] [] M mm_fI (f_X11_guess_69 M) := by
  unfold f_X11_guess_69
  refine sim_aload_n 0 d_X11_guess_69 rfl rfl ?_
  refine sim_bipush (-6 : Int32) d_X11_guess_70 rfl ?_
  refine sim_callVi Y_X11_refuse 0 [.int ((-6 : Int32))] [] d_X11_guess_72 lk_X11_108 cv_X11_refuse ob_C_0 rfl (by omega) (Nat.le_of_ble_eq_true rfl) (ct_X11_refuse (-6 : Int32) M) (fun r1 M1 => ?_)
  exact sim_iret d_X11_guess_75 rfl
def f_X11_guess (a1 : Int32) (a2 : Int32) (M : mm_M) : Option (Int32 × mm_M) :=
  mm_bi (f_X0_has a1 M) (fun r1 M1 =>
  if r1 = 0 then
    mm_bi (f_X11_refuse (-1 : Int32) M1) (fun r5 M5 =>
    some (r5, M5))
  else
    mm_ck a1 8 (
    if (mI M1 34 a1.toNatClampNeg) = 0 then
      mm_bi (f_X11_refuse (-5 : Int32) M1) (fun r4 M4 =>
      some (r4, M4))
    else
      if (8 : Int32) ≤ a2 then
        if (25 : Int32) < a2 then
          f_X11_guess_69 M1
        else
          mm_ck a1 8 (
          if (mI M1 36 a1.toNatClampNeg) < (12 : Int32) then
            mm_bi (f_X0_addGuess a1 a2 M1) (fun r2 M2 =>
            some (r2, M2))
          else
            f_X11_guess_69 M1)
      else
        mm_bi (f_X11_refuse (-4 : Int32) M1) (fun r3 M3 =>
        some (r3, M3))))
theorem s_X11_guess (a1 : Int32) (a2 : Int32) (M : mm_M) : Sim sysC Y_X11_guess 2 0 [(0, .ref 0), (1, .int (a1)), (2, .int (a2))] [] M mm_fI (f_X11_guess a1 a2 M) := by
  unfold f_X11_guess
  refine sim_aload_n 0 d_X11_guess_0 rfl rfl ?_
  refine sim_geta d_X11_guess_1 fl_X11_25 ob_C_0 rfl ?_
  refine sim_iload_n 1 d_X11_guess_4 rfl rfl ?_
  refine sim_callVi Y_X0_has 0 [.int (a1)] [] d_X11_guess_5 lk_X11_151 cv_X0_has ob_C_3 rfl (by omega) (Nat.le_of_ble_eq_true rfl) (ct_X0_has a1 M) (fun r1 M1 => ?_)
  refine sim_if_ne d_X11_guess_8 ?_ ?_
  ·
    refine sim_aload_n 0 d_X11_guess_17 rfl rfl ?_
    refine sim_geta d_X11_guess_18 fl_X11_25 ob_C_0 rfl ?_
    refine sim_geta d_X11_guess_21 fl_X11_158 ob_C_3 rfl ?_
    refine sim_iload_n 1 d_X11_guess_24 rfl rfl ?_
    refine sim_zald d_X11_guess_25 ar_C_34 ?_
    refine sim_if_ne d_X11_guess_26 ?_ ?_
    ·
      refine sim_iload_n 2 d_X11_guess_36 rfl rfl ?_
      refine sim_bipush (8 : Int32) d_X11_guess_37 rfl ?_
      refine sim_icmp_ge d_X11_guess_39 ?_ ?_
      ·
        refine sim_iload_n 2 d_X11_guess_49 rfl rfl ?_
        refine sim_bipush (25 : Int32) d_X11_guess_50 rfl ?_
        refine sim_icmp_gt d_X11_guess_52 ?_ ?_
        ·
          exact sim_sub [0] rfl (s_X11_guess_69 M1)
        ·
          refine sim_aload_n 0 d_X11_guess_55 rfl rfl ?_
          refine sim_geta d_X11_guess_56 fl_X11_25 ob_C_0 rfl ?_
          refine sim_geta d_X11_guess_59 fl_X11_161 ob_C_3 rfl ?_
          refine sim_iload_n 1 d_X11_guess_62 rfl rfl ?_
          refine sim_iald d_X11_guess_63 ar_C_36 ?_
          refine sim_bipush (12 : Int32) d_X11_guess_64 rfl ?_
          refine sim_icmp_lt d_X11_guess_66 ?_ ?_
          ·
            refine sim_aload_n 0 d_X11_guess_76 rfl rfl ?_
            refine sim_geta d_X11_guess_77 fl_X11_25 ob_C_0 rfl ?_
            refine sim_iload_n 1 d_X11_guess_80 rfl rfl ?_
            refine sim_iload_n 2 d_X11_guess_81 rfl rfl ?_
            refine sim_callVi Y_X0_addGuess 1 [.int (a1), .int (a2)] [] d_X11_guess_82 lk_X11_164 cv_X0_addGuess ob_C_3 rfl (by omega) (Nat.le_of_ble_eq_true rfl) (ct_X0_addGuess a1 a2 M1) (fun r2 M2 => ?_)
            exact sim_iret d_X11_guess_85 rfl
          ·
            exact sim_sub [0] rfl (s_X11_guess_69 M1)
      ·
        refine sim_aload_n 0 d_X11_guess_42 rfl rfl ?_
        refine sim_bipush (-4 : Int32) d_X11_guess_43 rfl ?_
        refine sim_callVi Y_X11_refuse 0 [.int ((-4 : Int32))] [] d_X11_guess_45 lk_X11_108 cv_X11_refuse ob_C_0 rfl (by omega) (Nat.le_of_ble_eq_true rfl) (ct_X11_refuse (-4 : Int32) M1) (fun r3 M3 => ?_)
        exact sim_iret d_X11_guess_48 rfl
    ·
      refine sim_aload_n 0 d_X11_guess_29 rfl rfl ?_
      refine sim_bipush (-5 : Int32) d_X11_guess_30 rfl ?_
      refine sim_callVi Y_X11_refuse 0 [.int ((-5 : Int32))] [] d_X11_guess_32 lk_X11_108 cv_X11_refuse ob_C_0 rfl (by omega) (Nat.le_of_ble_eq_true rfl) (ct_X11_refuse (-5 : Int32) M1) (fun r4 M4 => ?_)
      exact sim_iret d_X11_guess_35 rfl
  ·
    refine sim_aload_n 0 d_X11_guess_11 rfl rfl ?_
    refine sim_iconst (-1 : Int32) d_X11_guess_12 rfl ?_
    refine sim_callVi Y_X11_refuse 0 [.int ((-1 : Int32))] [] d_X11_guess_13 lk_X11_108 cv_X11_refuse ob_C_0 rfl (by omega) (Nat.le_of_ble_eq_true rfl) (ct_X11_refuse (-1 : Int32) M1) (fun r5 M5 => ?_)
    exact sim_iret d_X11_guess_16 rfl
theorem ct_X11_guess (a1 : Int32) (a2 : Int32) (M : mm_M) : Ct sysC Y_X11_guess 2 [.ref 0, .int (a1), .int (a2)] M mm_fI (f_X11_guess a1 a2 M) :=
  ct_of_sim (by decide) rfl (Nat.le_of_ble_eq_true rfl) (s_X11_guess a1 a2 M)
def f_X0_age (a1 : Int32) (a2 : Int32) (M : mm_M) : Option (Int32 × mm_M) :=
  mm_bi (f_X0_has a1 M) (fun r1 M1 =>
  if r1 = 0 then
    some ((0 : Int32), M1)
  else
    mm_ck a1 8 (
    some ((a2 - (mI M1 35 a1.toNatClampNeg)) / (365 : Int32), M1)))
theorem s_X0_age (a1 : Int32) (a2 : Int32) (M : mm_M) : Sim sysC Y_X0_age 1 0 [(0, .ref 3), (1, .int (a1)), (2, .int (a2))] [] M mm_fI (f_X0_age a1 a2 M) := by
  unfold f_X0_age
  refine sim_aload_n 0 d_X0_age_0 rfl rfl ?_
  refine sim_iload_n 1 d_X0_age_1 rfl rfl ?_
  refine sim_callVi Y_X0_has 0 [.int (a1)] [] d_X0_age_2 lk_X0_28 cv_X0_has ob_C_3 rfl (by omega) (Nat.le_of_ble_eq_true rfl) (ct_X0_has a1 M) (fun r1 M1 => ?_)
  refine sim_if_eq d_X0_age_5 ?_ ?_
  ·
    refine sim_iconst (0 : Int32) d_X0_age_23 rfl ?_
    exact sim_iret d_X0_age_24 rfl
  ·
    refine sim_iload_n 2 d_X0_age_8 rfl rfl ?_
    refine sim_aload_n 0 d_X0_age_9 rfl rfl ?_
    refine sim_geta d_X0_age_10 fl_X0_15 ob_C_3 rfl ?_
    refine sim_iload_n 1 d_X0_age_13 rfl rfl ?_
    refine sim_iald d_X0_age_14 ar_C_35 ?_
    refine sim_isub d_X0_age_15 ?_
    refine sim_sipush (365 : Int32) d_X0_age_16 rfl ?_
    refine sim_idivc d_X0_age_19 (by decide) ?_
    refine sim_goto d_X0_age_20 ?_
    exact sim_iret d_X0_age_24 rfl
theorem ct_X0_age (a1 : Int32) (a2 : Int32) (M : mm_M) : Ct sysC Y_X0_age 1 [.ref 3, .int (a1), .int (a2)] M mm_fI (f_X0_age a1 a2 M) :=
  ct_of_sim (by decide) rfl (Nat.le_of_ble_eq_true rfl) (s_X0_age a1 a2 M)
def f_X0_looks_29 (x1 : Int32) (x2 : Int32) (M : mm_M) : Option (Int32 × mm_M) :=
  mm_bi (f_X0_age x1 x2 M) (fun r1 M1 =>
  some (r1, M1))
theorem s_X0_looks_29 (x1 : Int32) (x2 : Int32) (M : mm_M) : Sim sysC Y_X0_looks 2 29 [(0, .ref 3), (1, .int (x1)), (2, .int (x2))] [] M mm_fI (f_X0_looks_29 x1 x2 M) := by
  unfold f_X0_looks_29
  refine sim_aload_n 0 d_X0_looks_29 rfl rfl ?_
  refine sim_iload_n 1 d_X0_looks_30 rfl rfl ?_
  refine sim_iload_n 2 d_X0_looks_31 rfl rfl ?_
  refine sim_callVi Y_X0_age 1 [.int (x1), .int (x2)] [] d_X0_looks_32 lk_X0_32 cv_X0_age ob_C_3 rfl (by omega) (Nat.le_of_ble_eq_true rfl) (ct_X0_age x1 x2 M) (fun r1 M1 => ?_)
  exact sim_iret d_X0_looks_35 rfl
def f_X0_looks (a1 : Int32) (a2 : Int32) (M : mm_M) : Option (Int32 × mm_M) :=
  mm_bi (f_X0_has a1 M) (fun r1 M1 =>
  if r1 = 0 then
    f_X0_looks_29 a1 a2 M1
  else
    mm_ck a1 8 (
    if (mI M1 36 a1.toNatClampNeg) < (1 : Int32) then
      f_X0_looks_29 a1 a2 M1
    else
      mm_ck a1 8 (
      if (mI M1 36 a1.toNatClampNeg) ≤ (12 : Int32) then
        mm_ck a1 8 (
        mm_ck ((a1 * (12 : Int32)) + ((mI M1 36 a1.toNatClampNeg) / (2 : Int32))) 96 (
        some (mI M1 37 ((a1 * (12 : Int32)) + ((mI M1 36 a1.toNatClampNeg) / (2 : Int32))).toNatClampNeg, M1)))
      else
        f_X0_looks_29 a1 a2 M1)))
theorem s_X0_looks (a1 : Int32) (a2 : Int32) (M : mm_M) : Sim sysC Y_X0_looks 2 0 [(0, .ref 3), (1, .int (a1)), (2, .int (a2))] [] M mm_fI (f_X0_looks a1 a2 M) := by
  unfold f_X0_looks
  refine sim_aload_n 0 d_X0_looks_0 rfl rfl ?_
  refine sim_iload_n 1 d_X0_looks_1 rfl rfl ?_
  refine sim_callVi Y_X0_has 0 [.int (a1)] [] d_X0_looks_2 lk_X0_28 cv_X0_has ob_C_3 rfl (by omega) (Nat.le_of_ble_eq_true rfl) (ct_X0_has a1 M) (fun r1 M1 => ?_)
  refine sim_if_eq d_X0_looks_5 ?_ ?_
  ·
    exact sim_sub [0, 1, 2] rfl (s_X0_looks_29 a1 a2 M1)
  ·
    refine sim_aload_n 0 d_X0_looks_8 rfl rfl ?_
    refine sim_geta d_X0_looks_9 fl_X0_19 ob_C_3 rfl ?_
    refine sim_iload_n 1 d_X0_looks_12 rfl rfl ?_
    refine sim_iald d_X0_looks_13 ar_C_36 ?_
    refine sim_iconst (1 : Int32) d_X0_looks_14 rfl ?_
    refine sim_icmp_lt d_X0_looks_15 ?_ ?_
    ·
      exact sim_sub [0, 1, 2] rfl (s_X0_looks_29 a1 a2 M1)
    ·
      refine sim_aload_n 0 d_X0_looks_18 rfl rfl ?_
      refine sim_geta d_X0_looks_19 fl_X0_19 ob_C_3 rfl ?_
      refine sim_iload_n 1 d_X0_looks_22 rfl rfl ?_
      refine sim_iald d_X0_looks_23 ar_C_36 ?_
      refine sim_bipush (12 : Int32) d_X0_looks_24 rfl ?_
      refine sim_icmp_le d_X0_looks_26 ?_ ?_
      ·
        refine sim_aload_n 0 d_X0_looks_36 rfl rfl ?_
        refine sim_geta d_X0_looks_37 fl_X0_22 ob_C_3 rfl ?_
        refine sim_iload_n 1 d_X0_looks_40 rfl rfl ?_
        refine sim_bipush (12 : Int32) d_X0_looks_41 rfl ?_
        refine sim_imul d_X0_looks_43 ?_
        refine sim_aload_n 0 d_X0_looks_44 rfl rfl ?_
        refine sim_geta d_X0_looks_45 fl_X0_19 ob_C_3 rfl ?_
        refine sim_iload_n 1 d_X0_looks_48 rfl rfl ?_
        refine sim_iald d_X0_looks_49 ar_C_36 ?_
        refine sim_iconst (2 : Int32) d_X0_looks_50 rfl ?_
        refine sim_idivc d_X0_looks_51 (by decide) ?_
        refine sim_iadd d_X0_looks_52 ?_
        refine sim_iald d_X0_looks_53 ar_C_37 ?_
        exact sim_iret d_X0_looks_54 rfl
      ·
        exact sim_sub [0, 1, 2] rfl (s_X0_looks_29 a1 a2 M1)
theorem ct_X0_looks (a1 : Int32) (a2 : Int32) (M : mm_M) : Ct sysC Y_X0_looks 2 [.ref 3, .int (a1), .int (a2)] M mm_fI (f_X0_looks a1 a2 M) :=
  ct_of_sim (by decide) rfl (Nat.le_of_ble_eq_true rfl) (s_X0_looks a1 a2 M)
def f_X11_childOf_52 (x1 : Int32) (x2 : Int32) (M : mm_M) : Option (Int32 × mm_M) :=
  if x2 = 0 then
    mm_bi (f_X0_age x1 (mI M 0 16) M) (fun r2 M2 =>
    some (r2, M2))
  else
    mm_bi (f_X0_looks x1 (mI M 0 16) M) (fun r1 M1 =>
    some (r1, M1))
theorem s_X11_childOf_52 (x1 : Int32) (x2 : Int32) (M : mm_M) : Sim sysC Y_X11_childOf 3 52 [(0, .ref 0), (1, .int (x1)), (2, .int (x2))] [] M mm_fI (f_X11_childOf_52 x1 x2 M) := by
  unfold f_X11_childOf_52
  refine sim_iload_n 2 d_X11_childOf_52 rfl rfl ?_
  refine sim_if_ne d_X11_childOf_53 ?_ ?_
  ·
    refine sim_aload_n 0 d_X11_childOf_71 rfl rfl ?_
    refine sim_geta d_X11_childOf_72 fl_X11_25 ob_C_0 rfl ?_
    refine sim_iload_n 1 d_X11_childOf_75 rfl rfl ?_
    refine sim_aload_n 0 d_X11_childOf_76 rfl rfl ?_
    refine sim_geti d_X11_childOf_77 fl_X11_102 ob_C_0 rfl ?_
    refine sim_callVi Y_X0_looks 2 [.int (x1), .int (mI M 0 16)] [] d_X11_childOf_80 lk_X11_170 cv_X0_looks ob_C_3 rfl (by omega) (Nat.le_of_ble_eq_true rfl) (ct_X0_looks x1 (mI M 0 16) M) (fun r1 M1 => ?_)
    exact sim_iret d_X11_childOf_83 rfl
  ·
    refine sim_aload_n 0 d_X11_childOf_56 rfl rfl ?_
    refine sim_geta d_X11_childOf_57 fl_X11_25 ob_C_0 rfl ?_
    refine sim_iload_n 1 d_X11_childOf_60 rfl rfl ?_
    refine sim_aload_n 0 d_X11_childOf_61 rfl rfl ?_
    refine sim_geti d_X11_childOf_62 fl_X11_102 ob_C_0 rfl ?_
    refine sim_callVi Y_X0_age 1 [.int (x1), .int (mI M 0 16)] [] d_X11_childOf_65 lk_X11_167 cv_X0_age ob_C_3 rfl (by omega) (Nat.le_of_ble_eq_true rfl) (ct_X0_age x1 (mI M 0 16) M) (fun r2 M2 => ?_)
    refine sim_goto d_X11_childOf_68 ?_
    exact sim_iret d_X11_childOf_83 rfl
def f_X11_childOf (a1 : Int32) (a2 : Int32) (M : mm_M) : Option (Int32 × mm_M) :=
  mm_bi (f_X0_has a1 M) (fun r1 M1 =>
  if r1 = 0 then
    mm_bi (f_X11_refuse (-1 : Int32) M1) (fun r4 M4 =>
    some (r4, M4))
  else
    mm_ck a1 8 (
    if (mI M1 34 a1.toNatClampNeg) = 0 then
      mm_bi (f_X11_refuse (-5 : Int32) M1) (fun r3 M3 =>
      some (r3, M3))
    else
      if a2 = 0 then
        f_X11_childOf_52 a1 a2 M1
      else
        if a2 = (1 : Int32) then
          f_X11_childOf_52 a1 a2 M1
        else
          mm_bi (f_X11_refuse (-2 : Int32) M1) (fun r2 M2 =>
          some (r2, M2))))
theorem s_X11_childOf (a1 : Int32) (a2 : Int32) (M : mm_M) : Sim sysC Y_X11_childOf 3 0 [(0, .ref 0), (1, .int (a1)), (2, .int (a2))] [] M mm_fI (f_X11_childOf a1 a2 M) := by
  unfold f_X11_childOf
  refine sim_aload_n 0 d_X11_childOf_0 rfl rfl ?_
  refine sim_geta d_X11_childOf_1 fl_X11_25 ob_C_0 rfl ?_
  refine sim_iload_n 1 d_X11_childOf_4 rfl rfl ?_
  refine sim_callVi Y_X0_has 0 [.int (a1)] [] d_X11_childOf_5 lk_X11_151 cv_X0_has ob_C_3 rfl (by omega) (Nat.le_of_ble_eq_true rfl) (ct_X0_has a1 M) (fun r1 M1 => ?_)
  refine sim_if_ne d_X11_childOf_8 ?_ ?_
  ·
    refine sim_aload_n 0 d_X11_childOf_17 rfl rfl ?_
    refine sim_geta d_X11_childOf_18 fl_X11_25 ob_C_0 rfl ?_
    refine sim_geta d_X11_childOf_21 fl_X11_158 ob_C_3 rfl ?_
    refine sim_iload_n 1 d_X11_childOf_24 rfl rfl ?_
    refine sim_zald d_X11_childOf_25 ar_C_34 ?_
    refine sim_if_ne d_X11_childOf_26 ?_ ?_
    ·
      refine sim_iload_n 2 d_X11_childOf_36 rfl rfl ?_
      refine sim_if_eq d_X11_childOf_37 ?_ ?_
      ·
        exact sim_sub [0, 1, 2] rfl (s_X11_childOf_52 a1 a2 M1)
      ·
        refine sim_iload_n 2 d_X11_childOf_40 rfl rfl ?_
        refine sim_iconst (1 : Int32) d_X11_childOf_41 rfl ?_
        refine sim_icmp_eq d_X11_childOf_42 ?_ ?_
        ·
          exact sim_sub [0, 1, 2] rfl (s_X11_childOf_52 a1 a2 M1)
        ·
          refine sim_aload_n 0 d_X11_childOf_45 rfl rfl ?_
          refine sim_bipush (-2 : Int32) d_X11_childOf_46 rfl ?_
          refine sim_callVi Y_X11_refuse 0 [.int ((-2 : Int32))] [] d_X11_childOf_48 lk_X11_108 cv_X11_refuse ob_C_0 rfl (by omega) (Nat.le_of_ble_eq_true rfl) (ct_X11_refuse (-2 : Int32) M1) (fun r2 M2 => ?_)
          exact sim_iret d_X11_childOf_51 rfl
    ·
      refine sim_aload_n 0 d_X11_childOf_29 rfl rfl ?_
      refine sim_bipush (-5 : Int32) d_X11_childOf_30 rfl ?_
      refine sim_callVi Y_X11_refuse 0 [.int ((-5 : Int32))] [] d_X11_childOf_32 lk_X11_108 cv_X11_refuse ob_C_0 rfl (by omega) (Nat.le_of_ble_eq_true rfl) (ct_X11_refuse (-5 : Int32) M1) (fun r3 M3 => ?_)
      exact sim_iret d_X11_childOf_35 rfl
  ·
    refine sim_aload_n 0 d_X11_childOf_11 rfl rfl ?_
    refine sim_iconst (-1 : Int32) d_X11_childOf_12 rfl ?_
    refine sim_callVi Y_X11_refuse 0 [.int ((-1 : Int32))] [] d_X11_childOf_13 lk_X11_108 cv_X11_refuse ob_C_0 rfl (by omega) (Nat.le_of_ble_eq_true rfl) (ct_X11_refuse (-1 : Int32) M1) (fun r4 M4 => ?_)
    exact sim_iret d_X11_childOf_16 rfl
theorem ct_X11_childOf (a1 : Int32) (a2 : Int32) (M : mm_M) : Ct sysC Y_X11_childOf 3 [.ref 0, .int (a1), .int (a2)] M mm_fI (f_X11_childOf a1 a2 M) :=
  ct_of_sim (by decide) rfl (Nat.le_of_ble_eq_true rfl) (s_X11_childOf a1 a2 M)
def f_X0_setKnown (a1 : Int32) (a2 : Int32) (a3 : Int32) (M : mm_M) : Option (Int32 × mm_M) :=
  mm_bi (f_X0_has a1 M) (fun r1 M1 =>
  if r1 = 0 then
    some ((0 : Int32), M1)
  else
    if a2 < 0 then
      some ((0 : Int32), M1)
    else
      if (40 : Int32) ≤ a2 then
        some ((0 : Int32), M1)
      else
        mm_ck ((a1 * (40 : Int32)) + a2) 320 (
        if (mI M1 38 ((a1 * (40 : Int32)) + a2).toNatClampNeg) = a3 then
          some ((0 : Int32), M1)
        else
          mm_ck ((a1 * (40 : Int32)) + a2) 320 (
          mm_let (sI M1 38 ((a1 * (40 : Int32)) + a2).toNatClampNeg (a3 &&& 1)) (fun M2 =>
          some ((1 : Int32), M2)))))
theorem s_X0_setKnown (a1 : Int32) (a2 : Int32) (a3 : Int32) (M : mm_M) : Sim sysC Y_X0_setKnown 1 0 [(0, .ref 3), (1, .int (a1)), (2, .int (a2)), (3, .int (a3))] [] M mm_fI (f_X0_setKnown a1 a2 a3 M) := by
  unfold f_X0_setKnown
  refine sim_aload_n 0 d_X0_setKnown_0 rfl rfl ?_
  refine sim_iload_n 1 d_X0_setKnown_1 rfl rfl ?_
  refine sim_callVi Y_X0_has 0 [.int (a1)] [] d_X0_setKnown_2 lk_X0_28 cv_X0_has ob_C_3 rfl (by omega) (Nat.le_of_ble_eq_true rfl) (ct_X0_has a1 M) (fun r1 M1 => ?_)
  refine sim_if_eq d_X0_setKnown_5 ?_ ?_
  ·
    refine sim_iconst (0 : Int32) d_X0_setKnown_33 rfl ?_
    exact sim_zret d_X0_setKnown_34 rfl rfl
  ·
    refine sim_iload_n 2 d_X0_setKnown_8 rfl rfl ?_
    refine sim_if_lt d_X0_setKnown_9 ?_ ?_
    ·
      refine sim_iconst (0 : Int32) d_X0_setKnown_33 rfl ?_
      exact sim_zret d_X0_setKnown_34 rfl rfl
    ·
      refine sim_iload_n 2 d_X0_setKnown_12 rfl rfl ?_
      refine sim_bipush (40 : Int32) d_X0_setKnown_13 rfl ?_
      refine sim_icmp_ge d_X0_setKnown_15 ?_ ?_
      ·
        refine sim_iconst (0 : Int32) d_X0_setKnown_33 rfl ?_
        exact sim_zret d_X0_setKnown_34 rfl rfl
      ·
        refine sim_aload_n 0 d_X0_setKnown_18 rfl rfl ?_
        refine sim_geta d_X0_setKnown_19 fl_X0_25 ob_C_3 rfl ?_
        refine sim_iload_n 1 d_X0_setKnown_22 rfl rfl ?_
        refine sim_bipush (40 : Int32) d_X0_setKnown_23 rfl ?_
        refine sim_imul d_X0_setKnown_25 ?_
        refine sim_iload_n 2 d_X0_setKnown_26 rfl rfl ?_
        refine sim_iadd d_X0_setKnown_27 ?_
        refine sim_zald d_X0_setKnown_28 ar_C_38 ?_
        refine sim_iload_n 3 d_X0_setKnown_29 rfl rfl ?_
        refine sim_icmp_ne d_X0_setKnown_30 ?_ ?_
        ·
          refine sim_aload_n 0 d_X0_setKnown_35 rfl rfl ?_
          refine sim_geta d_X0_setKnown_36 fl_X0_25 ob_C_3 rfl ?_
          refine sim_iload_n 1 d_X0_setKnown_39 rfl rfl ?_
          refine sim_bipush (40 : Int32) d_X0_setKnown_40 rfl ?_
          refine sim_imul d_X0_setKnown_42 ?_
          refine sim_iload_n 2 d_X0_setKnown_43 rfl rfl ?_
          refine sim_iadd d_X0_setKnown_44 ?_
          refine sim_iload_n 3 d_X0_setKnown_45 rfl rfl ?_
          refine sim_zast d_X0_setKnown_46 ar_C_38 ?_
          refine sim_nmM (fun M2 => ?_)
          refine sim_iconst (1 : Int32) d_X0_setKnown_47 rfl ?_
          exact sim_zret d_X0_setKnown_48 rfl rfl
        ·
          refine sim_iconst (0 : Int32) d_X0_setKnown_33 rfl ?_
          exact sim_zret d_X0_setKnown_34 rfl rfl
theorem ct_X0_setKnown (a1 : Int32) (a2 : Int32) (a3 : Int32) (M : mm_M) : Ct sysC Y_X0_setKnown 1 [.ref 3, .int (a1), .int (a2), .int (a3)] M mm_fI (f_X0_setKnown a1 a2 a3 M) :=
  ct_of_sim (by decide) rfl (Nat.le_of_ble_eq_true rfl) (s_X0_setKnown a1 a2 a3 M)
def f_X11_known_22 (M : mm_M) : Option (Int32 × mm_M) :=
  mm_bi (f_X11_refuse (-1 : Int32) M) (fun r1 M1 =>
  some (r1, M1))
theorem s_X11_known_22 (M : mm_M) : Sim sysC Y_X11_known 2 22 [(0, .ref 0)] [] M mm_fI (f_X11_known_22 M) := by
  unfold f_X11_known_22
  refine sim_aload_n 0 d_X11_known_22 rfl rfl ?_
  refine sim_iconst (-1 : Int32) d_X11_known_23 rfl ?_
  refine sim_callVi Y_X11_refuse 0 [.int ((-1 : Int32))] [] d_X11_known_24 lk_X11_108 cv_X11_refuse ob_C_0 rfl (by omega) (Nat.le_of_ble_eq_true rfl) (ct_X11_refuse (-1 : Int32) M) (fun r1 M1 => ?_)
  exact sim_iret d_X11_known_27 rfl
def f_X11_known (a1 : Int32) (a2 : Int32) (a3 : Int32) (M : mm_M) : Option (Int32 × mm_M) :=
  mm_bi (f_X0_has a1 M) (fun r1 M1 =>
  if r1 = 0 then
    f_X11_known_22 M1
  else
    mm_bi (f_X6_has a2 M1) (fun r2 M2 =>
    if r2 = 0 then
      f_X11_known_22 M2
    else
      mm_ck a1 8 (
      if (mI M2 34 a1.toNatClampNeg) = 0 then
        mm_bi (f_X11_refuse (-5 : Int32) M2) (fun r4 M4 =>
        some (r4, M4))
      else
        mm_bi (f_X0_setKnown a1 a2 a3 M2) (fun r3 M3 =>
        if r3 = 0 then
          some ((0 : Int32), M3)
        else
          some ((1 : Int32), M3)))))
theorem s_X11_known (a1 : Int32) (a2 : Int32) (a3 : Int32) (M : mm_M) : Sim sysC Y_X11_known 2 0 [(0, .ref 0), (1, .int (a1)), (2, .int (a2)), (3, .int (a3))] [] M mm_fI (f_X11_known a1 a2 a3 M) := by
  unfold f_X11_known
  refine sim_aload_n 0 d_X11_known_0 rfl rfl ?_
  refine sim_geta d_X11_known_1 fl_X11_25 ob_C_0 rfl ?_
  refine sim_iload_n 1 d_X11_known_4 rfl rfl ?_
  refine sim_callVi Y_X0_has 0 [.int (a1)] [] d_X11_known_5 lk_X11_151 cv_X0_has ob_C_3 rfl (by omega) (Nat.le_of_ble_eq_true rfl) (ct_X0_has a1 M) (fun r1 M1 => ?_)
  refine sim_if_eq d_X11_known_8 ?_ ?_
  ·
    exact sim_sub [0] rfl (s_X11_known_22 M1)
  ·
    refine sim_aload_n 0 d_X11_known_11 rfl rfl ?_
    refine sim_geta d_X11_known_12 fl_X11_20 ob_C_0 rfl ?_
    refine sim_iload_n 2 d_X11_known_15 rfl rfl ?_
    refine sim_callVi Y_X6_has 0 [.int (a2)] [] d_X11_known_16 lk_X11_128 cv_X6_has ob_C_2 rfl (by omega) (Nat.le_of_ble_eq_true rfl) (ct_X6_has a2 M1) (fun r2 M2 => ?_)
    refine sim_if_ne d_X11_known_19 ?_ ?_
    ·
      refine sim_aload_n 0 d_X11_known_28 rfl rfl ?_
      refine sim_geta d_X11_known_29 fl_X11_25 ob_C_0 rfl ?_
      refine sim_geta d_X11_known_32 fl_X11_158 ob_C_3 rfl ?_
      refine sim_iload_n 1 d_X11_known_35 rfl rfl ?_
      refine sim_zald d_X11_known_36 ar_C_34 ?_
      refine sim_if_ne d_X11_known_37 ?_ ?_
      ·
        refine sim_aload_n 0 d_X11_known_47 rfl rfl ?_
        refine sim_geta d_X11_known_48 fl_X11_25 ob_C_0 rfl ?_
        refine sim_iload_n 1 d_X11_known_51 rfl rfl ?_
        refine sim_iload_n 2 d_X11_known_52 rfl rfl ?_
        refine sim_iload_n 3 d_X11_known_53 rfl rfl ?_
        refine sim_callVi Y_X0_setKnown 1 [.int (a1), .int (a2), .int (a3)] [] d_X11_known_54 lk_X11_173 cv_X0_setKnown ob_C_3 rfl (by omega) (Nat.le_of_ble_eq_true rfl) (ct_X0_setKnown a1 a2 a3 M2) (fun r3 M3 => ?_)
        refine sim_if_eq d_X11_known_57 ?_ ?_
        ·
          refine sim_iconst (0 : Int32) d_X11_known_64 rfl ?_
          exact sim_iret d_X11_known_65 rfl
        ·
          refine sim_iconst (1 : Int32) d_X11_known_60 rfl ?_
          refine sim_goto d_X11_known_61 ?_
          exact sim_iret d_X11_known_65 rfl
      ·
        refine sim_aload_n 0 d_X11_known_40 rfl rfl ?_
        refine sim_bipush (-5 : Int32) d_X11_known_41 rfl ?_
        refine sim_callVi Y_X11_refuse 0 [.int ((-5 : Int32))] [] d_X11_known_43 lk_X11_108 cv_X11_refuse ob_C_0 rfl (by omega) (Nat.le_of_ble_eq_true rfl) (ct_X11_refuse (-5 : Int32) M2) (fun r4 M4 => ?_)
        exact sim_iret d_X11_known_46 rfl
    ·
      exact sim_sub [0] rfl (s_X11_known_22 M2)
theorem ct_X11_known (a1 : Int32) (a2 : Int32) (a3 : Int32) (M : mm_M) : Ct sysC Y_X11_known 2 [.ref 0, .int (a1), .int (a2), .int (a3)] M mm_fI (f_X11_known a1 a2 a3 M) :=
  ct_of_sim (by decide) rfl (Nat.le_of_ble_eq_true rfl) (s_X11_known a1 a2 a3 M)
def f_X6_openOnes_24 (k4 : Int32 → Int32 → mm_M → Option (Int32 × mm_M)) (x1 : Int32) (x2 : Int32) (M : mm_M) : Option (Int32 × mm_M) :=
  k4 x1 (x2 + (1 : Int32)) M
theorem s_X6_openOnes_24 (k4 : Int32 → Int32 → mm_M → Option (Int32 × mm_M)) (hk4 : ∀ (x1 : Int32) (x2 : Int32) (M : mm_M), Sim sysC Y_X6_openOnes 0 4 [(0, .ref 2), (1, .int (x1)), (2, .int (x2))] [] M mm_fI (k4 x1 x2 M)) (x1 : Int32) (x2 : Int32) (M : mm_M) : Sim sysC Y_X6_openOnes 0 24 [(0, .ref 2), (1, .int (x1)), (2, .int (x2))] [] M mm_fI (f_X6_openOnes_24 k4 x1 x2 M) := by
  unfold f_X6_openOnes_24
  refine sim_iinc (v := x2 + (1 : Int32)) (L' := [(0, .ref 2), (1, .int (x1)), (2, .int (x2 + (1 : Int32)))]) 2 d_X6_openOnes_24 (Nat.le_of_ble_eq_true rfl) rfl rfl rfl ?_
  refine sim_goto d_X6_openOnes_27 ?_
  exact sim_sub [0, 1, 2] rfl (hk4 x1 (x2 + (1 : Int32)) M)
def f_X6_openOnes_4 : Nat → Int32 → Int32 → mm_M → Option (Int32 × mm_M)
  | 0, _, _, _ => none
  | n + 1, x1, x2, M =>
  if (mI M 2 8) ≤ x2 then
    some (x1, M)
  else
    mm_ck x2 40 (
    if (mI M 31 x2.toNatClampNeg) = 0 then
      f_X6_openOnes_24 (f_X6_openOnes_4 n) x1 x2 M
    else
      f_X6_openOnes_24 (f_X6_openOnes_4 n) (x1 + (1 : Int32)) x2 M)
theorem s_X6_openOnes_4 (n : Nat) : ∀ (x1 : Int32) (x2 : Int32) (M : mm_M), Sim sysC Y_X6_openOnes 0 4 [(0, .ref 2), (1, .int (x1)), (2, .int (x2))] [] M mm_fI (f_X6_openOnes_4 n x1 x2 M) := by
  induction n with
  | zero => intros; exact sim_none
  | succ n ih =>
    intro x1 x2 M
    rw [f_X6_openOnes_4]
    refine sim_iload_n 2 d_X6_openOnes_4 rfl rfl ?_
    refine sim_aload_n 0 d_X6_openOnes_5 rfl rfl ?_
    refine sim_geti d_X6_openOnes_6 fl_X6_37 ob_C_2 rfl ?_
    refine sim_icmp_ge d_X6_openOnes_9 ?_ ?_
    ·
      refine sim_iload_n 1 d_X6_openOnes_30 rfl rfl ?_
      exact sim_iret d_X6_openOnes_31 rfl
    ·
      refine sim_aload_n 0 d_X6_openOnes_12 rfl rfl ?_
      refine sim_geta d_X6_openOnes_13 fl_X6_27 ob_C_2 rfl ?_
      refine sim_iload_n 2 d_X6_openOnes_16 rfl rfl ?_
      refine sim_zald d_X6_openOnes_17 ar_C_31 ?_
      refine sim_if_eq d_X6_openOnes_18 ?_ ?_
      ·
        exact sim_sub [0, 1, 2] rfl (s_X6_openOnes_24 (f_X6_openOnes_4 n) ih x1 x2 M)
      ·
        refine sim_iinc (v := x1 + (1 : Int32)) (L' := [(0, .ref 2), (2, .int (x2)), (1, .int (x1 + (1 : Int32)))]) 1 d_X6_openOnes_21 (Nat.le_of_ble_eq_true rfl) rfl rfl rfl ?_
        exact sim_sub [0, 2, 1] rfl (s_X6_openOnes_24 (f_X6_openOnes_4 n) ih (x1 + (1 : Int32)) x2 M)
def f_X6_openOnes (M : mm_M) : Option (Int32 × mm_M) :=
  f_X6_openOnes_4 mm_fu (0 : Int32) (0 : Int32) M
theorem s_X6_openOnes (M : mm_M) : Sim sysC Y_X6_openOnes 0 0 [(0, .ref 2)] [] M mm_fI (f_X6_openOnes M) := by
  unfold f_X6_openOnes
  refine sim_iconst (0 : Int32) d_X6_openOnes_0 rfl ?_
  refine sim_istore_n (L' := [(0, .ref 2), (1, .int ((0 : Int32)))]) d_X6_openOnes_1 rfl (Nat.le_of_ble_eq_true rfl) rfl ?_
  refine sim_iconst (0 : Int32) d_X6_openOnes_2 rfl ?_
  refine sim_istore_n (L' := [(0, .ref 2), (1, .int ((0 : Int32))), (2, .int ((0 : Int32)))]) d_X6_openOnes_3 rfl (Nat.le_of_ble_eq_true rfl) rfl ?_
  exact sim_sub [0, 1, 2] rfl (s_X6_openOnes_4 mm_fu (0 : Int32) (0 : Int32) M)
theorem ct_X6_openOnes (M : mm_M) : Ct sysC Y_X6_openOnes 0 [.ref 2] M mm_fI (f_X6_openOnes M) :=
  ct_of_sim (by decide) rfl (Nat.le_of_ble_eq_true rfl) (s_X6_openOnes M)
def f_X11_takeLettersAway_2 : Nat → Int32 → mm_M → Option (mm_M)
  | 0, _, _ => none
  | n + 1, x1, M =>
  if (40 : Int32) ≤ x1 then
    mm_let (sI M 0 15 (0 : Int32)) (fun M1 =>
    some M1)
  else
    mm_ck x1 40 (
    mm_let (sI M 16 x1.toNatClampNeg ((0 : Int32) &&& 1)) (fun M2 =>
    f_X11_takeLettersAway_2 n (x1 + (1 : Int32)) M2))
theorem s_X11_takeLettersAway_2 (n : Nat) : ∀ (x1 : Int32) (M : mm_M), Sim sysC Y_X11_takeLettersAway 0 2 [(0, .ref 0), (1, .int (x1))] [] M mm_fV (f_X11_takeLettersAway_2 n x1 M) := by
  induction n with
  | zero => intros; exact sim_none
  | succ n ih =>
    intro x1 M
    rw [f_X11_takeLettersAway_2]
    refine sim_iload_n 1 d_X11_takeLettersAway_2 rfl rfl ?_
    refine sim_bipush (40 : Int32) d_X11_takeLettersAway_3 rfl ?_
    refine sim_icmp_ge d_X11_takeLettersAway_5 ?_ ?_
    ·
      refine sim_aload_n 0 d_X11_takeLettersAway_21 rfl rfl ?_
      refine sim_iconst (0 : Int32) d_X11_takeLettersAway_22 rfl ?_
      refine sim_puti d_X11_takeLettersAway_23 fl_X11_98 ob_C_0 rfl ?_
      refine sim_nmM (fun M1 => ?_)
      exact sim_vret d_X11_takeLettersAway_26 rfl
    ·
      refine sim_aload_n 0 d_X11_takeLettersAway_8 rfl rfl ?_
      refine sim_geta d_X11_takeLettersAway_9 fl_X11_94 ob_C_0 rfl ?_
      refine sim_iload_n 1 d_X11_takeLettersAway_12 rfl rfl ?_
      refine sim_iconst (0 : Int32) d_X11_takeLettersAway_13 rfl ?_
      refine sim_zast d_X11_takeLettersAway_14 ar_C_16 ?_
      refine sim_nmM (fun M2 => ?_)
      refine sim_iinc (v := x1 + (1 : Int32)) (L' := [(0, .ref 0), (1, .int (x1 + (1 : Int32)))]) 1 d_X11_takeLettersAway_15 (Nat.le_of_ble_eq_true rfl) rfl rfl rfl ?_
      refine sim_goto d_X11_takeLettersAway_18 ?_
      exact sim_sub [0, 1] rfl (ih (x1 + (1 : Int32)) M2)
def f_X11_takeLettersAway (M : mm_M) : Option (mm_M) :=
  f_X11_takeLettersAway_2 mm_fu (0 : Int32) M
theorem s_X11_takeLettersAway (M : mm_M) : Sim sysC Y_X11_takeLettersAway 0 0 [(0, .ref 0)] [] M mm_fV (f_X11_takeLettersAway M) := by
  unfold f_X11_takeLettersAway
  refine sim_iconst (0 : Int32) d_X11_takeLettersAway_0 rfl ?_
  refine sim_istore_n (L' := [(0, .ref 0), (1, .int ((0 : Int32)))]) d_X11_takeLettersAway_1 rfl (Nat.le_of_ble_eq_true rfl) rfl ?_
  exact sim_sub [0, 1] rfl (s_X11_takeLettersAway_2 mm_fu (0 : Int32) M)
theorem ct_X11_takeLettersAway (M : mm_M) : Ct sysC Y_X11_takeLettersAway 0 [.ref 0] M mm_fV (f_X11_takeLettersAway M) :=
  ct_of_sim (by decide) rfl (Nat.le_of_ble_eq_true rfl) (s_X11_takeLettersAway M)
def f_X2_isOther_6 (a1 : Int32) (M : mm_M) : Option (Int32 × mm_M) :=
  mm_ck a1 40 (
  if (mI M 52 a1.toNatClampNeg) = 0 then
    some ((0 : Int32), M)
  else
    mm_ck a1 40 (
    if (mI M 53 a1.toNatClampNeg) = 0 then
      some ((1 : Int32), M)
    else
      some ((0 : Int32), M)))
theorem s_X2_isOther_6 (a1 : Int32) (M : mm_M) : Sim sysC Y_X2_isOther 0 0 [(0, .ref 6), (1, .int (a1))] [] M mm_fI (f_X2_isOther_6 a1 M) := by
  unfold f_X2_isOther_6
  refine sim_aload_n 0 d_X2_isOther_0 rfl rfl ?_
  refine sim_geta d_X2_isOther_1 fl_X2_15 ob_C_6 rfl ?_
  refine sim_iload_n 1 d_X2_isOther_4 rfl rfl ?_
  refine sim_zald d_X2_isOther_5 ar_C_52 ?_
  refine sim_if_eq d_X2_isOther_6 ?_ ?_
  ·
    refine sim_iconst (0 : Int32) d_X2_isOther_22 rfl ?_
    exact sim_zret d_X2_isOther_23 rfl rfl
  ·
    refine sim_aload_n 0 d_X2_isOther_9 rfl rfl ?_
    refine sim_geta d_X2_isOther_10 fl_X2_18 ob_C_6 rfl ?_
    refine sim_iload_n 1 d_X2_isOther_13 rfl rfl ?_
    refine sim_zald d_X2_isOther_14 ar_C_53 ?_
    refine sim_if_ne d_X2_isOther_15 ?_ ?_
    ·
      refine sim_iconst (0 : Int32) d_X2_isOther_22 rfl ?_
      exact sim_zret d_X2_isOther_23 rfl rfl
    ·
      refine sim_iconst (1 : Int32) d_X2_isOther_18 rfl ?_
      refine sim_goto d_X2_isOther_19 ?_
      exact sim_zret d_X2_isOther_23 rfl rfl
theorem ct_X2_isOther_6 (a1 : Int32) (M : mm_M) : Ct sysC Y_X2_isOther 0 [.ref 6, .int (a1)] M mm_fI (f_X2_isOther_6 a1 M) :=
  ct_of_sim (by decide) rfl (Nat.le_of_ble_eq_true rfl) (s_X2_isOther_6 a1 M)
def f_X2_makeSure_6_80 (k15 : Int32 → Int32 → Int32 → Int32 → mm_M → Option (Int32 × mm_M)) (x1 : Int32) (x2 : Int32) (x3 : Int32) (x4 : Int32) (M : mm_M) : Option (Int32 × mm_M) :=
  k15 x1 x2 x3 (x4 + (1 : Int32)) M
theorem s_X2_makeSure_6_80 (k15 : Int32 → Int32 → Int32 → Int32 → mm_M → Option (Int32 × mm_M)) (hk15 : ∀ (x1 : Int32) (x2 : Int32) (x3 : Int32) (x4 : Int32) (M : mm_M), Sim sysC Y_X2_makeSure 1 15 [(0, .ref 6), (1, .int (x1)), (2, .int (x2)), (3, .int (x3)), (4, .int (x4))] [] M mm_fI (k15 x1 x2 x3 x4 M)) (x1 : Int32) (x2 : Int32) (x3 : Int32) (x4 : Int32) (M : mm_M) : Sim sysC Y_X2_makeSure 1 80 [(0, .ref 6), (1, .int (x1)), (2, .int (x2)), (3, .int (x3)), (4, .int (x4))] [] M mm_fI (f_X2_makeSure_6_80 k15 x1 x2 x3 x4 M) := by
  unfold f_X2_makeSure_6_80
  refine sim_iinc (v := x4 + (1 : Int32)) (L' := [(0, .ref 6), (1, .int (x1)), (2, .int (x2)), (3, .int (x3)), (4, .int (x4 + (1 : Int32)))]) 4 d_X2_makeSure_80 (Nat.le_of_ble_eq_true rfl) rfl rfl rfl ?_
  refine sim_goto d_X2_makeSure_83 ?_
  exact sim_sub [0, 1, 2, 3, 4] rfl (hk15 x1 x2 x3 (x4 + (1 : Int32)) M)
def f_X2_makeSure_6_15 : Nat → Int32 → Int32 → Int32 → Int32 → mm_M → Option (Int32 × mm_M)
  | 0, _, _, _, _, _ => none
  | n + 1, x1, x2, x3, x4, M =>
  if (40 : Int32) ≤ x4 then
    mm_bz x3 (some (x3, M))
  else
    mm_bi (f_X2_isOther_6 x4 M) (fun r1 M1 =>
    if r1 = 0 then
      f_X2_makeSure_6_80 (f_X2_makeSure_6_15 n) x1 x2 x3 x4 M1
    else
      mm_ck x4 40 (
      if (x1 * (mI M1 54 x4.toNatClampNeg)) < x2 then
        f_X2_makeSure_6_80 (f_X2_makeSure_6_15 n) x1 x2 x3 x4 M1
      else
        mm_ck x4 40 (
        mm_let (sI M1 53 x4.toNatClampNeg ((1 : Int32) &&& 1)) (fun M2 =>
        mm_let (sI M2 6 4 ((mI M2 6 4) - (1 : Int32))) (fun M3 =>
        mm_ck x4 40 (
        mm_let (sI M3 6 5 ((mI M3 6 5) - (mI M3 54 x4.toNatClampNeg))) (fun M4 =>
        f_X2_makeSure_6_80 (f_X2_makeSure_6_15 n) x1 x2 (1 : Int32) x4 M4)))))))
theorem s_X2_makeSure_6_15 (n : Nat) : ∀ (x1 : Int32) (x2 : Int32) (x3 : Int32) (x4 : Int32) (M : mm_M), Sim sysC Y_X2_makeSure 1 15 [(0, .ref 6), (1, .int (x1)), (2, .int (x2)), (3, .int (x3)), (4, .int (x4))] [] M mm_fI (f_X2_makeSure_6_15 n x1 x2 x3 x4 M) := by
  induction n with
  | zero => intros; exact sim_none
  | succ n ih =>
    intro x1 x2 x3 x4 M
    rw [f_X2_makeSure_6_15]
    refine sim_iload 4 d_X2_makeSure_15 rfl ?_
    refine sim_bipush (40 : Int32) d_X2_makeSure_17 rfl ?_
    refine sim_icmp_ge d_X2_makeSure_19 ?_ ?_
    ·
      refine sim_iload_n 3 d_X2_makeSure_86 rfl rfl ?_
      exact sim_zretb d_X2_makeSure_87 rfl
    ·
      refine sim_aload_n 0 d_X2_makeSure_22 rfl rfl ?_
      refine sim_iload 4 d_X2_makeSure_23 rfl ?_
      refine sim_callVi Y_X2_isOther 0 [.int (x4)] [] d_X2_makeSure_25 lk_X2_49 cv_X2_isOther ob_C_6 rfl (by omega) (Nat.le_of_ble_eq_true rfl) (ct_X2_isOther_6 x4 M) (fun r1 M1 => ?_)
      refine sim_if_eq d_X2_makeSure_28 ?_ ?_
      ·
        exact sim_sub [0, 1, 2, 3, 4] rfl (s_X2_makeSure_6_80 (f_X2_makeSure_6_15 n) ih x1 x2 x3 x4 M1)
      ·
        refine sim_iload_n 1 d_X2_makeSure_31 rfl rfl ?_
        refine sim_aload_n 0 d_X2_makeSure_32 rfl rfl ?_
        refine sim_geta d_X2_makeSure_33 fl_X2_21 ob_C_6 rfl ?_
        refine sim_iload 4 d_X2_makeSure_36 rfl ?_
        refine sim_iald d_X2_makeSure_38 ar_C_54 ?_
        refine sim_imul d_X2_makeSure_39 ?_
        refine sim_iload_n 2 d_X2_makeSure_40 rfl rfl ?_
        refine sim_icmp_lt d_X2_makeSure_41 ?_ ?_
        ·
          exact sim_sub [0, 1, 2, 3, 4] rfl (s_X2_makeSure_6_80 (f_X2_makeSure_6_15 n) ih x1 x2 x3 x4 M1)
        ·
          refine sim_aload_n 0 d_X2_makeSure_44 rfl rfl ?_
          refine sim_geta d_X2_makeSure_45 fl_X2_18 ob_C_6 rfl ?_
          refine sim_iload 4 d_X2_makeSure_48 rfl ?_
          refine sim_iconst (1 : Int32) d_X2_makeSure_50 rfl ?_
          refine sim_zast d_X2_makeSure_51 ar_C_53 ?_
          refine sim_nmM (fun M2 => ?_)
          refine sim_aload_n 0 d_X2_makeSure_52 rfl rfl ?_
          refine sim_dup d_X2_makeSure_53 rfl ?_
          refine sim_geti d_X2_makeSure_54 fl_X2_25 ob_C_6 rfl ?_
          refine sim_iconst (1 : Int32) d_X2_makeSure_57 rfl ?_
          refine sim_isub d_X2_makeSure_58 ?_
          refine sim_puti d_X2_makeSure_59 fl_X2_25 ob_C_6 rfl ?_
          refine sim_nmM (fun M3 => ?_)
          refine sim_aload_n 0 d_X2_makeSure_62 rfl rfl ?_
          refine sim_dup d_X2_makeSure_63 rfl ?_
          refine sim_geti d_X2_makeSure_64 fl_X2_29 ob_C_6 rfl ?_
          refine sim_aload_n 0 d_X2_makeSure_67 rfl rfl ?_
          refine sim_geta d_X2_makeSure_68 fl_X2_21 ob_C_6 rfl ?_
          refine sim_iload 4 d_X2_makeSure_71 rfl ?_
          refine sim_iald d_X2_makeSure_73 ar_C_54 ?_
          refine sim_isub d_X2_makeSure_74 ?_
          refine sim_puti d_X2_makeSure_75 fl_X2_29 ob_C_6 rfl ?_
          refine sim_nmM (fun M4 => ?_)
          refine sim_iconst (1 : Int32) d_X2_makeSure_78 rfl ?_
          refine sim_istore_n (L' := [(0, .ref 6), (1, .int (x1)), (2, .int (x2)), (4, .int (x4)), (3, .int ((1 : Int32)))]) d_X2_makeSure_79 rfl (Nat.le_of_ble_eq_true rfl) rfl ?_
          exact sim_sub [0, 1, 2, 4, 3] rfl (s_X2_makeSure_6_80 (f_X2_makeSure_6_15 n) ih x1 x2 (1 : Int32) x4 M4)
def f_X2_makeSure_6 (M : mm_M) : Option (Int32 × mm_M) :=
  mm_let (mI M 6 4) (fun v1 =>
  mm_let (mI M 6 5) (fun v2 =>
  f_X2_makeSure_6_15 mm_fu v1 v2 (0 : Int32) (0 : Int32) M))
theorem s_X2_makeSure_6 (M : mm_M) : Sim sysC Y_X2_makeSure 1 0 [(0, .ref 6)] [] M mm_fI (f_X2_makeSure_6 M) := by
  unfold f_X2_makeSure_6
  refine sim_aload_n 0 d_X2_makeSure_0 rfl rfl ?_
  refine sim_geti d_X2_makeSure_1 fl_X2_25 ob_C_6 rfl ?_
  refine sim_nmi (fun v1 => ?_)
  refine sim_istore_n (L' := [(0, .ref 6), (1, .int (v1))]) d_X2_makeSure_4 rfl (Nat.le_of_ble_eq_true rfl) rfl ?_
  refine sim_aload_n 0 d_X2_makeSure_5 rfl rfl ?_
  refine sim_geti d_X2_makeSure_6 fl_X2_29 ob_C_6 rfl ?_
  refine sim_nmi (fun v2 => ?_)
  refine sim_istore_n (L' := [(0, .ref 6), (1, .int (v1)), (2, .int (v2))]) d_X2_makeSure_9 rfl (Nat.le_of_ble_eq_true rfl) rfl ?_
  refine sim_iconst (0 : Int32) d_X2_makeSure_10 rfl ?_
  refine sim_istore_n (L' := [(0, .ref 6), (1, .int (v1)), (2, .int (v2)), (3, .int ((0 : Int32)))]) d_X2_makeSure_11 rfl (Nat.le_of_ble_eq_true rfl) rfl ?_
  refine sim_iconst (0 : Int32) d_X2_makeSure_12 rfl ?_
  refine sim_istore (L' := [(0, .ref 6), (1, .int (v1)), (2, .int (v2)), (3, .int ((0 : Int32))), (4, .int ((0 : Int32)))]) d_X2_makeSure_13 (Nat.le_of_ble_eq_true rfl) rfl ?_
  exact sim_sub [0, 1, 2, 3, 4] rfl (s_X2_makeSure_6_15 mm_fu v1 v2 (0 : Int32) (0 : Int32) M)
theorem ct_X2_makeSure_6 (M : mm_M) : Ct sysC Y_X2_makeSure 1 [.ref 6] M mm_fI (f_X2_makeSure_6 M) :=
  ct_of_sim (by decide) rfl (Nat.le_of_ble_eq_true rfl) (s_X2_makeSure_6 M)
def f_X2_reckon_6_77 (k12 : Int32 → mm_M → Option (mm_M)) (x3 : Int32) (t1 : Int32) (t2 : Int32) (M : mm_M) : Option (mm_M) :=
  mm_ck t1 40 (
  mm_let (sI M 54 t1.toNatClampNeg t2) (fun M1 =>
  mm_ck x3 40 (
  mm_let (sI M1 6 5 ((mI M1 6 5) + (mI M1 54 x3.toNatClampNeg))) (fun M2 =>
  k12 (x3 + (1 : Int32)) M2))))
theorem s_X2_reckon_6_77 (k12 : Int32 → mm_M → Option (mm_M)) (hk12 : ∀ (x3 : Int32) (M : mm_M), Sim sysC Y_X2_reckon 2 12 [(0, .ref 6), (1, .ref 2), (3, .int (x3))] [] M mm_fV (k12 x3 M)) (x3 : Int32) (t1 : Int32) (t2 : Int32) (M : mm_M) : Sim sysC Y_X2_reckon 2 77 [(0, .ref 6), (1, .ref 2), (3, .int (x3))] [.int (t2), .int (t1), .ref 54] M mm_fV (f_X2_reckon_6_77 k12 x3 t1 t2 M) := by
  unfold f_X2_reckon_6_77
  refine sim_iast d_X2_reckon_77 ar_C_54 ?_
  refine sim_nmM (fun M1 => ?_)
  refine sim_aload_n 0 d_X2_reckon_78 rfl rfl ?_
  refine sim_dup d_X2_reckon_79 rfl ?_
  refine sim_geti d_X2_reckon_80 fl_X2_29 ob_C_6 rfl ?_
  refine sim_aload_n 0 d_X2_reckon_83 rfl rfl ?_
  refine sim_geta d_X2_reckon_84 fl_X2_21 ob_C_6 rfl ?_
  refine sim_iload_n 2 d_X2_reckon_87 rfl rfl ?_
  refine sim_iald d_X2_reckon_88 ar_C_54 ?_
  refine sim_iadd d_X2_reckon_89 ?_
  refine sim_puti d_X2_reckon_90 fl_X2_29 ob_C_6 rfl ?_
  refine sim_nmM (fun M2 => ?_)
  refine sim_iinc (v := x3 + (1 : Int32)) (L' := [(0, .ref 6), (1, .ref 2), (3, .int (x3 + (1 : Int32)))]) 2 d_X2_reckon_93 (Nat.le_of_ble_eq_true rfl) rfl rfl rfl ?_
  refine sim_goto d_X2_reckon_96 ?_
  exact sim_sub [0, 1, 2] rfl (hk12 (x3 + (1 : Int32)) M2)
def f_X2_reckon_6_45 (k12 : Int32 → mm_M → Option (mm_M)) (x3 : Int32) (t1 : Int32) (t2 : Int32) (M : mm_M) : Option (mm_M) :=
  mm_ck t1 40 (
  mm_let (sI M 52 t1.toNatClampNeg (t2 &&& 1)) (fun M1 =>
  mm_ck x3 40 (
  mm_let (sI M1 53 x3.toNatClampNeg ((0 : Int32) &&& 1)) (fun M2 =>
  mm_ck x3 40 (
  if (mI M2 52 x3.toNatClampNeg) = 0 then
    f_X2_reckon_6_77 k12 x3 x3 (0 : Int32) M2
  else
    mm_ck x3 40 (
    f_X2_reckon_6_77 k12 x3 x3 (mI M2 30 x3.toNatClampNeg) M2))))))
theorem s_X2_reckon_6_45 (k12 : Int32 → mm_M → Option (mm_M)) (hk12 : ∀ (x3 : Int32) (M : mm_M), Sim sysC Y_X2_reckon 2 12 [(0, .ref 6), (1, .ref 2), (3, .int (x3))] [] M mm_fV (k12 x3 M)) (x3 : Int32) (t1 : Int32) (t2 : Int32) (M : mm_M) : Sim sysC Y_X2_reckon 2 45 [(0, .ref 6), (1, .ref 2), (3, .int (x3))] [.int (t2), .int (t1), .ref 52] M mm_fV (f_X2_reckon_6_45 k12 x3 t1 t2 M) := by
  unfold f_X2_reckon_6_45
  refine sim_zast d_X2_reckon_45 ar_C_52 ?_
  refine sim_nmM (fun M1 => ?_)
  refine sim_aload_n 0 d_X2_reckon_46 rfl rfl ?_
  refine sim_geta d_X2_reckon_47 fl_X2_18 ob_C_6 rfl ?_
  refine sim_iload_n 2 d_X2_reckon_50 rfl rfl ?_
  refine sim_iconst (0 : Int32) d_X2_reckon_51 rfl ?_
  refine sim_zast d_X2_reckon_52 ar_C_53 ?_
  refine sim_nmM (fun M2 => ?_)
  refine sim_aload_n 0 d_X2_reckon_53 rfl rfl ?_
  refine sim_geta d_X2_reckon_54 fl_X2_21 ob_C_6 rfl ?_
  refine sim_iload_n 2 d_X2_reckon_57 rfl rfl ?_
  refine sim_aload_n 0 d_X2_reckon_58 rfl rfl ?_
  refine sim_geta d_X2_reckon_59 fl_X2_15 ob_C_6 rfl ?_
  refine sim_iload_n 2 d_X2_reckon_62 rfl rfl ?_
  refine sim_zald d_X2_reckon_63 ar_C_52 ?_
  refine sim_if_eq d_X2_reckon_64 ?_ ?_
  ·
    refine sim_iconst (0 : Int32) d_X2_reckon_76 rfl ?_
    exact sim_sub [0, 1, 2] rfl (s_X2_reckon_6_77 k12 hk12 x3 x3 (0 : Int32) M2)
  ·
    refine sim_aload_n 1 d_X2_reckon_67 rfl rfl ?_
    refine sim_geta d_X2_reckon_68 fl_X2_44 ob_C_2 rfl ?_
    refine sim_iload_n 2 d_X2_reckon_71 rfl rfl ?_
    refine sim_iald d_X2_reckon_72 ar_C_30 ?_
    refine sim_goto d_X2_reckon_73 ?_
    exact sim_sub [0, 1, 2] rfl (s_X2_reckon_6_77 k12 hk12 x3 x3 (mI M2 30 x3.toNatClampNeg) M2)
def f_X2_reckon_6_44 (k12 : Int32 → mm_M → Option (mm_M)) (x3 : Int32) (t1 : Int32) (M : mm_M) : Option (mm_M) :=
  f_X2_reckon_6_45 k12 x3 t1 (0 : Int32) M
theorem s_X2_reckon_6_44 (k12 : Int32 → mm_M → Option (mm_M)) (hk12 : ∀ (x3 : Int32) (M : mm_M), Sim sysC Y_X2_reckon 2 12 [(0, .ref 6), (1, .ref 2), (3, .int (x3))] [] M mm_fV (k12 x3 M)) (x3 : Int32) (t1 : Int32) (M : mm_M) : Sim sysC Y_X2_reckon 2 44 [(0, .ref 6), (1, .ref 2), (3, .int (x3))] [.int (t1), .ref 52] M mm_fV (f_X2_reckon_6_44 k12 x3 t1 M) := by
  unfold f_X2_reckon_6_44
  refine sim_iconst (0 : Int32) d_X2_reckon_44 rfl ?_
  exact sim_sub [0, 1, 2] rfl (s_X2_reckon_6_45 k12 hk12 x3 t1 (0 : Int32) M)
def f_X2_reckon_6_12 (k99 : mm_M → Option (mm_M)) : Nat → Int32 → mm_M → Option (mm_M)
  | 0, _, _ => none
  | n + 1, x3, M =>
  if (40 : Int32) ≤ x3 then
    k99 M
  else
    mm_bi (f_X6_has x3 M) (fun r1 M1 =>
    if r1 = 0 then
      f_X2_reckon_6_44 (f_X2_reckon_6_12 k99 n) x3 x3 M1
    else
      mm_ck x3 40 (
      if (mI M1 31 x3.toNatClampNeg) = 0 then
        f_X2_reckon_6_44 (f_X2_reckon_6_12 k99 n) x3 x3 M1
      else
        f_X2_reckon_6_45 (f_X2_reckon_6_12 k99 n) x3 x3 (1 : Int32) M1))
theorem s_X2_reckon_6_12 (k99 : mm_M → Option (mm_M)) (hk99 : ∀  (M : mm_M), Sim sysC Y_X2_reckon 2 99 [(0, .ref 6)] [] M mm_fV (k99 M)) (n : Nat) : ∀ (x3 : Int32) (M : mm_M), Sim sysC Y_X2_reckon 2 12 [(0, .ref 6), (1, .ref 2), (3, .int (x3))] [] M mm_fV (f_X2_reckon_6_12 k99 n x3 M) := by
  induction n with
  | zero => intros; exact sim_none
  | succ n ih =>
    intro x3 M
    rw [f_X2_reckon_6_12]
    refine sim_iload_n 2 d_X2_reckon_12 rfl rfl ?_
    refine sim_bipush (40 : Int32) d_X2_reckon_13 rfl ?_
    refine sim_icmp_ge d_X2_reckon_15 ?_ ?_
    ·
      exact sim_sub [0] rfl (hk99 M)
    ·
      refine sim_aload_n 0 d_X2_reckon_18 rfl rfl ?_
      refine sim_geta d_X2_reckon_19 fl_X2_15 ob_C_6 rfl ?_
      refine sim_iload_n 2 d_X2_reckon_22 rfl rfl ?_
      refine sim_aload_n 1 d_X2_reckon_23 rfl rfl ?_
      refine sim_iload_n 2 d_X2_reckon_24 rfl rfl ?_
      refine sim_callVi Y_X6_has 0 [.int (x3)] [.int (x3), .ref 52] d_X2_reckon_25 lk_X2_35 cv_X6_has ob_C_2 rfl (by omega) (Nat.le_of_ble_eq_true rfl) (ct_X6_has x3 M) (fun r1 M1 => ?_)
      refine sim_if_eq d_X2_reckon_28 ?_ ?_
      ·
        exact sim_sub [0, 1, 2] rfl (s_X2_reckon_6_44 (f_X2_reckon_6_12 k99 n) ih x3 x3 M1)
      ·
        refine sim_aload_n 1 d_X2_reckon_31 rfl rfl ?_
        refine sim_geta d_X2_reckon_32 fl_X2_41 ob_C_2 rfl ?_
        refine sim_iload_n 2 d_X2_reckon_35 rfl rfl ?_
        refine sim_zald d_X2_reckon_36 ar_C_31 ?_
        refine sim_if_eq d_X2_reckon_37 ?_ ?_
        ·
          exact sim_sub [0, 1, 2] rfl (s_X2_reckon_6_44 (f_X2_reckon_6_12 k99 n) ih x3 x3 M1)
        ·
          refine sim_iconst (1 : Int32) d_X2_reckon_40 rfl ?_
          refine sim_goto d_X2_reckon_41 ?_
          exact sim_sub [0, 1, 2] rfl (s_X2_reckon_6_45 (f_X2_reckon_6_12 k99 n) ih x3 x3 (1 : Int32) M1)
def f_X2_reckon_6_101 : Nat → Int32 → mm_M → Option (mm_M)
  | 0, _, _ => none
  | n + 1, x3, M =>
  if (40 : Int32) ≤ x3 then
    some M
  else
    mm_bi (f_X2_makeSure_6 M) (fun r1 M1 =>
    if r1 = 0 then
      some M1
    else
      f_X2_reckon_6_101 n (x3 + (1 : Int32)) M1)
theorem s_X2_reckon_6_101 (n : Nat) : ∀ (x3 : Int32) (M : mm_M), Sim sysC Y_X2_reckon 2 101 [(0, .ref 6), (3, .int (x3))] [] M mm_fV (f_X2_reckon_6_101 n x3 M) := by
  induction n with
  | zero => intros; exact sim_none
  | succ n ih =>
    intro x3 M
    rw [f_X2_reckon_6_101]
    refine sim_iload_n 1 d_X2_reckon_101 rfl rfl ?_
    refine sim_bipush (40 : Int32) d_X2_reckon_102 rfl ?_
    refine sim_icmp_ge d_X2_reckon_104 ?_ ?_
    ·
      exact sim_vret d_X2_reckon_123 rfl
    ·
      refine sim_aload_n 0 d_X2_reckon_107 rfl rfl ?_
      refine sim_callVi Y_X2_makeSure 1 [] [] d_X2_reckon_108 lk_X2_45 cv_X2_makeSure ob_C_6 rfl (by omega) (Nat.le_of_ble_eq_true rfl) (ct_X2_makeSure_6 M) (fun r1 M1 => ?_)
      refine sim_if_ne d_X2_reckon_111 ?_ ?_
      ·
        refine sim_iinc (v := x3 + (1 : Int32)) (L' := [(0, .ref 6), (3, .int (x3 + (1 : Int32)))]) 1 d_X2_reckon_117 (Nat.le_of_ble_eq_true rfl) rfl rfl rfl ?_
        refine sim_goto d_X2_reckon_120 ?_
        exact sim_sub [0, 1] rfl (ih (x3 + (1 : Int32)) M1)
      ·
        refine sim_goto d_X2_reckon_114 ?_
        exact sim_vret d_X2_reckon_123 rfl
def f_X2_reckon_6_99 (M : mm_M) : Option (mm_M) :=
  f_X2_reckon_6_101 mm_fu (0 : Int32) M
theorem s_X2_reckon_6_99 (M : mm_M) : Sim sysC Y_X2_reckon 2 99 [(0, .ref 6)] [] M mm_fV (f_X2_reckon_6_99 M) := by
  unfold f_X2_reckon_6_99
  refine sim_iconst (0 : Int32) d_X2_reckon_99 rfl ?_
  refine sim_istore_n (L' := [(0, .ref 6), (3, .int ((0 : Int32)))]) d_X2_reckon_100 rfl (Nat.le_of_ble_eq_true rfl) rfl ?_
  exact sim_sub [0, 1] rfl (s_X2_reckon_6_101 mm_fu (0 : Int32) M)
def f_X2_reckon_6 (a2 : Int32) (M : mm_M) : Option (mm_M) :=
  mm_let (sI M 6 4 a2) (fun M1 =>
  mm_let (sI M1 6 5 (0 : Int32)) (fun M2 =>
  f_X2_reckon_6_12 f_X2_reckon_6_99 mm_fu (0 : Int32) M2))
theorem s_X2_reckon_6 (a2 : Int32) (M : mm_M) : Sim sysC Y_X2_reckon 2 0 [(0, .ref 6), (1, .ref 2), (2, .int (a2))] [] M mm_fV (f_X2_reckon_6 a2 M) := by
  unfold f_X2_reckon_6
  refine sim_aload_n 0 d_X2_reckon_0 rfl rfl ?_
  refine sim_iload_n 2 d_X2_reckon_1 rfl rfl ?_
  refine sim_puti d_X2_reckon_2 fl_X2_25 ob_C_6 rfl ?_
  refine sim_nmM (fun M1 => ?_)
  refine sim_aload_n 0 d_X2_reckon_5 rfl rfl ?_
  refine sim_iconst (0 : Int32) d_X2_reckon_6 rfl ?_
  refine sim_puti d_X2_reckon_7 fl_X2_29 ob_C_6 rfl ?_
  refine sim_nmM (fun M2 => ?_)
  refine sim_iconst (0 : Int32) d_X2_reckon_10 rfl ?_
  refine sim_istore_n (L' := [(0, .ref 6), (1, .ref 2), (2, .int (a2)), (3, .int ((0 : Int32)))]) d_X2_reckon_11 rfl (Nat.le_of_ble_eq_true rfl) rfl ?_
  exact sim_sub [0, 1, 3] rfl (s_X2_reckon_6_12 f_X2_reckon_6_99 s_X2_reckon_6_99 mm_fu (0 : Int32) M2)
theorem ct_X2_reckon_6 (a2 : Int32) (M : mm_M) : Ct sysC Y_X2_reckon 2 [.ref 6, .ref 2, .int (a2)] M mm_fV (f_X2_reckon_6 a2 M) :=
  ct_of_sim (by decide) rfl (Nat.le_of_ble_eq_true rfl) (s_X2_reckon_6 a2 M)
def f_X2_take_6_110 (k17 : Int32 → Int32 → Int32 → mm_M → Option (Int32 × mm_M)) (x2 : Int32) (x3 : Int32) (x4 : Int32) (M : mm_M) : Option (Int32 × mm_M) :=
  k17 x2 x3 (x4 + (1 : Int32)) M
theorem s_X2_take_6_110 (k17 : Int32 → Int32 → Int32 → mm_M → Option (Int32 × mm_M)) (hk17 : ∀ (x2 : Int32) (x3 : Int32) (x4 : Int32) (M : mm_M), Sim sysC Y_X2_take 1 17 [(0, .ref 6), (2, .int (x2)), (3, .int (x3)), (4, .int (x4))] [] M mm_fI (k17 x2 x3 x4 M)) (x2 : Int32) (x3 : Int32) (x4 : Int32) (M : mm_M) : Sim sysC Y_X2_take 1 110 [(0, .ref 6), (2, .int (x2)), (3, .int (x3)), (4, .int (x4))] [] M mm_fI (f_X2_take_6_110 k17 x2 x3 x4 M) := by
  unfold f_X2_take_6_110
  refine sim_iinc (v := x4 + (1 : Int32)) (L' := [(0, .ref 6), (2, .int (x2)), (3, .int (x3)), (4, .int (x4 + (1 : Int32)))]) 3 d_X2_take_110 (Nat.le_of_ble_eq_true rfl) rfl rfl rfl ?_
  refine sim_goto d_X2_take_113 ?_
  exact sim_sub [0, 1, 2, 3] rfl (hk17 x2 x3 (x4 + (1 : Int32)) M)
def f_X2_take_6_90 (k17 : Int32 → Int32 → Int32 → mm_M → Option (Int32 × mm_M)) (x2 : Int32) (x3 : Int32) (x4 : Int32) (M : mm_M) : Option (Int32 × mm_M) :=
  mm_ck x4 40 (
  if (mI M 51 x4.toNatClampNeg) = 0 then
    f_X2_take_6_110 k17 x2 x3 x4 M
  else
    mm_let (sI M 6 6 ((mI M 6 6) + (1 : Int32))) (fun M1 =>
    f_X2_take_6_110 k17 x2 x3 x4 M1))
theorem s_X2_take_6_90 (k17 : Int32 → Int32 → Int32 → mm_M → Option (Int32 × mm_M)) (hk17 : ∀ (x2 : Int32) (x3 : Int32) (x4 : Int32) (M : mm_M), Sim sysC Y_X2_take 1 17 [(0, .ref 6), (2, .int (x2)), (3, .int (x3)), (4, .int (x4))] [] M mm_fI (k17 x2 x3 x4 M)) (x2 : Int32) (x3 : Int32) (x4 : Int32) (M : mm_M) : Sim sysC Y_X2_take 1 90 [(0, .ref 6), (2, .int (x2)), (3, .int (x3)), (4, .int (x4))] [] M mm_fI (f_X2_take_6_90 k17 x2 x3 x4 M) := by
  unfold f_X2_take_6_90
  refine sim_aload_n 0 d_X2_take_90 rfl rfl ?_
  refine sim_geta d_X2_take_91 fl_X2_9 ob_C_6 rfl ?_
  refine sim_iload 3 d_X2_take_94 rfl ?_
  refine sim_zald d_X2_take_96 ar_C_51 ?_
  refine sim_if_eq d_X2_take_97 ?_ ?_
  ·
    exact sim_sub [0, 1, 2, 3] rfl (s_X2_take_6_110 k17 hk17 x2 x3 x4 M)
  ·
    refine sim_aload_n 0 d_X2_take_100 rfl rfl ?_
    refine sim_dup d_X2_take_101 rfl ?_
    refine sim_geti d_X2_take_102 fl_X2_32 ob_C_6 rfl ?_
    refine sim_iconst (1 : Int32) d_X2_take_105 rfl ?_
    refine sim_iadd d_X2_take_106 ?_
    refine sim_puti d_X2_take_107 fl_X2_32 ob_C_6 rfl ?_
    refine sim_nmM (fun M1 => ?_)
    exact sim_sub [0, 1, 2, 3] rfl (s_X2_take_6_110 k17 hk17 x2 x3 x4 M1)
def f_X2_take_6_17 : Nat → Int32 → Int32 → Int32 → mm_M → Option (Int32 × mm_M)
  | 0, _, _, _, _ => none
  | n + 1, x2, x3, x4, M =>
  if (40 : Int32) ≤ x4 then
    some (mI M 6 6, M)
  else
    mm_ck x4 40 (
    mm_ck x4 40 (
    mm_let (sI M 51 x4.toNatClampNeg ((mI M 53 x4.toNatClampNeg) &&& 1)) (fun M1 =>
    mm_bi (f_X2_isOther_6 x4 M1) (fun r1 M2 =>
    if r1 = 0 then
      f_X2_take_6_90 (f_X2_take_6_17 n) x2 x3 x4 M2
    else
      mm_ck x4 40 (
      mm_let (x3 + (((1000 : Int32) * (mI M2 6 4)) * (mI M2 54 x4.toNatClampNeg))) (fun v1 =>
      if v1 ≤ x2 then
        f_X2_take_6_90 (f_X2_take_6_17 n) x2 v1 x4 M2
      else
        mm_ck x4 40 (
        mm_let (sI M2 51 x4.toNatClampNeg ((1 : Int32) &&& 1)) (fun M3 =>
        mm_let (x2 + ((1000 : Int32) * (mI M3 6 5))) (fun v2 =>
        f_X2_take_6_90 (f_X2_take_6_17 n) v2 v1 x4 M3)))))))))
theorem s_X2_take_6_17 (n : Nat) : ∀ (x2 : Int32) (x3 : Int32) (x4 : Int32) (M : mm_M), Sim sysC Y_X2_take 1 17 [(0, .ref 6), (2, .int (x2)), (3, .int (x3)), (4, .int (x4))] [] M mm_fI (f_X2_take_6_17 n x2 x3 x4 M) := by
  induction n with
  | zero => intros; exact sim_none
  | succ n ih =>
    intro x2 x3 x4 M
    rw [f_X2_take_6_17]
    refine sim_iload 3 d_X2_take_17 rfl ?_
    refine sim_bipush (40 : Int32) d_X2_take_19 rfl ?_
    refine sim_icmp_ge d_X2_take_21 ?_ ?_
    ·
      refine sim_aload_n 0 d_X2_take_116 rfl rfl ?_
      refine sim_geti d_X2_take_117 fl_X2_32 ob_C_6 rfl ?_
      exact sim_iret d_X2_take_120 rfl
    ·
      refine sim_aload_n 0 d_X2_take_24 rfl rfl ?_
      refine sim_geta d_X2_take_25 fl_X2_9 ob_C_6 rfl ?_
      refine sim_iload 3 d_X2_take_28 rfl ?_
      refine sim_aload_n 0 d_X2_take_30 rfl rfl ?_
      refine sim_geta d_X2_take_31 fl_X2_18 ob_C_6 rfl ?_
      refine sim_iload 3 d_X2_take_34 rfl ?_
      refine sim_zald d_X2_take_36 ar_C_53 ?_
      refine sim_zast d_X2_take_37 ar_C_51 ?_
      refine sim_nmM (fun M1 => ?_)
      refine sim_aload_n 0 d_X2_take_38 rfl rfl ?_
      refine sim_iload 3 d_X2_take_39 rfl ?_
      refine sim_callVi Y_X2_isOther 0 [.int (x4)] [] d_X2_take_41 lk_X2_49 cv_X2_isOther ob_C_6 rfl (by omega) (Nat.le_of_ble_eq_true rfl) (ct_X2_isOther_6 x4 M1) (fun r1 M2 => ?_)
      refine sim_if_eq d_X2_take_44 ?_ ?_
      ·
        exact sim_sub [0, 1, 2, 3] rfl (s_X2_take_6_90 (f_X2_take_6_17 n) ih x2 x3 x4 M2)
      ·
        refine sim_iload_n 2 d_X2_take_47 rfl rfl ?_
        refine sim_sipush (1000 : Int32) d_X2_take_48 rfl ?_
        refine sim_aload_n 0 d_X2_take_51 rfl rfl ?_
        refine sim_geti d_X2_take_52 fl_X2_25 ob_C_6 rfl ?_
        refine sim_imul d_X2_take_55 ?_
        refine sim_aload_n 0 d_X2_take_56 rfl rfl ?_
        refine sim_geta d_X2_take_57 fl_X2_21 ob_C_6 rfl ?_
        refine sim_iload 3 d_X2_take_60 rfl ?_
        refine sim_iald d_X2_take_62 ar_C_54 ?_
        refine sim_imul d_X2_take_63 ?_
        refine sim_iadd d_X2_take_64 ?_
        refine sim_nmi (fun v1 => ?_)
        refine sim_istore_n (L' := [(0, .ref 6), (2, .int (x2)), (4, .int (x4)), (3, .int (v1))]) d_X2_take_65 rfl (Nat.le_of_ble_eq_true rfl) rfl ?_
        refine sim_iload_n 1 d_X2_take_66 rfl rfl ?_
        refine sim_iload_n 3 d_X2_take_67 rfl rfl ?_
        refine sim_icmp_ge d_X2_take_68 ?_ ?_
        ·
          exact sim_sub [0, 1, 3, 2] rfl (s_X2_take_6_90 (f_X2_take_6_17 n) ih x2 v1 x4 M2)
        ·
          refine sim_aload_n 0 d_X2_take_71 rfl rfl ?_
          refine sim_geta d_X2_take_72 fl_X2_9 ob_C_6 rfl ?_
          refine sim_iload 2 d_X2_take_75 rfl ?_
          refine sim_iconst (1 : Int32) d_X2_take_77 rfl ?_
          refine sim_zast d_X2_take_78 ar_C_51 ?_
          refine sim_nmM (fun M3 => ?_)
          refine sim_iload_n 1 d_X2_take_79 rfl rfl ?_
          refine sim_sipush (1000 : Int32) d_X2_take_80 rfl ?_
          refine sim_aload_n 0 d_X2_take_83 rfl rfl ?_
          refine sim_geti d_X2_take_84 fl_X2_29 ob_C_6 rfl ?_
          refine sim_imul d_X2_take_87 ?_
          refine sim_iadd d_X2_take_88 ?_
          refine sim_nmi (fun v2 => ?_)
          refine sim_istore_n (L' := [(0, .ref 6), (4, .int (x4)), (3, .int (v1)), (2, .int (v2))]) d_X2_take_89 rfl (Nat.le_of_ble_eq_true rfl) rfl ?_
          exact sim_sub [0, 3, 2, 1] rfl (s_X2_take_6_90 (f_X2_take_6_17 n) ih v2 v1 x4 M3)
def f_X2_take_6 (a1 : Int32) (M : mm_M) : Option (Int32 × mm_M) :=
  mm_let (a1 * (mI M 6 5)) (fun v1 =>
  mm_let (sI M 6 6 (0 : Int32)) (fun M1 =>
  f_X2_take_6_17 mm_fu v1 (0 : Int32) (0 : Int32) M1))
theorem s_X2_take_6 (a1 : Int32) (M : mm_M) : Sim sysC Y_X2_take 1 0 [(0, .ref 6), (1, .int (a1))] [] M mm_fI (f_X2_take_6 a1 M) := by
  unfold f_X2_take_6
  refine sim_iload_n 1 d_X2_take_0 rfl rfl ?_
  refine sim_aload_n 0 d_X2_take_1 rfl rfl ?_
  refine sim_geti d_X2_take_2 fl_X2_29 ob_C_6 rfl ?_
  refine sim_imul d_X2_take_5 ?_
  refine sim_nmi (fun v1 => ?_)
  refine sim_istore_n (L' := [(0, .ref 6), (1, .int (a1)), (2, .int (v1))]) d_X2_take_6 rfl (Nat.le_of_ble_eq_true rfl) rfl ?_
  refine sim_iconst (0 : Int32) d_X2_take_7 rfl ?_
  refine sim_istore_n (L' := [(0, .ref 6), (1, .int (a1)), (2, .int (v1)), (3, .int ((0 : Int32)))]) d_X2_take_8 rfl (Nat.le_of_ble_eq_true rfl) rfl ?_
  refine sim_aload_n 0 d_X2_take_9 rfl rfl ?_
  refine sim_iconst (0 : Int32) d_X2_take_10 rfl ?_
  refine sim_puti d_X2_take_11 fl_X2_32 ob_C_6 rfl ?_
  refine sim_nmM (fun M1 => ?_)
  refine sim_iconst (0 : Int32) d_X2_take_14 rfl ?_
  refine sim_istore (L' := [(0, .ref 6), (1, .int (a1)), (2, .int (v1)), (3, .int ((0 : Int32))), (4, .int ((0 : Int32)))]) d_X2_take_15 (Nat.le_of_ble_eq_true rfl) rfl ?_
  exact sim_sub [0, 2, 3, 4] rfl (s_X2_take_6_17 mm_fu v1 (0 : Int32) (0 : Int32) M1)
theorem ct_X2_take_6 (a1 : Int32) (M : mm_M) : Ct sysC Y_X2_take 1 [.ref 6, .int (a1)] M mm_fI (f_X2_take_6 a1 M) :=
  ct_of_sim (by decide) rfl (Nat.le_of_ble_eq_true rfl) (s_X2_take_6 a1 M)
def f_X11_draw_46 (M : mm_M) : Option (Int32 × mm_M) :=
  mm_bi (f_X11_refuse (-6 : Int32) M) (fun r1 M1 =>
  some (r1, M1))
theorem s_X11_draw_46 (M : mm_M) : Sim sysC Y_X11_draw 3 46 [(0, .ref 0)] [] M mm_fI (f_X11_draw_46 M) := by
  unfold f_X11_draw_46
  refine sim_aload_n 0 d_X11_draw_46 rfl rfl ?_
  refine sim_bipush (-6 : Int32) d_X11_draw_47 rfl ?_
  refine sim_callVi Y_X11_refuse 0 [.int ((-6 : Int32))] [] d_X11_draw_49 lk_X11_108 cv_X11_refuse ob_C_0 rfl (by omega) (Nat.le_of_ble_eq_true rfl) (ct_X11_refuse (-6 : Int32) M) (fun r1 M1 => ?_)
  exact sim_iret d_X11_draw_52 rfl
def f_X11_draw_26 (M : mm_M) : Option (Int32 × mm_M) :=
  mm_bi (f_X11_refuse (-4 : Int32) M) (fun r1 M1 =>
  some (r1, M1))
theorem s_X11_draw_26 (M : mm_M) : Sim sysC Y_X11_draw 3 26 [(0, .ref 0)] [] M mm_fI (f_X11_draw_26 M) := by
  unfold f_X11_draw_26
  refine sim_aload_n 0 d_X11_draw_26 rfl rfl ?_
  refine sim_bipush (-4 : Int32) d_X11_draw_27 rfl ?_
  refine sim_callVi Y_X11_refuse 0 [.int ((-4 : Int32))] [] d_X11_draw_29 lk_X11_108 cv_X11_refuse ob_C_0 rfl (by omega) (Nat.le_of_ble_eq_true rfl) (ct_X11_refuse (-4 : Int32) M) (fun r1 M1 => ?_)
  exact sim_iret d_X11_draw_32 rfl
def f_X11_draw (a1 : Int32) (a2 : Int32) (M : mm_M) : Option (Int32 × mm_M) :=
  mm_bi (f_X6_openOnes M) (fun r1 M1 =>
  if r1 = 0 then
    mm_bi (f_X11_refuse (-3 : Int32) M1) (fun r3 M5 =>
    some (r3, M5))
  else
    if a1 < (1 : Int32) then
      f_X11_draw_26 M1
    else
      if 0 ≤ a2 then
        if (40 : Int32) < a1 then
          f_X11_draw_46 M1
        else
          if a2 ≤ (999 : Int32) then
            mm_bv (f_X11_takeLettersAway M1) (fun M2 =>
            mm_bv (f_X2_reckon_6 a1 M2) (fun M3 =>
            mm_bi (f_X2_take_6 a2 M3) (fun r2 M4 =>
            some (r2, M4))))
          else
            f_X11_draw_46 M1
      else
        f_X11_draw_26 M1)
theorem s_X11_draw (a1 : Int32) (a2 : Int32) (M : mm_M) : Sim sysC Y_X11_draw 3 0 [(0, .ref 0), (1, .int (a1)), (2, .int (a2))] [] M mm_fI (f_X11_draw a1 a2 M) := by
  unfold f_X11_draw
  refine sim_aload_n 0 d_X11_draw_0 rfl rfl ?_
  refine sim_geta d_X11_draw_1 fl_X11_20 ob_C_0 rfl ?_
  refine sim_callVi Y_X6_openOnes 0 [] [] d_X11_draw_4 lk_X11_177 cv_X6_openOnes ob_C_2 rfl (by omega) (Nat.le_of_ble_eq_true rfl) (ct_X6_openOnes M) (fun r1 M1 => ?_)
  refine sim_if_ne d_X11_draw_7 ?_ ?_
  ·
    refine sim_iload_n 1 d_X11_draw_17 rfl rfl ?_
    refine sim_iconst (1 : Int32) d_X11_draw_18 rfl ?_
    refine sim_icmp_lt d_X11_draw_19 ?_ ?_
    ·
      exact sim_sub [0] rfl (s_X11_draw_26 M1)
    ·
      refine sim_iload_n 2 d_X11_draw_22 rfl rfl ?_
      refine sim_if_ge d_X11_draw_23 ?_ ?_
      ·
        refine sim_iload_n 1 d_X11_draw_33 rfl rfl ?_
        refine sim_bipush (40 : Int32) d_X11_draw_34 rfl ?_
        refine sim_icmp_gt d_X11_draw_36 ?_ ?_
        ·
          exact sim_sub [0] rfl (s_X11_draw_46 M1)
        ·
          refine sim_iload_n 2 d_X11_draw_39 rfl rfl ?_
          refine sim_sipush (999 : Int32) d_X11_draw_40 rfl ?_
          refine sim_icmp_le d_X11_draw_43 ?_ ?_
          ·
            refine sim_aload_n 0 d_X11_draw_53 rfl rfl ?_
            refine sim_callVv Y_X11_takeLettersAway 0 [] [] d_X11_draw_54 lk_X11_181 cv_X11_takeLettersAway ob_C_0 rfl (by omega) (Nat.le_of_ble_eq_true rfl) (ct_X11_takeLettersAway M1) (fun M2 => ?_)
            refine sim_aload_n 0 d_X11_draw_57 rfl rfl ?_
            refine sim_geta d_X11_draw_58 fl_X11_39 ob_C_0 rfl ?_
            refine sim_aload_n 0 d_X11_draw_61 rfl rfl ?_
            refine sim_geta d_X11_draw_62 fl_X11_20 ob_C_0 rfl ?_
            refine sim_iload_n 1 d_X11_draw_65 rfl rfl ?_
            refine sim_callVv Y_X2_reckon 2 [.ref 2, .int (a1)] [] d_X11_draw_66 lk_X11_184 cv_X2_reckon ob_C_6 rfl (by omega) (Nat.le_of_ble_eq_true rfl) (ct_X2_reckon_6 a1 M2) (fun M3 => ?_)
            refine sim_aload_n 0 d_X11_draw_69 rfl rfl ?_
            refine sim_geta d_X11_draw_70 fl_X11_39 ob_C_0 rfl ?_
            refine sim_iload_n 2 d_X11_draw_73 rfl rfl ?_
            refine sim_callVi Y_X2_take 1 [.int (a2)] [] d_X11_draw_74 lk_X11_188 cv_X2_take ob_C_6 rfl (by omega) (Nat.le_of_ble_eq_true rfl) (ct_X2_take_6 a2 M3) (fun r2 M4 => ?_)
            exact sim_iret d_X11_draw_77 rfl
          ·
            exact sim_sub [0] rfl (s_X11_draw_46 M1)
      ·
        exact sim_sub [0] rfl (s_X11_draw_26 M1)
  ·
    refine sim_aload_n 0 d_X11_draw_10 rfl rfl ?_
    refine sim_bipush (-3 : Int32) d_X11_draw_11 rfl ?_
    refine sim_callVi Y_X11_refuse 0 [.int ((-3 : Int32))] [] d_X11_draw_13 lk_X11_108 cv_X11_refuse ob_C_0 rfl (by omega) (Nat.le_of_ble_eq_true rfl) (ct_X11_refuse (-3 : Int32) M1) (fun r3 M5 => ?_)
    exact sim_iret d_X11_draw_16 rfl
theorem ct_X11_draw (a1 : Int32) (a2 : Int32) (M : mm_M) : Ct sysC Y_X11_draw 3 [.ref 0, .int (a1), .int (a2)] M mm_fI (f_X11_draw a1 a2 M) :=
  ct_of_sim (by decide) rfl (Nat.le_of_ble_eq_true rfl) (s_X11_draw a1 a2 M)
def f_X2_partsAbove_6 (a1 : Int32) (M : mm_M) : Option (Int64 × mm_M) :=
  if a1 < 0 then
    some ((0 : Int64), M)
  else
    if (40 : Int32) ≤ a1 then
      some ((0 : Int64), M)
    else
      mm_ck a1 40 (
      if (mI M 52 a1.toNatClampNeg) = 0 then
        some ((0 : Int64), M)
      else
        mm_ck a1 40 (
        if (mI M 53 a1.toNatClampNeg) = 0 then
          mm_ck a1 40 (
          some (((mI M 6 4) * (mI M 54 a1.toNatClampNeg)).toInt64, M))
        else
          some ((1 : Int64), M)))
theorem s_X2_partsAbove_6 (a1 : Int32) (M : mm_M) : Sim sysC Y_X2_partsAbove 0 0 [(0, .ref 6), (1, .int (a1))] [] M mm_fL (f_X2_partsAbove_6 a1 M) := by
  unfold f_X2_partsAbove_6
  refine sim_iload_n 1 d_X2_partsAbove_0 rfl rfl ?_
  refine sim_if_lt d_X2_partsAbove_1 ?_ ?_
  ·
    refine sim_lconst (0 : Int64) d_X2_partsAbove_19 rfl ?_
    exact sim_lret d_X2_partsAbove_20 rfl
  ·
    refine sim_iload_n 1 d_X2_partsAbove_4 rfl rfl ?_
    refine sim_bipush (40 : Int32) d_X2_partsAbove_5 rfl ?_
    refine sim_icmp_ge d_X2_partsAbove_7 ?_ ?_
    ·
      refine sim_lconst (0 : Int64) d_X2_partsAbove_19 rfl ?_
      exact sim_lret d_X2_partsAbove_20 rfl
    ·
      refine sim_aload_n 0 d_X2_partsAbove_10 rfl rfl ?_
      refine sim_geta d_X2_partsAbove_11 fl_X2_15 ob_C_6 rfl ?_
      refine sim_iload_n 1 d_X2_partsAbove_14 rfl rfl ?_
      refine sim_zald d_X2_partsAbove_15 ar_C_52 ?_
      refine sim_if_ne d_X2_partsAbove_16 ?_ ?_
      ·
        refine sim_aload_n 0 d_X2_partsAbove_21 rfl rfl ?_
        refine sim_geta d_X2_partsAbove_22 fl_X2_18 ob_C_6 rfl ?_
        refine sim_iload_n 1 d_X2_partsAbove_25 rfl rfl ?_
        refine sim_zald d_X2_partsAbove_26 ar_C_53 ?_
        refine sim_if_eq d_X2_partsAbove_27 ?_ ?_
        ·
          refine sim_aload_n 0 d_X2_partsAbove_34 rfl rfl ?_
          refine sim_geti d_X2_partsAbove_35 fl_X2_25 ob_C_6 rfl ?_
          refine sim_aload_n 0 d_X2_partsAbove_38 rfl rfl ?_
          refine sim_geta d_X2_partsAbove_39 fl_X2_21 ob_C_6 rfl ?_
          refine sim_iload_n 1 d_X2_partsAbove_42 rfl rfl ?_
          refine sim_iald d_X2_partsAbove_43 ar_C_54 ?_
          refine sim_imul d_X2_partsAbove_44 ?_
          refine sim_i2l d_X2_partsAbove_45 ?_
          exact sim_lret d_X2_partsAbove_46 rfl
        ·
          refine sim_lconst (1 : Int64) d_X2_partsAbove_30 rfl ?_
          refine sim_goto d_X2_partsAbove_31 ?_
          exact sim_lret d_X2_partsAbove_46 rfl
      ·
        refine sim_lconst (0 : Int64) d_X2_partsAbove_19 rfl ?_
        exact sim_lret d_X2_partsAbove_20 rfl
theorem ct_X2_partsAbove_6 (a1 : Int32) (M : mm_M) : Ct sysC Y_X2_partsAbove 0 [.ref 6, .int (a1)] M mm_fL (f_X2_partsAbove_6 a1 M) :=
  ct_of_sim (by decide) rfl (Nat.le_of_ble_eq_true rfl) (s_X2_partsAbove_6 a1 M)
def f_X2_partsBelow_6 (a1 : Int32) (M : mm_M) : Option (Int64 × mm_M) :=
  if a1 < 0 then
    some ((1 : Int64), M)
  else
    if (40 : Int32) ≤ a1 then
      some ((1 : Int64), M)
    else
      mm_bi (f_X2_isOther_6 a1 M) (fun r1 M1 =>
      if r1 = 0 then
        some ((1 : Int64), M1)
      else
        some ((mI M1 6 5).toInt64, M1))
theorem s_X2_partsBelow_6 (a1 : Int32) (M : mm_M) : Sim sysC Y_X2_partsBelow 1 0 [(0, .ref 6), (1, .int (a1))] [] M mm_fL (f_X2_partsBelow_6 a1 M) := by
  unfold f_X2_partsBelow_6
  refine sim_iload_n 1 d_X2_partsBelow_0 rfl rfl ?_
  refine sim_if_lt d_X2_partsBelow_1 ?_ ?_
  ·
    refine sim_lconst (1 : Int64) d_X2_partsBelow_18 rfl ?_
    exact sim_lret d_X2_partsBelow_19 rfl
  ·
    refine sim_iload_n 1 d_X2_partsBelow_4 rfl rfl ?_
    refine sim_bipush (40 : Int32) d_X2_partsBelow_5 rfl ?_
    refine sim_icmp_ge d_X2_partsBelow_7 ?_ ?_
    ·
      refine sim_lconst (1 : Int64) d_X2_partsBelow_18 rfl ?_
      exact sim_lret d_X2_partsBelow_19 rfl
    ·
      refine sim_aload_n 0 d_X2_partsBelow_10 rfl rfl ?_
      refine sim_iload_n 1 d_X2_partsBelow_11 rfl rfl ?_
      refine sim_callVi Y_X2_isOther 0 [.int (a1)] [] d_X2_partsBelow_12 lk_X2_49 cv_X2_isOther ob_C_6 rfl (by omega) (Nat.le_of_ble_eq_true rfl) (ct_X2_isOther_6 a1 M) (fun r1 M1 => ?_)
      refine sim_if_ne d_X2_partsBelow_15 ?_ ?_
      ·
        refine sim_aload_n 0 d_X2_partsBelow_20 rfl rfl ?_
        refine sim_geti d_X2_partsBelow_21 fl_X2_29 ob_C_6 rfl ?_
        refine sim_i2l d_X2_partsBelow_24 ?_
        exact sim_lret d_X2_partsBelow_25 rfl
      ·
        refine sim_lconst (1 : Int64) d_X2_partsBelow_18 rfl ?_
        exact sim_lret d_X2_partsBelow_19 rfl
theorem ct_X2_partsBelow_6 (a1 : Int32) (M : mm_M) : Ct sysC Y_X2_partsBelow 1 [.ref 6, .int (a1)] M mm_fL (f_X2_partsBelow_6 a1 M) :=
  ct_of_sim (by decide) rfl (Nat.le_of_ble_eq_true rfl) (s_X2_partsBelow_6 a1 M)
def f_X3_commonDivisor_9 : Nat → Int64 → Int64 → Int32 → mm_M → Option (Int64 × mm_M)
  | 0, _, _, _, _ => none
  | n + 1, x4, x6, x8, M =>
  if (100 : Int32) ≤ x8 then
    some (x4, M)
  else
    if (lg_cmp (x6) ((0 : Int64))) = 0 then
      some (x4, M)
    else
      mm_nzL x6 (
      mm_let (x4 - x4 / x6 * x6) (fun v1 =>
      f_X3_commonDivisor_9 n x6 v1 (x8 + (1 : Int32)) M))
theorem s_X3_commonDivisor_9 (n : Nat) : ∀ (x4 : Int64) (x6 : Int64) (x8 : Int32) (M : mm_M), Sim sysC Y_X3_commonDivisor 0 9 [(4, .long (x4)), (6, .long (x6)), (8, .int (x8))] [] M mm_fL (f_X3_commonDivisor_9 n x4 x6 x8 M) := by
  induction n with
  | zero => intros; exact sim_none
  | succ n ih =>
    intro x4 x6 x8 M
    rw [f_X3_commonDivisor_9]
    refine sim_iload 2 d_X3_commonDivisor_9 rfl ?_
    refine sim_bipush (100 : Int32) d_X3_commonDivisor_11 rfl ?_
    refine sim_icmp_ge d_X3_commonDivisor_13 ?_ ?_
    ·
      refine sim_lload 0 d_X3_commonDivisor_44 rfl ?_
      exact sim_lret d_X3_commonDivisor_46 rfl
    ·
      refine sim_lload 1 d_X3_commonDivisor_16 rfl ?_
      refine sim_lconst (0 : Int64) d_X3_commonDivisor_18 rfl ?_
      refine sim_lcmp d_X3_commonDivisor_19 ?_
      refine sim_if_eq d_X3_commonDivisor_20 ?_ ?_
      ·
        refine sim_lload 0 d_X3_commonDivisor_44 rfl ?_
        exact sim_lret d_X3_commonDivisor_46 rfl
      ·
        refine sim_lload 0 d_X3_commonDivisor_23 rfl ?_
        refine sim_lload 1 d_X3_commonDivisor_25 rfl ?_
        refine sim_lrem d_X3_commonDivisor_27 ?_
        refine sim_nml (fun v1 => ?_)
        refine sim_lstore (L' := [(4, .long (x4)), (6, .long (x6)), (8, .int (x8)), (9, .long (v1))]) d_X3_commonDivisor_28 (Nat.le_of_ble_eq_true rfl) rfl ?_
        refine sim_lload 1 d_X3_commonDivisor_30 rfl ?_
        refine sim_lstore (L' := [(6, .long (x6)), (8, .int (x8)), (9, .long (v1)), (4, .long (x6))]) d_X3_commonDivisor_32 (Nat.le_of_ble_eq_true rfl) rfl ?_
        refine sim_lload 2 d_X3_commonDivisor_34 rfl ?_
        refine sim_lstore (L' := [(8, .int (x8)), (9, .long (v1)), (4, .long (x6)), (6, .long (v1))]) d_X3_commonDivisor_36 (Nat.le_of_ble_eq_true rfl) rfl ?_
        refine sim_iinc (v := x8 + (1 : Int32)) (L' := [(9, .long (v1)), (4, .long (x6)), (6, .long (v1)), (8, .int (x8 + (1 : Int32)))]) 0 d_X3_commonDivisor_38 (Nat.le_of_ble_eq_true rfl) rfl rfl rfl ?_
        refine sim_goto d_X3_commonDivisor_41 ?_
        exact sim_sub [1, 2, 3] rfl (ih x6 v1 (x8 + (1 : Int32)) M)
def f_X3_commonDivisor (a1 : Int64) (a2 : Int64) (M : mm_M) : Option (Int64 × mm_M) :=
  f_X3_commonDivisor_9 mm_fu a1 a2 (0 : Int32) M
theorem s_X3_commonDivisor (a1 : Int64) (a2 : Int64) (M : mm_M) : Sim sysC Y_X3_commonDivisor 0 0 [(0, .long (a1)), (2, .long (a2))] [] M mm_fL (f_X3_commonDivisor a1 a2 M) := by
  unfold f_X3_commonDivisor
  refine sim_lload_n 0 d_X3_commonDivisor_0 rfl rfl ?_
  refine sim_lstore (L' := [(0, .long (a1)), (2, .long (a2)), (4, .long (a1))]) d_X3_commonDivisor_1 (Nat.le_of_ble_eq_true rfl) rfl ?_
  refine sim_lload_n 1 d_X3_commonDivisor_3 rfl rfl ?_
  refine sim_lstore (L' := [(0, .long (a1)), (2, .long (a2)), (4, .long (a1)), (6, .long (a2))]) d_X3_commonDivisor_4 (Nat.le_of_ble_eq_true rfl) rfl ?_
  refine sim_iconst (0 : Int32) d_X3_commonDivisor_6 rfl ?_
  refine sim_istore (L' := [(0, .long (a1)), (2, .long (a2)), (4, .long (a1)), (6, .long (a2)), (8, .int ((0 : Int32)))]) d_X3_commonDivisor_7 (Nat.le_of_ble_eq_true rfl) rfl ?_
  exact sim_sub [2, 3, 4] rfl (s_X3_commonDivisor_9 mm_fu a1 a2 (0 : Int32) M)
theorem ct_X3_commonDivisor (a1 : Int64) (a2 : Int64) (M : mm_M) : Ct sysC Y_X3_commonDivisor 0 [.long (a1), .long (a2)] M mm_fL (f_X3_commonDivisor a1 a2 M) :=
  ct_of_sim (by decide) rfl (Nat.le_of_ble_eq_true rfl) (s_X3_commonDivisor a1 a2 M)
def f_X3_become_8_17 (x1 : Int64) (x3 : Int64) (x5 : Int64) (M : mm_M) : Option (mm_M) :=
  mm_nzL x5 (
  mm_let (sL M 8 0 (x1 / x5)) (fun M1 =>
  mm_nzL x5 (
  mm_let (sL M1 8 1 (x3 / x5)) (fun M2 =>
  some M2))))
theorem s_X3_become_8_17 (x1 : Int64) (x3 : Int64) (x5 : Int64) (M : mm_M) : Sim sysC Y_X3_become 1 17 [(0, .ref 8), (1, .long (x1)), (3, .long (x3)), (5, .long (x5))] [] M mm_fV (f_X3_become_8_17 x1 x3 x5 M) := by
  unfold f_X3_become_8_17
  refine sim_aload_n 0 d_X3_become_17 rfl rfl ?_
  refine sim_lload_n 1 d_X3_become_18 rfl rfl ?_
  refine sim_lload 3 d_X3_become_19 rfl ?_
  refine sim_ldiv d_X3_become_21 ?_
  refine sim_putl d_X3_become_22 fl_X3_7 ob_C_8 rfl ?_
  refine sim_nmM (fun M1 => ?_)
  refine sim_aload_n 0 d_X3_become_25 rfl rfl ?_
  refine sim_lload_n 2 d_X3_become_26 rfl rfl ?_
  refine sim_lload 3 d_X3_become_27 rfl ?_
  refine sim_ldiv d_X3_become_29 ?_
  refine sim_putl d_X3_become_30 fl_X3_13 ob_C_8 rfl ?_
  refine sim_nmM (fun M2 => ?_)
  exact sim_vret d_X3_become_33 rfl
def f_X3_become_8 (a1 : Int64) (a2 : Int64) (M : mm_M) : Option (mm_M) :=
  mm_bi (f_X3_commonDivisor a1 a2 M) (fun r1 M1 =>
  if 0 ≤ (lg_cmp (r1) ((1 : Int64))) then
    f_X3_become_8_17 a1 a2 r1 M1
  else
    f_X3_become_8_17 a1 a2 (1 : Int64) M1)
theorem s_X3_become_8 (a1 : Int64) (a2 : Int64) (M : mm_M) : Sim sysC Y_X3_become 1 0 [(0, .ref 8), (1, .long (a1)), (3, .long (a2))] [] M mm_fV (f_X3_become_8 a1 a2 M) := by
  unfold f_X3_become_8
  refine sim_lload_n 1 d_X3_become_0 rfl rfl ?_
  refine sim_lload_n 2 d_X3_become_1 rfl rfl ?_
  refine sim_callSl Y_X3_commonDivisor 0 [.long (a1), .long (a2)] [] d_X3_become_2 lk_X3_16 cs_X3_commonDivisor rfl (by omega) (Nat.le_of_ble_eq_true rfl) (ct_X3_commonDivisor a1 a2 M) (fun r1 M1 => ?_)
  refine sim_lstore (L' := [(0, .ref 8), (1, .long (a1)), (3, .long (a2)), (5, .long (r1))]) d_X3_become_5 (Nat.le_of_ble_eq_true rfl) rfl ?_
  refine sim_lload 3 d_X3_become_7 rfl ?_
  refine sim_lconst (1 : Int64) d_X3_become_9 rfl ?_
  refine sim_lcmp d_X3_become_10 ?_
  refine sim_if_ge d_X3_become_11 ?_ ?_
  ·
    exact sim_sub [0, 1, 2, 3] rfl (s_X3_become_8_17 a1 a2 r1 M1)
  ·
    refine sim_lconst (1 : Int64) d_X3_become_14 rfl ?_
    refine sim_lstore (L' := [(0, .ref 8), (1, .long (a1)), (3, .long (a2)), (5, .long ((1 : Int64)))]) d_X3_become_15 (Nat.le_of_ble_eq_true rfl) rfl ?_
    exact sim_sub [0, 1, 2, 3] rfl (s_X3_become_8_17 a1 a2 (1 : Int64) M1)
theorem ct_X3_become_8 (a1 : Int64) (a2 : Int64) (M : mm_M) : Ct sysC Y_X3_become 1 [.ref 8, .long (a1), .long (a2)] M mm_fV (f_X3_become_8 a1 a2 M) :=
  ct_of_sim (by decide) rfl (Nat.le_of_ble_eq_true rfl) (s_X3_become_8 a1 a2 M)
def f_X11_drawn_43 (M : mm_M) : Option (Int32 × mm_M) :=
  mm_bi (f_X11_refuse (-2 : Int32) M) (fun r1 M1 =>
  some (r1, M1))
theorem s_X11_drawn_43 (M : mm_M) : Sim sysC Y_X11_drawn 2 43 [(0, .ref 0)] [] M mm_fI (f_X11_drawn_43 M) := by
  unfold f_X11_drawn_43
  refine sim_aload_n 0 d_X11_drawn_43 rfl rfl ?_
  refine sim_bipush (-2 : Int32) d_X11_drawn_44 rfl ?_
  refine sim_callVi Y_X11_refuse 0 [.int ((-2 : Int32))] [] d_X11_drawn_46 lk_X11_108 cv_X11_refuse ob_C_0 rfl (by omega) (Nat.le_of_ble_eq_true rfl) (ct_X11_refuse (-2 : Int32) M) (fun r1 M1 => ?_)
  exact sim_iret d_X11_drawn_49 rfl
def f_X11_drawn (a1 : Int32) (a2 : Int32) (M : mm_M) : Option (Int32 × mm_M) :=
  if (mI M 6 6) = 0 then
    mm_bi (f_X11_refuse (-5 : Int32) M) (fun r5 M6 =>
    some (r5, M6))
  else
    mm_bi (f_X6_has a1 M) (fun r1 M1 =>
    if r1 = 0 then
      mm_bi (f_X11_refuse (-1 : Int32) M1) (fun r4 M5 =>
      some (r4, M5))
    else
      if a2 < 0 then
        f_X11_drawn_43 M1
      else
        if a2 ≤ (2 : Int32) then
          if a2 = 0 then
            mm_ck a1 40 (
            if (mI M1 51 a1.toNatClampNeg) = 0 then
              some ((0 : Int32), M1)
            else
              some ((1 : Int32), M1))
          else
            mm_bi (f_X2_partsAbove_6 a1 M1) (fun r2 M2 =>
            mm_bi (f_X2_partsBelow_6 a1 M2) (fun r3 M3 =>
            mm_bv (f_X3_become_8 r2 r3 M3) (fun M4 =>
            if a2 = (1 : Int32) then
              some ((mL M4 8 0).toInt32, M4)
            else
              some ((mL M4 8 1).toInt32, M4))))
        else
          f_X11_drawn_43 M1)
theorem s_X11_drawn (a1 : Int32) (a2 : Int32) (M : mm_M) : Sim sysC Y_X11_drawn 2 0 [(0, .ref 0), (1, .int (a1)), (2, .int (a2))] [] M mm_fI (f_X11_drawn a1 a2 M) := by
  unfold f_X11_drawn
  refine sim_aload_n 0 d_X11_drawn_0 rfl rfl ?_
  refine sim_geta d_X11_drawn_1 fl_X11_39 ob_C_0 rfl ?_
  refine sim_geti d_X11_drawn_4 fl_X11_191 ob_C_6 rfl ?_
  refine sim_if_ne d_X11_drawn_7 ?_ ?_
  ·
    refine sim_aload_n 0 d_X11_drawn_17 rfl rfl ?_
    refine sim_geta d_X11_drawn_18 fl_X11_20 ob_C_0 rfl ?_
    refine sim_iload_n 1 d_X11_drawn_21 rfl rfl ?_
    refine sim_callVi Y_X6_has 0 [.int (a1)] [] d_X11_drawn_22 lk_X11_128 cv_X6_has ob_C_2 rfl (by omega) (Nat.le_of_ble_eq_true rfl) (ct_X6_has a1 M) (fun r1 M1 => ?_)
    refine sim_if_ne d_X11_drawn_25 ?_ ?_
    ·
      refine sim_iload_n 2 d_X11_drawn_34 rfl rfl ?_
      refine sim_if_lt d_X11_drawn_35 ?_ ?_
      ·
        exact sim_sub [0] rfl (s_X11_drawn_43 M1)
      ·
        refine sim_iload_n 2 d_X11_drawn_38 rfl rfl ?_
        refine sim_iconst (2 : Int32) d_X11_drawn_39 rfl ?_
        refine sim_icmp_le d_X11_drawn_40 ?_ ?_
        ·
          refine sim_iload_n 2 d_X11_drawn_50 rfl rfl ?_
          refine sim_if_ne d_X11_drawn_51 ?_ ?_
          ·
            refine sim_aload_n 0 d_X11_drawn_72 rfl rfl ?_
            refine sim_geta d_X11_drawn_73 fl_X11_49 ob_C_0 rfl ?_
            refine sim_aload_n 0 d_X11_drawn_76 rfl rfl ?_
            refine sim_geta d_X11_drawn_77 fl_X11_39 ob_C_0 rfl ?_
            refine sim_iload_n 1 d_X11_drawn_80 rfl rfl ?_
            refine sim_callVl Y_X2_partsAbove 0 [.int (a1)] [.ref 8] d_X11_drawn_81 lk_X11_195 cv_X2_partsAbove ob_C_6 rfl (by omega) (Nat.le_of_ble_eq_true rfl) (ct_X2_partsAbove_6 a1 M1) (fun r2 M2 => ?_)
            refine sim_aload_n 0 d_X11_drawn_84 rfl rfl ?_
            refine sim_geta d_X11_drawn_85 fl_X11_39 ob_C_0 rfl ?_
            refine sim_iload_n 1 d_X11_drawn_88 rfl rfl ?_
            refine sim_callVl Y_X2_partsBelow 1 [.int (a1)] [.long (r2), .ref 8] d_X11_drawn_89 lk_X11_199 cv_X2_partsBelow ob_C_6 rfl (by omega) (Nat.le_of_ble_eq_true rfl) (ct_X2_partsBelow_6 a1 M2) (fun r3 M3 => ?_)
            refine sim_callVv Y_X3_become 1 [.long (r2), .long (r3)] [] d_X11_drawn_92 lk_X11_202 cv_X3_become ob_C_8 rfl (by omega) (Nat.le_of_ble_eq_true rfl) (ct_X3_become_8 r2 r3 M3) (fun M4 => ?_)
            refine sim_iload_n 2 d_X11_drawn_95 rfl rfl ?_
            refine sim_iconst (1 : Int32) d_X11_drawn_96 rfl ?_
            refine sim_icmp_ne d_X11_drawn_97 ?_ ?_
            ·
              refine sim_aload_n 0 d_X11_drawn_110 rfl rfl ?_
              refine sim_geta d_X11_drawn_111 fl_X11_49 ob_C_0 rfl ?_
              refine sim_getl d_X11_drawn_114 fl_X11_210 ob_C_8 rfl ?_
              refine sim_l2i d_X11_drawn_117 ?_
              exact sim_iret d_X11_drawn_118 rfl
            ·
              refine sim_aload_n 0 d_X11_drawn_100 rfl rfl ?_
              refine sim_geta d_X11_drawn_101 fl_X11_49 ob_C_0 rfl ?_
              refine sim_getl d_X11_drawn_104 fl_X11_206 ob_C_8 rfl ?_
              refine sim_goto d_X11_drawn_107 ?_
              refine sim_l2i d_X11_drawn_117 ?_
              exact sim_iret d_X11_drawn_118 rfl
          ·
            refine sim_aload_n 0 d_X11_drawn_54 rfl rfl ?_
            refine sim_geta d_X11_drawn_55 fl_X11_39 ob_C_0 rfl ?_
            refine sim_geta d_X11_drawn_58 fl_X11_192 ob_C_6 rfl ?_
            refine sim_iload_n 1 d_X11_drawn_61 rfl rfl ?_
            refine sim_zald d_X11_drawn_62 ar_C_51 ?_
            refine sim_if_eq d_X11_drawn_63 ?_ ?_
            ·
              refine sim_iconst (0 : Int32) d_X11_drawn_70 rfl ?_
              exact sim_iret d_X11_drawn_71 rfl
            ·
              refine sim_iconst (1 : Int32) d_X11_drawn_66 rfl ?_
              refine sim_goto d_X11_drawn_67 ?_
              exact sim_iret d_X11_drawn_71 rfl
        ·
          exact sim_sub [0] rfl (s_X11_drawn_43 M1)
    ·
      refine sim_aload_n 0 d_X11_drawn_28 rfl rfl ?_
      refine sim_iconst (-1 : Int32) d_X11_drawn_29 rfl ?_
      refine sim_callVi Y_X11_refuse 0 [.int ((-1 : Int32))] [] d_X11_drawn_30 lk_X11_108 cv_X11_refuse ob_C_0 rfl (by omega) (Nat.le_of_ble_eq_true rfl) (ct_X11_refuse (-1 : Int32) M1) (fun r4 M5 => ?_)
      exact sim_iret d_X11_drawn_33 rfl
  ·
    refine sim_aload_n 0 d_X11_drawn_10 rfl rfl ?_
    refine sim_bipush (-5 : Int32) d_X11_drawn_11 rfl ?_
    refine sim_callVi Y_X11_refuse 0 [.int ((-5 : Int32))] [] d_X11_drawn_13 lk_X11_108 cv_X11_refuse ob_C_0 rfl (by omega) (Nat.le_of_ble_eq_true rfl) (ct_X11_refuse (-5 : Int32) M) (fun r5 M6 => ?_)
    exact sim_iret d_X11_drawn_16 rfl
theorem ct_X11_drawn (a1 : Int32) (a2 : Int32) (M : mm_M) : Ct sysC Y_X11_drawn 2 [.ref 0, .int (a1), .int (a2)] M mm_fI (f_X11_drawn a1 a2 M) :=
  ct_of_sim (by decide) rfl (Nat.le_of_ble_eq_true rfl) (s_X11_drawn a1 a2 M)
def f_X8_append_6 : Nat → Int32 → Int64 → Int32 → mm_M → Option (Int32 × mm_M)
  | 0, _, _, _, _ => none
  | n + 1, x1, x4, x6, M =>
  if x1 ≤ x6 then
    some (mI M 9 2, M)
  else
    if (80 : Int32) ≤ (mI M 9 2) then
      some (mI M 9 2, M)
    else
      mm_ck (mI M 9 2) 80 (
      mm_let (sI M 59 (mI M 9 2).toNatClampNeg ((x4 &&& (255 : Int64)).toInt32)) (fun M1 =>
      mm_let (sI M1 9 2 ((mI M1 9 2) + (1 : Int32))) (fun M2 =>
      mm_let (((x4).toUInt64 >>> (((8 : Int32)).toInt64.toUInt64 &&& Int64.toUInt64 63)).toInt64) (fun v1 =>
      f_X8_append_6 n x1 v1 (x6 + (1 : Int32)) M2))))
theorem s_X8_append_6 (n : Nat) : ∀ (x1 : Int32) (x4 : Int64) (x6 : Int32) (M : mm_M), Sim sysC Y_X8_append 0 6 [(0, .ref 9), (1, .int (x1)), (4, .long (x4)), (6, .int (x6))] [] M mm_fI (f_X8_append_6 n x1 x4 x6 M) := by
  induction n with
  | zero => intros; exact sim_none
  | succ n ih =>
    intro x1 x4 x6 M
    rw [f_X8_append_6]
    refine sim_iload 3 d_X8_append_6 rfl ?_
    refine sim_iload_n 1 d_X8_append_8 rfl rfl ?_
    refine sim_icmp_ge d_X8_append_9 ?_ ?_
    ·
      refine sim_aload_n 0 d_X8_append_60 rfl rfl ?_
      refine sim_geti d_X8_append_61 fl_X8_18 ob_C_9 rfl ?_
      exact sim_iret d_X8_append_64 rfl
    ·
      refine sim_aload_n 0 d_X8_append_12 rfl rfl ?_
      refine sim_geti d_X8_append_13 fl_X8_18 ob_C_9 rfl ?_
      refine sim_bipush (80 : Int32) d_X8_append_16 rfl ?_
      refine sim_icmp_ge d_X8_append_18 ?_ ?_
      ·
        refine sim_aload_n 0 d_X8_append_60 rfl rfl ?_
        refine sim_geti d_X8_append_61 fl_X8_18 ob_C_9 rfl ?_
        exact sim_iret d_X8_append_64 rfl
      ·
        refine sim_aload_n 0 d_X8_append_21 rfl rfl ?_
        refine sim_geta d_X8_append_22 fl_X8_9 ob_C_9 rfl ?_
        refine sim_aload_n 0 d_X8_append_25 rfl rfl ?_
        refine sim_geti d_X8_append_26 fl_X8_18 ob_C_9 rfl ?_
        refine sim_lload 2 d_X8_append_29 rfl ?_
        refine sim_ldc2 (255 : Int64) d_X8_append_31 kn_X8_31 ?_
        refine sim_land d_X8_append_34 ?_
        refine sim_l2i d_X8_append_35 ?_
        refine sim_iast d_X8_append_36 ar_C_59 ?_
        refine sim_nmM (fun M1 => ?_)
        refine sim_aload_n 0 d_X8_append_37 rfl rfl ?_
        refine sim_dup d_X8_append_38 rfl ?_
        refine sim_geti d_X8_append_39 fl_X8_18 ob_C_9 rfl ?_
        refine sim_iconst (1 : Int32) d_X8_append_42 rfl ?_
        refine sim_iadd d_X8_append_43 ?_
        refine sim_puti d_X8_append_44 fl_X8_18 ob_C_9 rfl ?_
        refine sim_nmM (fun M2 => ?_)
        refine sim_lload 2 d_X8_append_47 rfl ?_
        refine sim_bipush (8 : Int32) d_X8_append_49 rfl ?_
        refine sim_lushr d_X8_append_51 ?_
        refine sim_nml (fun v1 => ?_)
        refine sim_lstore (L' := [(0, .ref 9), (1, .int (x1)), (6, .int (x6)), (4, .long (v1))]) d_X8_append_52 (Nat.le_of_ble_eq_true rfl) rfl ?_
        refine sim_iinc (v := x6 + (1 : Int32)) (L' := [(0, .ref 9), (1, .int (x1)), (4, .long (v1)), (6, .int (x6 + (1 : Int32)))]) 2 d_X8_append_54 (Nat.le_of_ble_eq_true rfl) rfl rfl rfl ?_
        refine sim_goto d_X8_append_57 ?_
        exact sim_sub [0, 1, 2, 3] rfl (ih x1 v1 (x6 + (1 : Int32)) M2)
def f_X8_append (a1 : Int32) (a2 : Int64) (M : mm_M) : Option (Int32 × mm_M) :=
  f_X8_append_6 mm_fu a1 a2 (0 : Int32) M
theorem s_X8_append (a1 : Int32) (a2 : Int64) (M : mm_M) : Sim sysC Y_X8_append 0 0 [(0, .ref 9), (1, .int (a1)), (2, .long (a2))] [] M mm_fI (f_X8_append a1 a2 M) := by
  unfold f_X8_append
  refine sim_lload_n 2 d_X8_append_0 rfl rfl ?_
  refine sim_lstore (L' := [(0, .ref 9), (1, .int (a1)), (2, .long (a2)), (4, .long (a2))]) d_X8_append_1 (Nat.le_of_ble_eq_true rfl) rfl ?_
  refine sim_iconst (0 : Int32) d_X8_append_3 rfl ?_
  refine sim_istore (L' := [(0, .ref 9), (1, .int (a1)), (2, .long (a2)), (4, .long (a2)), (6, .int ((0 : Int32)))]) d_X8_append_4 (Nat.le_of_ble_eq_true rfl) rfl ?_
  exact sim_sub [0, 1, 3, 4] rfl (s_X8_append_6 mm_fu a1 a2 (0 : Int32) M)
theorem ct_X8_append (a1 : Int32) (a2 : Int64) (M : mm_M) : Ct sysC Y_X8_append 0 [.ref 9, .int (a1), .long (a2)] M mm_fI (f_X8_append a1 a2 M) :=
  ct_of_sim (by decide) rfl (Nat.le_of_ble_eq_true rfl) (s_X8_append a1 a2 M)
def f_X11_feed_32 (M : mm_M) : Option (Int32 × mm_M) :=
  mm_bi (f_X11_refuse (-6 : Int32) M) (fun r1 M1 =>
  some (r1, M1))
theorem s_X11_feed_32 (M : mm_M) : Sim sysC Y_X11_feed 1 32 [(0, .ref 0)] [] M mm_fI (f_X11_feed_32 M) := by
  unfold f_X11_feed_32
  refine sim_aload_n 0 d_X11_feed_32 rfl rfl ?_
  refine sim_bipush (-6 : Int32) d_X11_feed_33 rfl ?_
  refine sim_callVi Y_X11_refuse 0 [.int ((-6 : Int32))] [] d_X11_feed_35 lk_X11_108 cv_X11_refuse ob_C_0 rfl (by omega) (Nat.le_of_ble_eq_true rfl) (ct_X11_refuse (-6 : Int32) M) (fun r1 M1 => ?_)
  exact sim_iret d_X11_feed_38 rfl
def f_X11_feed (a1 : Int32) (a2 : Int64) (M : mm_M) : Option (Int32 × mm_M) :=
  if (1 : Int32) ≤ a1 then
    if (8 : Int32) < a1 then
      f_X11_feed_32 M
    else
      if a1 ≤ ((80 : Int32) - (mI M 9 2)) then
        mm_bi (f_X8_append a1 a2 M) (fun r1 M1 =>
        some (r1, M1))
      else
        f_X11_feed_32 M
  else
    mm_bi (f_X11_refuse (-4 : Int32) M) (fun r2 M2 =>
    some (r2, M2))
theorem s_X11_feed (a1 : Int32) (a2 : Int64) (M : mm_M) : Sim sysC Y_X11_feed 1 0 [(0, .ref 0), (1, .int (a1)), (2, .long (a2))] [] M mm_fI (f_X11_feed a1 a2 M) := by
  unfold f_X11_feed
  refine sim_iload_n 1 d_X11_feed_0 rfl rfl ?_
  refine sim_iconst (1 : Int32) d_X11_feed_1 rfl ?_
  refine sim_icmp_ge d_X11_feed_2 ?_ ?_
  ·
    refine sim_iload_n 1 d_X11_feed_12 rfl rfl ?_
    refine sim_bipush (8 : Int32) d_X11_feed_13 rfl ?_
    refine sim_icmp_gt d_X11_feed_15 ?_ ?_
    ·
      exact sim_sub [0] rfl (s_X11_feed_32 M)
    ·
      refine sim_iload_n 1 d_X11_feed_18 rfl rfl ?_
      refine sim_bipush (80 : Int32) d_X11_feed_19 rfl ?_
      refine sim_aload_n 0 d_X11_feed_21 rfl rfl ?_
      refine sim_geta d_X11_feed_22 fl_X11_56 ob_C_0 rfl ?_
      refine sim_geti d_X11_feed_25 fl_X11_229 ob_C_9 rfl ?_
      refine sim_isub d_X11_feed_28 ?_
      refine sim_icmp_le d_X11_feed_29 ?_ ?_
      ·
        refine sim_aload_n 0 d_X11_feed_39 rfl rfl ?_
        refine sim_geta d_X11_feed_40 fl_X11_56 ob_C_0 rfl ?_
        refine sim_iload_n 1 d_X11_feed_43 rfl rfl ?_
        refine sim_lload_n 2 d_X11_feed_44 rfl rfl ?_
        refine sim_callVi Y_X8_append 0 [.int (a1), .long (a2)] [] d_X11_feed_45 lk_X11_230 cv_X8_append ob_C_9 rfl (by omega) (Nat.le_of_ble_eq_true rfl) (ct_X8_append a1 a2 M) (fun r1 M1 => ?_)
        exact sim_iret d_X11_feed_48 rfl
      ·
        exact sim_sub [0] rfl (s_X11_feed_32 M)
  ·
    refine sim_aload_n 0 d_X11_feed_5 rfl rfl ?_
    refine sim_bipush (-4 : Int32) d_X11_feed_6 rfl ?_
    refine sim_callVi Y_X11_refuse 0 [.int ((-4 : Int32))] [] d_X11_feed_8 lk_X11_108 cv_X11_refuse ob_C_0 rfl (by omega) (Nat.le_of_ble_eq_true rfl) (ct_X11_refuse (-4 : Int32) M) (fun r2 M2 => ?_)
    exact sim_iret d_X11_feed_11 rfl
theorem ct_X11_feed (a1 : Int32) (a2 : Int64) (M : mm_M) : Ct sysC Y_X11_feed 1 [.ref 0, .int (a1), .long (a2)] M mm_fI (f_X11_feed a1 a2 M) :=
  ct_of_sim (by decide) rfl (Nat.le_of_ble_eq_true rfl) (s_X11_feed a1 a2 M)
def f_X11_isUse (a1 : Int32) (M : mm_M) : Option (Int32 × mm_M) :=
  if a1 < 0 then
    some ((0 : Int32), M)
  else
    if (5 : Int32) ≤ a1 then
      some ((0 : Int32), M)
    else
      some ((1 : Int32), M)
theorem s_X11_isUse (a1 : Int32) (M : mm_M) : Sim sysC Y_X11_isUse 0 0 [(0, .int (a1))] [] M mm_fI (f_X11_isUse a1 M) := by
  unfold f_X11_isUse
  refine sim_iload_n 0 d_X11_isUse_0 rfl rfl ?_
  refine sim_if_lt d_X11_isUse_1 ?_ ?_
  ·
    refine sim_iconst (0 : Int32) d_X11_isUse_13 rfl ?_
    exact sim_zret d_X11_isUse_14 rfl rfl
  ·
    refine sim_iload_n 0 d_X11_isUse_4 rfl rfl ?_
    refine sim_iconst (5 : Int32) d_X11_isUse_5 rfl ?_
    refine sim_icmp_ge d_X11_isUse_6 ?_ ?_
    ·
      refine sim_iconst (0 : Int32) d_X11_isUse_13 rfl ?_
      exact sim_zret d_X11_isUse_14 rfl rfl
    ·
      refine sim_iconst (1 : Int32) d_X11_isUse_9 rfl ?_
      refine sim_goto d_X11_isUse_10 ?_
      exact sim_zret d_X11_isUse_14 rfl rfl
theorem ct_X11_isUse (a1 : Int32) (M : mm_M) : Ct sysC Y_X11_isUse 0 [.int (a1)] M mm_fI (f_X11_isUse a1 M) :=
  ct_of_sim (by decide) rfl (Nat.le_of_ble_eq_true rfl) (s_X11_isUse a1 M)
def f_X5_add_44 (k88 : Int32 → mm_M → Option (Int32 × mm_M)) : Nat → Int32 → Int32 → Int32 → mm_M → Option (Int32 × mm_M)
  | 0, _, _, _, _ => none
  | n + 1, x4, x5, x6, M =>
  if x4 ≤ x6 then
    k88 x5 M
  else
    if (80 : Int32) ≤ x6 then
      k88 x5 M
    else
      if (80 : Int32) ≤ x6 then
        k88 x5 M
      else
        mm_ck x6 80 (
        mm_ck ((x5 * (80 : Int32)) + x6) 1600 (
        mm_let (sI M 49 ((x5 * (80 : Int32)) + x6).toNatClampNeg (mI M 60 x6.toNatClampNeg)) (fun M1 =>
        f_X5_add_44 k88 n x4 x5 (x6 + (1 : Int32)) M1)))
theorem s_X5_add_44 (k88 : Int32 → mm_M → Option (Int32 × mm_M)) (hk88 : ∀ (x5 : Int32) (M : mm_M), Sim sysC Y_X5_add 0 88 [(0, .ref 5), (5, .int (x5))] [] M mm_fI (k88 x5 M)) (n : Nat) : ∀ (x4 : Int32) (x5 : Int32) (x6 : Int32) (M : mm_M), Sim sysC Y_X5_add 0 44 [(0, .ref 5), (3, .ref 60), (4, .int (x4)), (5, .int (x5)), (6, .int (x6))] [] M mm_fI (f_X5_add_44 k88 n x4 x5 x6 M) := by
  induction n with
  | zero => intros; exact sim_none
  | succ n ih =>
    intro x4 x5 x6 M
    rw [f_X5_add_44]
    refine sim_iload 4 d_X5_add_44 rfl ?_
    refine sim_iload 2 d_X5_add_46 rfl ?_
    refine sim_icmp_ge d_X5_add_48 ?_ ?_
    ·
      exact sim_sub [0, 3] rfl (hk88 x5 M)
    ·
      refine sim_iload 4 d_X5_add_51 rfl ?_
      refine sim_bipush (80 : Int32) d_X5_add_53 rfl ?_
      refine sim_icmp_ge d_X5_add_55 ?_ ?_
      ·
        exact sim_sub [0, 3] rfl (hk88 x5 M)
      ·
        refine sim_iload 4 d_X5_add_58 rfl ?_
        refine sim_aload_n 1 d_X5_add_60 rfl rfl ?_
        refine sim_alen (80 : Int32) d_X5_add_61 ar_C_60 (Or.inl rfl) rfl ?_
        refine sim_icmp_ge d_X5_add_62 ?_ ?_
        ·
          exact sim_sub [0, 3] rfl (hk88 x5 M)
        ·
          refine sim_aload_n 0 d_X5_add_65 rfl rfl ?_
          refine sim_geta d_X5_add_66 fl_X5_21 ob_C_5 rfl ?_
          refine sim_iload 3 d_X5_add_69 rfl ?_
          refine sim_bipush (80 : Int32) d_X5_add_71 rfl ?_
          refine sim_imul d_X5_add_73 ?_
          refine sim_iload 4 d_X5_add_74 rfl ?_
          refine sim_iadd d_X5_add_76 ?_
          refine sim_aload_n 1 d_X5_add_77 rfl rfl ?_
          refine sim_iload 4 d_X5_add_78 rfl ?_
          refine sim_iald d_X5_add_80 ar_C_60 ?_
          refine sim_iast d_X5_add_81 ar_C_49 ?_
          refine sim_nmM (fun M1 => ?_)
          refine sim_iinc (v := x6 + (1 : Int32)) (L' := [(0, .ref 5), (3, .ref 60), (4, .int (x4)), (5, .int (x5)), (6, .int (x6 + (1 : Int32)))]) 4 d_X5_add_82 (Nat.le_of_ble_eq_true rfl) rfl rfl rfl ?_
          refine sim_goto d_X5_add_85 ?_
          exact sim_sub [0, 1, 2, 3, 4] rfl (ih x4 x5 (x6 + (1 : Int32)) M1)
def f_X5_add_88 (x5 : Int32) (M : mm_M) : Option (Int32 × mm_M) :=
  mm_let (sI M 5 5 ((mI M 5 5) + (1 : Int32))) (fun M1 =>
  some (x5, M1))
theorem s_X5_add_88 (x5 : Int32) (M : mm_M) : Sim sysC Y_X5_add 0 88 [(0, .ref 5), (5, .int (x5))] [] M mm_fI (f_X5_add_88 x5 M) := by
  unfold f_X5_add_88
  refine sim_aload_n 0 d_X5_add_88 rfl rfl ?_
  refine sim_dup d_X5_add_89 rfl ?_
  refine sim_geti d_X5_add_90 fl_X5_27 ob_C_5 rfl ?_
  refine sim_iconst (1 : Int32) d_X5_add_93 rfl ?_
  refine sim_iadd d_X5_add_94 ?_
  refine sim_puti d_X5_add_95 fl_X5_27 ob_C_5 rfl ?_
  refine sim_nmM (fun M1 => ?_)
  refine sim_iload 1 d_X5_add_98 rfl ?_
  exact sim_iret d_X5_add_100 rfl
def f_X5_add (a1 : Int32) (a2 : Int32) (a4 : Int32) (M : mm_M) : Option (Int32 × mm_M) :=
  mm_let (mI M 5 5) (fun v1 =>
  if v1 < (20 : Int32) then
    mm_ck v1 20 (
    mm_let (sI M 46 v1.toNatClampNeg a1) (fun M1 =>
    mm_ck v1 20 (
    mm_let (sI M1 47 v1.toNatClampNeg a2) (fun M2 =>
    mm_ck v1 20 (
    mm_let (sI M2 48 v1.toNatClampNeg a4) (fun M3 =>
    f_X5_add_44 f_X5_add_88 mm_fu a4 v1 (0 : Int32) M3))))))
  else
    some ((-6 : Int32), M))
theorem s_X5_add (a1 : Int32) (a2 : Int32) (a4 : Int32) (M : mm_M) : Sim sysC Y_X5_add 0 0 [(0, .ref 5), (1, .int (a1)), (2, .int (a2)), (3, .ref 60), (4, .int (a4))] [] M mm_fI (f_X5_add a1 a2 a4 M) := by
  unfold f_X5_add
  refine sim_aload_n 0 d_X5_add_0 rfl rfl ?_
  refine sim_geti d_X5_add_1 fl_X5_27 ob_C_5 rfl ?_
  refine sim_nmi (fun v1 => ?_)
  refine sim_istore (L' := [(0, .ref 5), (1, .int (a1)), (2, .int (a2)), (3, .ref 60), (4, .int (a4)), (5, .int (v1))]) d_X5_add_4 (Nat.le_of_ble_eq_true rfl) rfl ?_
  refine sim_iload 5 d_X5_add_6 rfl ?_
  refine sim_bipush (20 : Int32) d_X5_add_8 rfl ?_
  refine sim_icmp_lt d_X5_add_10 ?_ ?_
  ·
    refine sim_aload_n 0 d_X5_add_16 rfl rfl ?_
    refine sim_geta d_X5_add_17 fl_X5_9 ob_C_5 rfl ?_
    refine sim_iload 5 d_X5_add_20 rfl ?_
    refine sim_iload_n 1 d_X5_add_22 rfl rfl ?_
    refine sim_iast d_X5_add_23 ar_C_46 ?_
    refine sim_nmM (fun M1 => ?_)
    refine sim_aload_n 0 d_X5_add_24 rfl rfl ?_
    refine sim_geta d_X5_add_25 fl_X5_15 ob_C_5 rfl ?_
    refine sim_iload 5 d_X5_add_28 rfl ?_
    refine sim_iload_n 2 d_X5_add_30 rfl rfl ?_
    refine sim_iast d_X5_add_31 ar_C_47 ?_
    refine sim_nmM (fun M2 => ?_)
    refine sim_aload_n 0 d_X5_add_32 rfl rfl ?_
    refine sim_geta d_X5_add_33 fl_X5_18 ob_C_5 rfl ?_
    refine sim_iload 5 d_X5_add_36 rfl ?_
    refine sim_iload 4 d_X5_add_38 rfl ?_
    refine sim_iast d_X5_add_40 ar_C_48 ?_
    refine sim_nmM (fun M3 => ?_)
    refine sim_iconst (0 : Int32) d_X5_add_41 rfl ?_
    refine sim_istore (L' := [(0, .ref 5), (1, .int (a1)), (2, .int (a2)), (3, .ref 60), (4, .int (a4)), (5, .int (v1)), (6, .int ((0 : Int32)))]) d_X5_add_42 (Nat.le_of_ble_eq_true rfl) rfl ?_
    exact sim_sub [0, 3, 4, 5, 6] rfl (s_X5_add_44 f_X5_add_88 s_X5_add_88 mm_fu a4 v1 (0 : Int32) M3)
  ·
    refine sim_bipush (-6 : Int32) d_X5_add_13 rfl ?_
    exact sim_iret d_X5_add_15 rfl
theorem ct_X5_add (a1 : Int32) (a2 : Int32) (a4 : Int32) (M : mm_M) : Ct sysC Y_X5_add 0 [.ref 5, .int (a1), .int (a2), .ref 60, .int (a4)] M mm_fI (f_X5_add a1 a2 a4 M) :=
  ct_of_sim (by decide) rfl (Nat.le_of_ble_eq_true rfl) (s_X5_add a1 a2 a4 M)

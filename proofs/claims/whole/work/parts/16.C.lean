def f_X11_rule_48 (M : mm_M) : Option (Int32 × mm_M) :=
  mm_bi (f_X11_refuse (-6 : Int32) M) (fun r1 M1 =>
  some (r1, M1))
theorem s_X11_rule_48 (M : mm_M) : Sim sysC Y_X11_rule 46 48 [(0, .ref 0)] [] M mm_fI (f_X11_rule_48 M) := by
  unfold f_X11_rule_48
  refine sim_aload_n 0 d_X11_rule_48 rfl rfl ?_
  refine sim_bipush (-6 : Int32) d_X11_rule_49 rfl ?_
  refine sim_callVi Y_X11_refuse 0 [.int ((-6 : Int32))] [] d_X11_rule_51 lk_X11_108 cv_X11_refuse ob_C_0 rfl (by omega) (Nat.le_of_ble_eq_true rfl) (ct_X11_refuse (-6 : Int32) M) (fun r1 M1 => ?_)
  exact sim_iret d_X11_rule_54 rfl
def f_X11_rule (a1 : Int32) (a2 : Int32) (M : mm_M) : Option (Int32 × mm_M) :=
  mm_bi (f_X11_isUse a1 M) (fun r1 M1 =>
  if r1 = 0 then
    mm_bi (f_X11_refuse (-2 : Int32) M1) (fun r5 M6 =>
    some (r5, M6))
  else
    if (mI M1 0 16) ≤ a2 then
      if (2000 : Int32) < a2 then
        f_X11_rule_48 M1
      else
        if (mI M1 5 5) < (20 : Int32) then
          mm_bi (t_translate M1) (fun r2 M2 =>
          mm_let (sI M2 9 2 (0 : Int32)) (fun M3 =>
          if r2 < 0 then
            mm_bi (f_X5_add a1 a2 (mI M3 9 3) M3) (fun r3 M4 =>
            some (r3, M4))
          else
            some ((-20 : Int32) - r2, M3)))
        else
          f_X11_rule_48 M1
    else
      mm_bi (f_X11_refuse (-4 : Int32) M1) (fun r4 M5 =>
      some (r4, M5)))
theorem s_X11_rule (a1 : Int32) (a2 : Int32) (M : mm_M) : Sim sysC Y_X11_rule 46 0 [(0, .ref 0), (1, .int (a1)), (2, .int (a2))] [] M mm_fI (f_X11_rule a1 a2 M) := by
  unfold f_X11_rule
  refine sim_iload_n 1 d_X11_rule_0 rfl rfl ?_
  refine sim_callSi Y_X11_isUse 0 [.int (a1)] [] d_X11_rule_1 lk_X11_234 cs_X11_isUse rfl (by omega) (Nat.le_of_ble_eq_true rfl) (ct_X11_isUse a1 M) (fun r1 M1 => ?_)
  refine sim_if_ne d_X11_rule_4 ?_ ?_
  ·
    refine sim_iload_n 2 d_X11_rule_14 rfl rfl ?_
    refine sim_aload_n 0 d_X11_rule_15 rfl rfl ?_
    refine sim_geti d_X11_rule_16 fl_X11_102 ob_C_0 rfl ?_
    refine sim_icmp_ge d_X11_rule_19 ?_ ?_
    ·
      refine sim_iload_n 2 d_X11_rule_29 rfl rfl ?_
      refine sim_sipush (2000 : Int32) d_X11_rule_30 rfl ?_
      refine sim_icmp_gt d_X11_rule_33 ?_ ?_
      ·
        exact sim_sub [0] rfl (s_X11_rule_48 M1)
      ·
        refine sim_aload_n 0 d_X11_rule_36 rfl rfl ?_
        refine sim_geta d_X11_rule_37 fl_X11_35 ob_C_0 rfl ?_
        refine sim_geti d_X11_rule_40 fl_X11_237 ob_C_5 rfl ?_
        refine sim_bipush (20 : Int32) d_X11_rule_43 rfl ?_
        refine sim_icmp_lt d_X11_rule_45 ?_ ?_
        ·
          refine sim_aload_n 0 d_X11_rule_55 rfl rfl ?_
          refine sim_geta d_X11_rule_56 fl_X11_56 ob_C_0 rfl ?_
          refine sim_callVi Y_X8_translate 45 [] [] d_X11_rule_59 lk_X11_240 cv_X8_translate ob_C_9 rfl (by omega) (Nat.le_of_ble_eq_true rfl) (ct_t_translate M1) (fun r2 M2 => ?_)
          refine sim_istore_n (L' := [(0, .ref 0), (1, .int (a1)), (2, .int (a2)), (3, .int (r2))]) d_X11_rule_62 rfl (Nat.le_of_ble_eq_true rfl) rfl ?_
          refine sim_aload_n 0 d_X11_rule_63 rfl rfl ?_
          refine sim_geta d_X11_rule_64 fl_X11_56 ob_C_0 rfl ?_
          refine sim_iconst (0 : Int32) d_X11_rule_67 rfl ?_
          refine sim_puti d_X11_rule_68 fl_X11_229 ob_C_9 rfl ?_
          refine sim_nmM (fun M3 => ?_)
          refine sim_iload_n 3 d_X11_rule_71 rfl rfl ?_
          refine sim_if_lt d_X11_rule_72 ?_ ?_
          ·
            refine sim_aload_n 0 d_X11_rule_80 rfl rfl ?_
            refine sim_geta d_X11_rule_81 fl_X11_35 ob_C_0 rfl ?_
            refine sim_iload_n 1 d_X11_rule_84 rfl rfl ?_
            refine sim_iload_n 2 d_X11_rule_85 rfl rfl ?_
            refine sim_aload_n 0 d_X11_rule_86 rfl rfl ?_
            refine sim_geta d_X11_rule_87 fl_X11_56 ob_C_0 rfl ?_
            refine sim_geta d_X11_rule_90 fl_X11_243 ob_C_9 rfl ?_
            refine sim_aload_n 0 d_X11_rule_93 rfl rfl ?_
            refine sim_geta d_X11_rule_94 fl_X11_56 ob_C_0 rfl ?_
            refine sim_geti d_X11_rule_97 fl_X11_246 ob_C_9 rfl ?_
            refine sim_callVi Y_X5_add 0 [.int (a1), .int (a2), .ref 60, .int (mI M3 9 3)] [] d_X11_rule_100 lk_X11_249 cv_X5_add ob_C_5 rfl (by omega) (Nat.le_of_ble_eq_true rfl) (ct_X5_add a1 a2 (mI M3 9 3) M3) (fun r3 M4 => ?_)
            exact sim_iret d_X11_rule_103 rfl
          ·
            refine sim_bipush (-20 : Int32) d_X11_rule_75 rfl ?_
            refine sim_iload_n 3 d_X11_rule_77 rfl rfl ?_
            refine sim_isub d_X11_rule_78 ?_
            exact sim_iret d_X11_rule_79 rfl
        ·
          exact sim_sub [0] rfl (s_X11_rule_48 M1)
    ·
      refine sim_aload_n 0 d_X11_rule_22 rfl rfl ?_
      refine sim_bipush (-4 : Int32) d_X11_rule_23 rfl ?_
      refine sim_callVi Y_X11_refuse 0 [.int ((-4 : Int32))] [] d_X11_rule_25 lk_X11_108 cv_X11_refuse ob_C_0 rfl (by omega) (Nat.le_of_ble_eq_true rfl) (ct_X11_refuse (-4 : Int32) M1) (fun r4 M5 => ?_)
      exact sim_iret d_X11_rule_28 rfl
  ·
    refine sim_aload_n 0 d_X11_rule_7 rfl rfl ?_
    refine sim_bipush (-2 : Int32) d_X11_rule_8 rfl ?_
    refine sim_callVi Y_X11_refuse 0 [.int ((-2 : Int32))] [] d_X11_rule_10 lk_X11_108 cv_X11_refuse ob_C_0 rfl (by omega) (Nat.le_of_ble_eq_true rfl) (ct_X11_refuse (-2 : Int32) M1) (fun r5 M6 => ?_)
    exact sim_iret d_X11_rule_13 rfl
theorem ct_X11_rule (a1 : Int32) (a2 : Int32) (M : mm_M) : Ct sysC Y_X11_rule 46 [.ref 0, .int (a1), .int (a2)] M mm_fI (f_X11_rule a1 a2 M) :=
  ct_of_sim (by decide) rfl (Nat.le_of_ble_eq_true rfl) (s_X11_rule a1 a2 M)
def f_X5_inForce_64 (k9 : Int32 → Int32 → Int32 → Int32 → Int32 → mm_M → Option (Int32 × mm_M)) (x1 : Int32) (x2 : Int32) (x3 : Int32) (x4 : Int32) (x5 : Int32) (M : mm_M) : Option (Int32 × mm_M) :=
  k9 x1 x2 x3 x4 (x5 + (1 : Int32)) M
theorem s_X5_inForce_64 (k9 : Int32 → Int32 → Int32 → Int32 → Int32 → mm_M → Option (Int32 × mm_M)) (hk9 : ∀ (x1 : Int32) (x2 : Int32) (x3 : Int32) (x4 : Int32) (x5 : Int32) (M : mm_M), Sim sysC Y_X5_inForce 0 9 [(0, .ref 5), (1, .int (x1)), (2, .int (x2)), (3, .int (x3)), (4, .int (x4)), (5, .int (x5))] [] M mm_fI (k9 x1 x2 x3 x4 x5 M)) (x1 : Int32) (x2 : Int32) (x3 : Int32) (x4 : Int32) (x5 : Int32) (M : mm_M) : Sim sysC Y_X5_inForce 0 64 [(0, .ref 5), (1, .int (x1)), (2, .int (x2)), (3, .int (x3)), (4, .int (x4)), (5, .int (x5))] [] M mm_fI (f_X5_inForce_64 k9 x1 x2 x3 x4 x5 M) := by
  unfold f_X5_inForce_64
  refine sim_iinc (v := x5 + (1 : Int32)) (L' := [(0, .ref 5), (1, .int (x1)), (2, .int (x2)), (3, .int (x3)), (4, .int (x4)), (5, .int (x5 + (1 : Int32)))]) 5 d_X5_inForce_64 (Nat.le_of_ble_eq_true rfl) rfl rfl rfl ?_
  refine sim_goto d_X5_inForce_67 ?_
  exact sim_sub [0, 1, 2, 3, 4, 5] rfl (hk9 x1 x2 x3 x4 (x5 + (1 : Int32)) M)
def f_X5_inForce_9 : Nat → Int32 → Int32 → Int32 → Int32 → Int32 → mm_M → Option (Int32 × mm_M)
  | 0, _, _, _, _, _, _ => none
  | n + 1, x1, x2, x3, x4, x5, M =>
  if (mI M 5 5) ≤ x5 then
    some (x3, M)
  else
    mm_ck x5 20 (
    if (mI M 46 x5.toNatClampNeg) = x1 then
      mm_ck x5 20 (
      if x2 < (mI M 47 x5.toNatClampNeg) then
        f_X5_inForce_64 (f_X5_inForce_9 n) x1 x2 x3 x4 x5 M
      else
        mm_ck x5 20 (
        if (mI M 47 x5.toNatClampNeg) < x4 then
          f_X5_inForce_64 (f_X5_inForce_9 n) x1 x2 x3 x4 x5 M
        else
          mm_ck x5 20 (
          mm_let (mI M 47 x5.toNatClampNeg) (fun v1 =>
          f_X5_inForce_64 (f_X5_inForce_9 n) x1 x2 x5 v1 x5 M))))
    else
      f_X5_inForce_64 (f_X5_inForce_9 n) x1 x2 x3 x4 x5 M)
theorem s_X5_inForce_9 (n : Nat) : ∀ (x1 : Int32) (x2 : Int32) (x3 : Int32) (x4 : Int32) (x5 : Int32) (M : mm_M), Sim sysC Y_X5_inForce 0 9 [(0, .ref 5), (1, .int (x1)), (2, .int (x2)), (3, .int (x3)), (4, .int (x4)), (5, .int (x5))] [] M mm_fI (f_X5_inForce_9 n x1 x2 x3 x4 x5 M) := by
  induction n with
  | zero => intros; exact sim_none
  | succ n ih =>
    intro x1 x2 x3 x4 x5 M
    rw [f_X5_inForce_9]
    refine sim_iload 5 d_X5_inForce_9 rfl ?_
    refine sim_aload_n 0 d_X5_inForce_11 rfl rfl ?_
    refine sim_geti d_X5_inForce_12 fl_X5_27 ob_C_5 rfl ?_
    refine sim_icmp_ge d_X5_inForce_15 ?_ ?_
    ·
      refine sim_iload_n 3 d_X5_inForce_70 rfl rfl ?_
      exact sim_iret d_X5_inForce_71 rfl
    ·
      refine sim_aload_n 0 d_X5_inForce_18 rfl rfl ?_
      refine sim_geta d_X5_inForce_19 fl_X5_9 ob_C_5 rfl ?_
      refine sim_iload 5 d_X5_inForce_22 rfl ?_
      refine sim_iald d_X5_inForce_24 ar_C_46 ?_
      refine sim_iload_n 1 d_X5_inForce_25 rfl rfl ?_
      refine sim_icmp_ne d_X5_inForce_26 ?_ ?_
      ·
        exact sim_sub [0, 1, 2, 3, 4, 5] rfl (s_X5_inForce_64 (f_X5_inForce_9 n) ih x1 x2 x3 x4 x5 M)
      ·
        refine sim_aload_n 0 d_X5_inForce_29 rfl rfl ?_
        refine sim_geta d_X5_inForce_30 fl_X5_15 ob_C_5 rfl ?_
        refine sim_iload 5 d_X5_inForce_33 rfl ?_
        refine sim_iald d_X5_inForce_35 ar_C_47 ?_
        refine sim_iload_n 2 d_X5_inForce_36 rfl rfl ?_
        refine sim_icmp_gt d_X5_inForce_37 ?_ ?_
        ·
          exact sim_sub [0, 1, 2, 3, 4, 5] rfl (s_X5_inForce_64 (f_X5_inForce_9 n) ih x1 x2 x3 x4 x5 M)
        ·
          refine sim_aload_n 0 d_X5_inForce_40 rfl rfl ?_
          refine sim_geta d_X5_inForce_41 fl_X5_15 ob_C_5 rfl ?_
          refine sim_iload 5 d_X5_inForce_44 rfl ?_
          refine sim_iald d_X5_inForce_46 ar_C_47 ?_
          refine sim_iload 4 d_X5_inForce_47 rfl ?_
          refine sim_icmp_lt d_X5_inForce_49 ?_ ?_
          ·
            exact sim_sub [0, 1, 2, 3, 4, 5] rfl (s_X5_inForce_64 (f_X5_inForce_9 n) ih x1 x2 x3 x4 x5 M)
          ·
            refine sim_iload 5 d_X5_inForce_52 rfl ?_
            refine sim_istore_n (L' := [(0, .ref 5), (1, .int (x1)), (2, .int (x2)), (4, .int (x4)), (5, .int (x5)), (3, .int (x5))]) d_X5_inForce_54 rfl (Nat.le_of_ble_eq_true rfl) rfl ?_
            refine sim_aload_n 0 d_X5_inForce_55 rfl rfl ?_
            refine sim_geta d_X5_inForce_56 fl_X5_15 ob_C_5 rfl ?_
            refine sim_iload 4 d_X5_inForce_59 rfl ?_
            refine sim_iald d_X5_inForce_61 ar_C_47 ?_
            refine sim_nmi (fun v1 => ?_)
            refine sim_istore (L' := [(0, .ref 5), (1, .int (x1)), (2, .int (x2)), (5, .int (x5)), (3, .int (x5)), (4, .int (v1))]) d_X5_inForce_62 (Nat.le_of_ble_eq_true rfl) rfl ?_
            exact sim_sub [0, 1, 2, 4, 5, 3] rfl (s_X5_inForce_64 (f_X5_inForce_9 n) ih x1 x2 x5 v1 x5 M)
def f_X5_inForce (a1 : Int32) (a2 : Int32) (M : mm_M) : Option (Int32 × mm_M) :=
  f_X5_inForce_9 mm_fu a1 a2 (-9 : Int32) (-1 : Int32) (0 : Int32) M
theorem s_X5_inForce (a1 : Int32) (a2 : Int32) (M : mm_M) : Sim sysC Y_X5_inForce 0 0 [(0, .ref 5), (1, .int (a1)), (2, .int (a2))] [] M mm_fI (f_X5_inForce a1 a2 M) := by
  unfold f_X5_inForce
  refine sim_bipush (-9 : Int32) d_X5_inForce_0 rfl ?_
  refine sim_istore_n (L' := [(0, .ref 5), (1, .int (a1)), (2, .int (a2)), (3, .int ((-9 : Int32)))]) d_X5_inForce_2 rfl (Nat.le_of_ble_eq_true rfl) rfl ?_
  refine sim_iconst (-1 : Int32) d_X5_inForce_3 rfl ?_
  refine sim_istore (L' := [(0, .ref 5), (1, .int (a1)), (2, .int (a2)), (3, .int ((-9 : Int32))), (4, .int ((-1 : Int32)))]) d_X5_inForce_4 (Nat.le_of_ble_eq_true rfl) rfl ?_
  refine sim_iconst (0 : Int32) d_X5_inForce_6 rfl ?_
  refine sim_istore (L' := [(0, .ref 5), (1, .int (a1)), (2, .int (a2)), (3, .int ((-9 : Int32))), (4, .int ((-1 : Int32))), (5, .int ((0 : Int32)))]) d_X5_inForce_7 (Nat.le_of_ble_eq_true rfl) rfl ?_
  exact sim_sub [0, 1, 2, 3, 4, 5] rfl (s_X5_inForce_9 mm_fu a1 a2 (-9 : Int32) (-1 : Int32) (0 : Int32) M)
theorem ct_X5_inForce (a1 : Int32) (a2 : Int32) (M : mm_M) : Ct sysC Y_X5_inForce 0 [.ref 5, .int (a1), .int (a2)] M mm_fI (f_X5_inForce a1 a2 M) :=
  ct_of_sim (by decide) rfl (Nat.le_of_ble_eq_true rfl) (s_X5_inForce a1 a2 M)
def f_X11_force (a1 : Int32) (a2 : Int32) (M : mm_M) : Option (Int32 × mm_M) :=
  mm_bi (f_X11_isUse a1 M) (fun r1 M1 =>
  if r1 = 0 then
    mm_bi (f_X11_refuse (-2 : Int32) M1) (fun r5 M5 =>
    some (r5, M5))
  else
    mm_bi (f_X11_outside a2 (0 : Int32) (2000 : Int32) M1) (fun r2 M2 =>
    if r2 = 0 then
      mm_bi (f_X5_inForce a1 a2 M2) (fun r3 M3 =>
      some (r3, M3))
    else
      mm_bi (f_X11_refuse r2 M2) (fun r4 M4 =>
      some (r4, M4))))
theorem s_X11_force (a1 : Int32) (a2 : Int32) (M : mm_M) : Sim sysC Y_X11_force 1 0 [(0, .ref 0), (1, .int (a1)), (2, .int (a2))] [] M mm_fI (f_X11_force a1 a2 M) := by
  unfold f_X11_force
  refine sim_iload_n 1 d_X11_force_0 rfl rfl ?_
  refine sim_callSi Y_X11_isUse 0 [.int (a1)] [] d_X11_force_1 lk_X11_234 cs_X11_isUse rfl (by omega) (Nat.le_of_ble_eq_true rfl) (ct_X11_isUse a1 M) (fun r1 M1 => ?_)
  refine sim_if_ne d_X11_force_4 ?_ ?_
  ·
    refine sim_iload_n 2 d_X11_force_14 rfl rfl ?_
    refine sim_iconst (0 : Int32) d_X11_force_15 rfl ?_
    refine sim_sipush (2000 : Int32) d_X11_force_16 rfl ?_
    refine sim_callSi Y_X11_outside 0 [.int (a2), .int ((0 : Int32)), .int ((2000 : Int32))] [] d_X11_force_19 lk_X11_131 cs_X11_outside rfl (by omega) (Nat.le_of_ble_eq_true rfl) (ct_X11_outside a2 (0 : Int32) (2000 : Int32) M1) (fun r2 M2 => ?_)
    refine sim_istore_n (L' := [(0, .ref 0), (1, .int (a1)), (2, .int (a2)), (3, .int (r2))]) d_X11_force_22 rfl (Nat.le_of_ble_eq_true rfl) rfl ?_
    refine sim_iload_n 3 d_X11_force_23 rfl rfl ?_
    refine sim_if_eq d_X11_force_24 ?_ ?_
    ·
      refine sim_aload_n 0 d_X11_force_33 rfl rfl ?_
      refine sim_geta d_X11_force_34 fl_X11_35 ob_C_0 rfl ?_
      refine sim_iload_n 1 d_X11_force_37 rfl rfl ?_
      refine sim_iload_n 2 d_X11_force_38 rfl rfl ?_
      refine sim_callVi Y_X5_inForce 0 [.int (a1), .int (a2)] [] d_X11_force_39 lk_X11_252 cv_X5_inForce ob_C_5 rfl (by omega) (Nat.le_of_ble_eq_true rfl) (ct_X5_inForce a1 a2 M2) (fun r3 M3 => ?_)
      exact sim_iret d_X11_force_42 rfl
    ·
      refine sim_aload_n 0 d_X11_force_27 rfl rfl ?_
      refine sim_iload_n 3 d_X11_force_28 rfl rfl ?_
      refine sim_callVi Y_X11_refuse 0 [.int (r2)] [] d_X11_force_29 lk_X11_108 cv_X11_refuse ob_C_0 rfl (by omega) (Nat.le_of_ble_eq_true rfl) (ct_X11_refuse r2 M2) (fun r4 M4 => ?_)
      exact sim_iret d_X11_force_32 rfl
  ·
    refine sim_aload_n 0 d_X11_force_7 rfl rfl ?_
    refine sim_bipush (-2 : Int32) d_X11_force_8 rfl ?_
    refine sim_callVi Y_X11_refuse 0 [.int ((-2 : Int32))] [] d_X11_force_10 lk_X11_108 cv_X11_refuse ob_C_0 rfl (by omega) (Nat.le_of_ble_eq_true rfl) (ct_X11_refuse (-2 : Int32) M1) (fun r5 M5 => ?_)
    exact sim_iret d_X11_force_13 rfl
theorem ct_X11_force (a1 : Int32) (a2 : Int32) (M : mm_M) : Ct sysC Y_X11_force 1 [.ref 0, .int (a1), .int (a2)] M mm_fI (f_X11_force a1 a2 M) :=
  ct_of_sim (by decide) rfl (Nat.le_of_ble_eq_true rfl) (s_X11_force a1 a2 M)
def f_X6_ownerOn_57 (k15 : Int32 → Int32 → Int32 → Int32 → mm_M → Option (Int32 × mm_M)) (x1 : Int32) (x2 : Int32) (x3 : Int32) (x4 : Int32) (M : mm_M) : Option (Int32 × mm_M) :=
  k15 x1 x2 x3 (x4 + (1 : Int32)) M
theorem s_X6_ownerOn_57 (k15 : Int32 → Int32 → Int32 → Int32 → mm_M → Option (Int32 × mm_M)) (hk15 : ∀ (x1 : Int32) (x2 : Int32) (x3 : Int32) (x4 : Int32) (M : mm_M), Sim sysC Y_X6_ownerOn 1 15 [(0, .ref 2), (1, .int (x1)), (2, .int (x2)), (3, .int (x3)), (4, .int (x4))] [] M mm_fI (k15 x1 x2 x3 x4 M)) (x1 : Int32) (x2 : Int32) (x3 : Int32) (x4 : Int32) (M : mm_M) : Sim sysC Y_X6_ownerOn 1 57 [(0, .ref 2), (1, .int (x1)), (2, .int (x2)), (3, .int (x3)), (4, .int (x4))] [] M mm_fI (f_X6_ownerOn_57 k15 x1 x2 x3 x4 M) := by
  unfold f_X6_ownerOn_57
  refine sim_iinc (v := x4 + (1 : Int32)) (L' := [(0, .ref 2), (1, .int (x1)), (2, .int (x2)), (3, .int (x3)), (4, .int (x4 + (1 : Int32)))]) 4 d_X6_ownerOn_57 (Nat.le_of_ble_eq_true rfl) rfl rfl rfl ?_
  refine sim_goto d_X6_ownerOn_60 ?_
  exact sim_sub [0, 1, 2, 3, 4] rfl (hk15 x1 x2 x3 (x4 + (1 : Int32)) M)
def f_X6_ownerOn_15 : Nat → Int32 → Int32 → Int32 → Int32 → mm_M → Option (Int32 × mm_M)
  | 0, _, _, _, _, _ => none
  | n + 1, x1, x2, x3, x4, M =>
  mm_ck x1 40 (
  if (mI M 32 x1.toNatClampNeg) ≤ x4 then
    some (x3, M)
  else
    if (6 : Int32) ≤ x4 then
      some (x3, M)
    else
      mm_ck ((x1 * (6 : Int32)) + x4) 240 (
      if x2 < (mI M 33 ((x1 * (6 : Int32)) + x4).toNatClampNeg) then
        f_X6_ownerOn_57 (f_X6_ownerOn_15 n) x1 x2 x3 x4 M
      else
        mm_let ((x1 * (6 : Int32)) + x4) (fun v1 =>
        f_X6_ownerOn_57 (f_X6_ownerOn_15 n) x1 x2 v1 x4 M)))
theorem s_X6_ownerOn_15 (n : Nat) : ∀ (x1 : Int32) (x2 : Int32) (x3 : Int32) (x4 : Int32) (M : mm_M), Sim sysC Y_X6_ownerOn 1 15 [(0, .ref 2), (1, .int (x1)), (2, .int (x2)), (3, .int (x3)), (4, .int (x4))] [] M mm_fI (f_X6_ownerOn_15 n x1 x2 x3 x4 M) := by
  induction n with
  | zero => intros; exact sim_none
  | succ n ih =>
    intro x1 x2 x3 x4 M
    rw [f_X6_ownerOn_15]
    refine sim_iload 4 d_X6_ownerOn_15 rfl ?_
    refine sim_aload_n 0 d_X6_ownerOn_17 rfl rfl ?_
    refine sim_geta d_X6_ownerOn_18 fl_X6_31 ob_C_2 rfl ?_
    refine sim_iload_n 1 d_X6_ownerOn_21 rfl rfl ?_
    refine sim_iald d_X6_ownerOn_22 ar_C_32 ?_
    refine sim_icmp_ge d_X6_ownerOn_23 ?_ ?_
    ·
      refine sim_iload_n 3 d_X6_ownerOn_63 rfl rfl ?_
      exact sim_iret d_X6_ownerOn_64 rfl
    ·
      refine sim_iload 4 d_X6_ownerOn_26 rfl ?_
      refine sim_bipush (6 : Int32) d_X6_ownerOn_28 rfl ?_
      refine sim_icmp_ge d_X6_ownerOn_30 ?_ ?_
      ·
        refine sim_iload_n 3 d_X6_ownerOn_63 rfl rfl ?_
        exact sim_iret d_X6_ownerOn_64 rfl
      ·
        refine sim_aload_n 0 d_X6_ownerOn_33 rfl rfl ?_
        refine sim_geta d_X6_ownerOn_34 fl_X6_34 ob_C_2 rfl ?_
        refine sim_iload_n 1 d_X6_ownerOn_37 rfl rfl ?_
        refine sim_bipush (6 : Int32) d_X6_ownerOn_38 rfl ?_
        refine sim_imul d_X6_ownerOn_40 ?_
        refine sim_iload 4 d_X6_ownerOn_41 rfl ?_
        refine sim_iadd d_X6_ownerOn_43 ?_
        refine sim_iald d_X6_ownerOn_44 ar_C_33 ?_
        refine sim_iload_n 2 d_X6_ownerOn_45 rfl rfl ?_
        refine sim_icmp_gt d_X6_ownerOn_46 ?_ ?_
        ·
          exact sim_sub [0, 1, 2, 3, 4] rfl (s_X6_ownerOn_57 (f_X6_ownerOn_15 n) ih x1 x2 x3 x4 M)
        ·
          refine sim_iload_n 1 d_X6_ownerOn_49 rfl rfl ?_
          refine sim_bipush (6 : Int32) d_X6_ownerOn_50 rfl ?_
          refine sim_imul d_X6_ownerOn_52 ?_
          refine sim_iload 4 d_X6_ownerOn_53 rfl ?_
          refine sim_iadd d_X6_ownerOn_55 ?_
          refine sim_nmi (fun v1 => ?_)
          refine sim_istore_n (L' := [(0, .ref 2), (1, .int (x1)), (2, .int (x2)), (4, .int (x4)), (3, .int (v1))]) d_X6_ownerOn_56 rfl (Nat.le_of_ble_eq_true rfl) rfl ?_
          exact sim_sub [0, 1, 2, 4, 3] rfl (s_X6_ownerOn_57 (f_X6_ownerOn_15 n) ih x1 x2 v1 x4 M)
def f_X6_ownerOn (a1 : Int32) (a2 : Int32) (M : mm_M) : Option (Int32 × mm_M) :=
  mm_bi (f_X6_has a1 M) (fun r1 M1 =>
  if r1 = 0 then
    some ((-1 : Int32), M1)
  else
    f_X6_ownerOn_15 mm_fu a1 a2 (-1 : Int32) (0 : Int32) M1)
theorem s_X6_ownerOn (a1 : Int32) (a2 : Int32) (M : mm_M) : Sim sysC Y_X6_ownerOn 1 0 [(0, .ref 2), (1, .int (a1)), (2, .int (a2))] [] M mm_fI (f_X6_ownerOn a1 a2 M) := by
  unfold f_X6_ownerOn
  refine sim_aload_n 0 d_X6_ownerOn_0 rfl rfl ?_
  refine sim_iload_n 1 d_X6_ownerOn_1 rfl rfl ?_
  refine sim_callVi Y_X6_has 0 [.int (a1)] [] d_X6_ownerOn_2 lk_X6_45 cv_X6_has ob_C_2 rfl (by omega) (Nat.le_of_ble_eq_true rfl) (ct_X6_has a1 M) (fun r1 M1 => ?_)
  refine sim_if_ne d_X6_ownerOn_5 ?_ ?_
  ·
    refine sim_iconst (-1 : Int32) d_X6_ownerOn_10 rfl ?_
    refine sim_istore_n (L' := [(0, .ref 2), (1, .int (a1)), (2, .int (a2)), (3, .int ((-1 : Int32)))]) d_X6_ownerOn_11 rfl (Nat.le_of_ble_eq_true rfl) rfl ?_
    refine sim_iconst (0 : Int32) d_X6_ownerOn_12 rfl ?_
    refine sim_istore (L' := [(0, .ref 2), (1, .int (a1)), (2, .int (a2)), (3, .int ((-1 : Int32))), (4, .int ((0 : Int32)))]) d_X6_ownerOn_13 (Nat.le_of_ble_eq_true rfl) rfl ?_
    exact sim_sub [0, 1, 2, 3, 4] rfl (s_X6_ownerOn_15 mm_fu a1 a2 (-1 : Int32) (0 : Int32) M1)
  ·
    refine sim_iconst (-1 : Int32) d_X6_ownerOn_8 rfl ?_
    exact sim_iret d_X6_ownerOn_9 rfl
theorem ct_X6_ownerOn (a1 : Int32) (a2 : Int32) (M : mm_M) : Ct sysC Y_X6_ownerOn 1 [.ref 2, .int (a1), .int (a2)] M mm_fI (f_X6_ownerOn a1 a2 M) :=
  ct_of_sim (by decide) rfl (Nat.le_of_ble_eq_true rfl) (s_X6_ownerOn a1 a2 M)
def f_X9_latestDay (M : mm_M) : Option (Int32 × mm_M) :=
  if (mI M 4 7) ≤ 0 then
    some ((0 : Int32), M)
  else
    if (100 : Int32) < (mI M 4 7) then
      some ((0 : Int32), M)
    else
      mm_ck ((mI M 4 7) - (1 : Int32)) 100 (
      some (mI M 41 ((mI M 4 7) - (1 : Int32)).toNatClampNeg, M))
theorem s_X9_latestDay (M : mm_M) : Sim sysC Y_X9_latestDay 0 0 [(0, .ref 4)] [] M mm_fI (f_X9_latestDay M) := by
  unfold f_X9_latestDay
  refine sim_aload_n 0 d_X9_latestDay_0 rfl rfl ?_
  refine sim_geti d_X9_latestDay_1 fl_X9_33 ob_C_4 rfl ?_
  refine sim_if_le d_X9_latestDay_4 ?_ ?_
  ·
    refine sim_iconst (0 : Int32) d_X9_latestDay_30 rfl ?_
    exact sim_iret d_X9_latestDay_31 rfl
  ·
    refine sim_aload_n 0 d_X9_latestDay_7 rfl rfl ?_
    refine sim_geti d_X9_latestDay_8 fl_X9_33 ob_C_4 rfl ?_
    refine sim_bipush (100 : Int32) d_X9_latestDay_11 rfl ?_
    refine sim_icmp_gt d_X9_latestDay_13 ?_ ?_
    ·
      refine sim_iconst (0 : Int32) d_X9_latestDay_30 rfl ?_
      exact sim_iret d_X9_latestDay_31 rfl
    ·
      refine sim_aload_n 0 d_X9_latestDay_16 rfl rfl ?_
      refine sim_geta d_X9_latestDay_17 fl_X9_18 ob_C_4 rfl ?_
      refine sim_aload_n 0 d_X9_latestDay_20 rfl rfl ?_
      refine sim_geti d_X9_latestDay_21 fl_X9_33 ob_C_4 rfl ?_
      refine sim_iconst (1 : Int32) d_X9_latestDay_24 rfl ?_
      refine sim_isub d_X9_latestDay_25 ?_
      refine sim_iald d_X9_latestDay_26 ar_C_41 ?_
      refine sim_goto d_X9_latestDay_27 ?_
      exact sim_iret d_X9_latestDay_31 rfl
theorem ct_X9_latestDay (M : mm_M) : Ct sysC Y_X9_latestDay 0 [.ref 4] M mm_fI (f_X9_latestDay M) :=
  ct_of_sim (by decide) rfl (Nat.le_of_ble_eq_true rfl) (s_X9_latestDay M)
def f_X11_mayBeTestedOn (a1 : Int32) (a2 : Int32) (M : mm_M) : Option (Int32 × mm_M) :=
  mm_bi (f_X6_ownerOn a1 a2 M) (fun r1 M1 =>
  if r1 < 0 then
    some ((0 : Int32), M1)
  else
    if (mI M1 0 16) < a2 then
      some ((0 : Int32), M1)
    else
      mm_bi (f_X9_latestDay M1) (fun r2 M2 =>
      if a2 < r2 then
        some ((0 : Int32), M2)
      else
        some ((1 : Int32), M2)))
theorem s_X11_mayBeTestedOn (a1 : Int32) (a2 : Int32) (M : mm_M) : Sim sysC Y_X11_mayBeTestedOn 2 0 [(0, .ref 0), (1, .int (a1)), (2, .int (a2))] [] M mm_fI (f_X11_mayBeTestedOn a1 a2 M) := by
  unfold f_X11_mayBeTestedOn
  refine sim_aload_n 0 d_X11_mayBeTestedOn_0 rfl rfl ?_
  refine sim_geta d_X11_mayBeTestedOn_1 fl_X11_20 ob_C_0 rfl ?_
  refine sim_iload_n 1 d_X11_mayBeTestedOn_4 rfl rfl ?_
  refine sim_iload_n 2 d_X11_mayBeTestedOn_5 rfl rfl ?_
  refine sim_callVi Y_X6_ownerOn 1 [.int (a1), .int (a2)] [] d_X11_mayBeTestedOn_6 lk_X11_294 cv_X6_ownerOn ob_C_2 rfl (by omega) (Nat.le_of_ble_eq_true rfl) (ct_X6_ownerOn a1 a2 M) (fun r1 M1 => ?_)
  refine sim_if_lt d_X11_mayBeTestedOn_9 ?_ ?_
  ·
    refine sim_iconst (0 : Int32) d_X11_mayBeTestedOn_35 rfl ?_
    exact sim_zret d_X11_mayBeTestedOn_36 rfl rfl
  ·
    refine sim_iload_n 2 d_X11_mayBeTestedOn_12 rfl rfl ?_
    refine sim_aload_n 0 d_X11_mayBeTestedOn_13 rfl rfl ?_
    refine sim_geti d_X11_mayBeTestedOn_14 fl_X11_102 ob_C_0 rfl ?_
    refine sim_icmp_gt d_X11_mayBeTestedOn_17 ?_ ?_
    ·
      refine sim_iconst (0 : Int32) d_X11_mayBeTestedOn_35 rfl ?_
      exact sim_zret d_X11_mayBeTestedOn_36 rfl rfl
    ·
      refine sim_iload_n 2 d_X11_mayBeTestedOn_20 rfl rfl ?_
      refine sim_aload_n 0 d_X11_mayBeTestedOn_21 rfl rfl ?_
      refine sim_geta d_X11_mayBeTestedOn_22 fl_X11_30 ob_C_0 rfl ?_
      refine sim_callVi Y_X9_latestDay 0 [] [.int (a2)] d_X11_mayBeTestedOn_25 lk_X11_370 cv_X9_latestDay ob_C_4 rfl (by omega) (Nat.le_of_ble_eq_true rfl) (ct_X9_latestDay M1) (fun r2 M2 => ?_)
      refine sim_icmp_lt d_X11_mayBeTestedOn_28 ?_ ?_
      ·
        refine sim_iconst (0 : Int32) d_X11_mayBeTestedOn_35 rfl ?_
        exact sim_zret d_X11_mayBeTestedOn_36 rfl rfl
      ·
        refine sim_iconst (1 : Int32) d_X11_mayBeTestedOn_31 rfl ?_
        refine sim_goto d_X11_mayBeTestedOn_32 ?_
        exact sim_zret d_X11_mayBeTestedOn_36 rfl rfl
theorem ct_X11_mayBeTestedOn (a1 : Int32) (a2 : Int32) (M : mm_M) : Ct sysC Y_X11_mayBeTestedOn 2 [.ref 0, .int (a1), .int (a2)] M mm_fI (f_X11_mayBeTestedOn a1 a2 M) :=
  ct_of_sim (by decide) rfl (Nat.le_of_ble_eq_true rfl) (s_X11_mayBeTestedOn a1 a2 M)
def f_X9_add (a1 : Int32) (a2 : Int32) (a3 : Int32) (a4 : Int32) (a5 : Int32) (a6 : Int32) (M : mm_M) : Option (Int32 × mm_M) :=
  mm_let (mI M 4 7) (fun v1 =>
  if v1 < (100 : Int32) then
    mm_ck v1 100 (
    mm_let (sI M 39 v1.toNatClampNeg a1) (fun M1 =>
    mm_ck v1 100 (
    mm_let (sI M1 40 v1.toNatClampNeg a2) (fun M2 =>
    mm_ck v1 100 (
    mm_let (sI M2 41 v1.toNatClampNeg a3) (fun M3 =>
    mm_ck v1 100 (
    mm_let (sI M3 42 v1.toNatClampNeg a4) (fun M4 =>
    mm_ck v1 100 (
    mm_let (sI M4 43 v1.toNatClampNeg a5) (fun M5 =>
    mm_ck v1 100 (
    mm_let (sI M5 44 v1.toNatClampNeg a6) (fun M6 =>
    mm_ck v1 100 (
    mm_let (sI M6 45 v1.toNatClampNeg (-1 : Int32)) (fun M7 =>
    mm_let (sI M7 4 7 ((mI M7 4 7) + (1 : Int32))) (fun M8 =>
    some (v1, M8))))))))))))))))
  else
    some ((-6 : Int32), M))
theorem s_X9_add (a1 : Int32) (a2 : Int32) (a3 : Int32) (a4 : Int32) (a5 : Int32) (a6 : Int32) (M : mm_M) : Sim sysC Y_X9_add 0 0 [(0, .ref 4), (1, .int (a1)), (2, .int (a2)), (3, .int (a3)), (4, .int (a4)), (5, .int (a5)), (6, .int (a6))] [] M mm_fI (f_X9_add a1 a2 a3 a4 a5 a6 M) := by
  unfold f_X9_add
  refine sim_aload_n 0 d_X9_add_0 rfl rfl ?_
  refine sim_geti d_X9_add_1 fl_X9_33 ob_C_4 rfl ?_
  refine sim_nmi (fun v1 => ?_)
  refine sim_istore (L' := [(0, .ref 4), (1, .int (a1)), (2, .int (a2)), (3, .int (a3)), (4, .int (a4)), (5, .int (a5)), (6, .int (a6)), (7, .int (v1))]) d_X9_add_4 (Nat.le_of_ble_eq_true rfl) rfl ?_
  refine sim_iload 7 d_X9_add_6 rfl ?_
  refine sim_bipush (100 : Int32) d_X9_add_8 rfl ?_
  refine sim_icmp_lt d_X9_add_10 ?_ ?_
  ·
    refine sim_aload_n 0 d_X9_add_16 rfl rfl ?_
    refine sim_geta d_X9_add_17 fl_X9_9 ob_C_4 rfl ?_
    refine sim_iload 7 d_X9_add_20 rfl ?_
    refine sim_iload_n 1 d_X9_add_22 rfl rfl ?_
    refine sim_iast d_X9_add_23 ar_C_39 ?_
    refine sim_nmM (fun M1 => ?_)
    refine sim_aload_n 0 d_X9_add_24 rfl rfl ?_
    refine sim_geta d_X9_add_25 fl_X9_15 ob_C_4 rfl ?_
    refine sim_iload 7 d_X9_add_28 rfl ?_
    refine sim_iload_n 2 d_X9_add_30 rfl rfl ?_
    refine sim_iast d_X9_add_31 ar_C_40 ?_
    refine sim_nmM (fun M2 => ?_)
    refine sim_aload_n 0 d_X9_add_32 rfl rfl ?_
    refine sim_geta d_X9_add_33 fl_X9_18 ob_C_4 rfl ?_
    refine sim_iload 7 d_X9_add_36 rfl ?_
    refine sim_iload_n 3 d_X9_add_38 rfl rfl ?_
    refine sim_iast d_X9_add_39 ar_C_41 ?_
    refine sim_nmM (fun M3 => ?_)
    refine sim_aload_n 0 d_X9_add_40 rfl rfl ?_
    refine sim_geta d_X9_add_41 fl_X9_21 ob_C_4 rfl ?_
    refine sim_iload 7 d_X9_add_44 rfl ?_
    refine sim_iload 4 d_X9_add_46 rfl ?_
    refine sim_iast d_X9_add_48 ar_C_42 ?_
    refine sim_nmM (fun M4 => ?_)
    refine sim_aload_n 0 d_X9_add_49 rfl rfl ?_
    refine sim_geta d_X9_add_50 fl_X9_24 ob_C_4 rfl ?_
    refine sim_iload 7 d_X9_add_53 rfl ?_
    refine sim_iload 5 d_X9_add_55 rfl ?_
    refine sim_iast d_X9_add_57 ar_C_43 ?_
    refine sim_nmM (fun M5 => ?_)
    refine sim_aload_n 0 d_X9_add_58 rfl rfl ?_
    refine sim_geta d_X9_add_59 fl_X9_27 ob_C_4 rfl ?_
    refine sim_iload 7 d_X9_add_62 rfl ?_
    refine sim_iload 6 d_X9_add_64 rfl ?_
    refine sim_iast d_X9_add_66 ar_C_44 ?_
    refine sim_nmM (fun M6 => ?_)
    refine sim_aload_n 0 d_X9_add_67 rfl rfl ?_
    refine sim_geta d_X9_add_68 fl_X9_30 ob_C_4 rfl ?_
    refine sim_iload 7 d_X9_add_71 rfl ?_
    refine sim_iconst (-1 : Int32) d_X9_add_73 rfl ?_
    refine sim_iast d_X9_add_74 ar_C_45 ?_
    refine sim_nmM (fun M7 => ?_)
    refine sim_aload_n 0 d_X9_add_75 rfl rfl ?_
    refine sim_dup d_X9_add_76 rfl ?_
    refine sim_geti d_X9_add_77 fl_X9_33 ob_C_4 rfl ?_
    refine sim_iconst (1 : Int32) d_X9_add_80 rfl ?_
    refine sim_iadd d_X9_add_81 ?_
    refine sim_puti d_X9_add_82 fl_X9_33 ob_C_4 rfl ?_
    refine sim_nmM (fun M8 => ?_)
    refine sim_iload 7 d_X9_add_85 rfl ?_
    exact sim_iret d_X9_add_87 rfl
  ·
    refine sim_bipush (-6 : Int32) d_X9_add_13 rfl ?_
    exact sim_iret d_X9_add_15 rfl
theorem ct_X9_add (a1 : Int32) (a2 : Int32) (a3 : Int32) (a4 : Int32) (a5 : Int32) (a6 : Int32) (M : mm_M) : Ct sysC Y_X9_add 0 [.ref 4, .int (a1), .int (a2), .int (a3), .int (a4), .int (a5), .int (a6)] M mm_fI (f_X9_add a1 a2 a3 a4 a5 a6 M) :=
  ct_of_sim (by decide) rfl (Nat.le_of_ble_eq_true rfl) (s_X9_add a1 a2 a3 a4 a5 a6 M)
def f_X11_test_135 (M : mm_M) : Option (Int32 × mm_M) :=
  mm_bi (f_X11_refuse (-6 : Int32) M) (fun r1 M1 =>
  some (r1, M1))
theorem s_X11_test_135 (M : mm_M) : Sim sysC Y_X11_test 3 135 [(0, .ref 0)] [] M mm_fI (f_X11_test_135 M) := by
  unfold f_X11_test_135
  refine sim_aload_n 0 d_X11_test_135 rfl rfl ?_
  refine sim_bipush (-6 : Int32) d_X11_test_136 rfl ?_
  refine sim_callVi Y_X11_refuse 0 [.int ((-6 : Int32))] [] d_X11_test_138 lk_X11_108 cv_X11_refuse ob_C_0 rfl (by omega) (Nat.le_of_ble_eq_true rfl) (ct_X11_refuse (-6 : Int32) M) (fun r1 M1 => ?_)
  exact sim_iret d_X11_test_141 rfl
def f_X11_test_97 (M : mm_M) : Option (Int32 × mm_M) :=
  mm_bi (f_X11_refuse (-3 : Int32) M) (fun r1 M1 =>
  some (r1, M1))
theorem s_X11_test_97 (M : mm_M) : Sim sysC Y_X11_test 3 97 [(0, .ref 0)] [] M mm_fI (f_X11_test_97 M) := by
  unfold f_X11_test_97
  refine sim_aload_n 0 d_X11_test_97 rfl rfl ?_
  refine sim_bipush (-3 : Int32) d_X11_test_98 rfl ?_
  refine sim_callVi Y_X11_refuse 0 [.int ((-3 : Int32))] [] d_X11_test_100 lk_X11_108 cv_X11_refuse ob_C_0 rfl (by omega) (Nat.le_of_ble_eq_true rfl) (ct_X11_refuse (-3 : Int32) M) (fun r1 M1 => ?_)
  exact sim_iret d_X11_test_103 rfl
def f_X11_test_49 (M : mm_M) : Option (Int32 × mm_M) :=
  mm_bi (f_X11_refuse (-2 : Int32) M) (fun r1 M1 =>
  some (r1, M1))
theorem s_X11_test_49 (M : mm_M) : Sim sysC Y_X11_test 3 49 [(0, .ref 0)] [] M mm_fI (f_X11_test_49 M) := by
  unfold f_X11_test_49
  refine sim_aload_n 0 d_X11_test_49 rfl rfl ?_
  refine sim_bipush (-2 : Int32) d_X11_test_50 rfl ?_
  refine sim_callVi Y_X11_refuse 0 [.int ((-2 : Int32))] [] d_X11_test_52 lk_X11_108 cv_X11_refuse ob_C_0 rfl (by omega) (Nat.le_of_ble_eq_true rfl) (ct_X11_refuse (-2 : Int32) M) (fun r1 M1 => ?_)
  exact sim_iret d_X11_test_55 rfl
def f_X11_test_31 (M : mm_M) : Option (Int32 × mm_M) :=
  mm_bi (f_X11_refuse (-1 : Int32) M) (fun r1 M1 =>
  some (r1, M1))
theorem s_X11_test_31 (M : mm_M) : Sim sysC Y_X11_test 3 31 [(0, .ref 0)] [] M mm_fI (f_X11_test_31 M) := by
  unfold f_X11_test_31
  refine sim_aload_n 0 d_X11_test_31 rfl rfl ?_
  refine sim_iconst (-1 : Int32) d_X11_test_32 rfl ?_
  refine sim_callVi Y_X11_refuse 0 [.int ((-1 : Int32))] [] d_X11_test_33 lk_X11_108 cv_X11_refuse ob_C_0 rfl (by omega) (Nat.le_of_ble_eq_true rfl) (ct_X11_refuse (-1 : Int32) M) (fun r1 M1 => ?_)
  exact sim_iret d_X11_test_36 rfl
def f_X11_test (a1 : Int32) (a2 : Int32) (a3 : Int32) (a4 : Int32) (a5 : Int32) (a6 : Int32) (M : mm_M) : Option (Int32 × mm_M) :=
  mm_bi (f_X6_has a1 M) (fun r1 M1 =>
  if r1 = 0 then
    f_X11_test_31 M1
  else
    mm_bi (f_X0_has a2 M1) (fun r2 M2 =>
    if r2 = 0 then
      f_X11_test_31 M2
    else
      if a3 < 0 then
        f_X11_test_31 M2
      else
        if a3 < (4 : Int32) then
          if a6 < 0 then
            f_X11_test_49 M2
          else
            if a6 ≤ (7 : Int32) then
              mm_ck a2 8 (
              if (mI M2 34 a2.toNatClampNeg) = 0 then
                mm_bi (f_X11_refuse (-5 : Int32) M2) (fun r6 M6 =>
                some (r6, M6))
              else
                mm_ck a1 40 (
                if (mI M2 31 a1.toNatClampNeg) = 0 then
                  f_X11_test_97 M2
                else
                  mm_bi (f_X11_mayBeTestedOn a1 a4 M2) (fun r3 M3 =>
                  if r3 = 0 then
                    f_X11_test_97 M3
                  else
                    if 0 ≤ a5 then
                      if (24 : Int32) ≤ a5 then
                        f_X11_test_135 M3
                      else
                        if (mI M3 4 7) < (100 : Int32) then
                          mm_bi (f_X9_add a1 a2 a4 a5 a6 (mI M3 0 16) M3) (fun r4 M4 =>
                          some (r4, M4))
                        else
                          f_X11_test_135 M3
                    else
                      mm_bi (f_X11_refuse (-4 : Int32) M3) (fun r5 M5 =>
                      some (r5, M5)))))
            else
              f_X11_test_49 M2
        else
          f_X11_test_31 M2))
theorem s_X11_test (a1 : Int32) (a2 : Int32) (a3 : Int32) (a4 : Int32) (a5 : Int32) (a6 : Int32) (M : mm_M) : Sim sysC Y_X11_test 3 0 [(0, .ref 0), (1, .int (a1)), (2, .int (a2)), (3, .int (a3)), (4, .int (a4)), (5, .int (a5)), (6, .int (a6))] [] M mm_fI (f_X11_test a1 a2 a3 a4 a5 a6 M) := by
  unfold f_X11_test
  refine sim_aload_n 0 d_X11_test_0 rfl rfl ?_
  refine sim_geta d_X11_test_1 fl_X11_20 ob_C_0 rfl ?_
  refine sim_iload_n 1 d_X11_test_4 rfl rfl ?_
  refine sim_callVi Y_X6_has 0 [.int (a1)] [] d_X11_test_5 lk_X11_128 cv_X6_has ob_C_2 rfl (by omega) (Nat.le_of_ble_eq_true rfl) (ct_X6_has a1 M) (fun r1 M1 => ?_)
  refine sim_if_eq d_X11_test_8 ?_ ?_
  ·
    exact sim_sub [0] rfl (s_X11_test_31 M1)
  ·
    refine sim_aload_n 0 d_X11_test_11 rfl rfl ?_
    refine sim_geta d_X11_test_12 fl_X11_25 ob_C_0 rfl ?_
    refine sim_iload_n 2 d_X11_test_15 rfl rfl ?_
    refine sim_callVi Y_X0_has 0 [.int (a2)] [] d_X11_test_16 lk_X11_151 cv_X0_has ob_C_3 rfl (by omega) (Nat.le_of_ble_eq_true rfl) (ct_X0_has a2 M1) (fun r2 M2 => ?_)
    refine sim_if_eq d_X11_test_19 ?_ ?_
    ·
      exact sim_sub [0] rfl (s_X11_test_31 M2)
    ·
      refine sim_iload_n 3 d_X11_test_22 rfl rfl ?_
      refine sim_if_lt d_X11_test_23 ?_ ?_
      ·
        exact sim_sub [0] rfl (s_X11_test_31 M2)
      ·
        refine sim_iload_n 3 d_X11_test_26 rfl rfl ?_
        refine sim_iconst (4 : Int32) d_X11_test_27 rfl ?_
        refine sim_icmp_lt d_X11_test_28 ?_ ?_
        ·
          refine sim_iload 6 d_X11_test_37 rfl ?_
          refine sim_if_lt d_X11_test_39 ?_ ?_
          ·
            exact sim_sub [0] rfl (s_X11_test_49 M2)
          ·
            refine sim_iload 6 d_X11_test_42 rfl ?_
            refine sim_bipush (7 : Int32) d_X11_test_44 rfl ?_
            refine sim_icmp_le d_X11_test_46 ?_ ?_
            ·
              refine sim_aload_n 0 d_X11_test_56 rfl rfl ?_
              refine sim_geta d_X11_test_57 fl_X11_25 ob_C_0 rfl ?_
              refine sim_geta d_X11_test_60 fl_X11_158 ob_C_3 rfl ?_
              refine sim_iload_n 2 d_X11_test_63 rfl rfl ?_
              refine sim_zald d_X11_test_64 ar_C_34 ?_
              refine sim_if_ne d_X11_test_65 ?_ ?_
              ·
                refine sim_aload_n 0 d_X11_test_75 rfl rfl ?_
                refine sim_geta d_X11_test_76 fl_X11_20 ob_C_0 rfl ?_
                refine sim_geta d_X11_test_79 fl_X11_138 ob_C_2 rfl ?_
                refine sim_iload_n 1 d_X11_test_82 rfl rfl ?_
                refine sim_zald d_X11_test_83 ar_C_31 ?_
                refine sim_if_eq d_X11_test_84 ?_ ?_
                ·
                  exact sim_sub [0] rfl (s_X11_test_97 M2)
                ·
                  refine sim_aload_n 0 d_X11_test_87 rfl rfl ?_
                  refine sim_iload_n 1 d_X11_test_88 rfl rfl ?_
                  refine sim_iload 4 d_X11_test_89 rfl ?_
                  refine sim_callVi Y_X11_mayBeTestedOn 2 [.int (a1), .int (a4)] [] d_X11_test_91 lk_X11_255 cv_X11_mayBeTestedOn ob_C_0 rfl (by omega) (Nat.le_of_ble_eq_true rfl) (ct_X11_mayBeTestedOn a1 a4 M2) (fun r3 M3 => ?_)
                  refine sim_if_ne d_X11_test_94 ?_ ?_
                  ·
                    refine sim_iload 5 d_X11_test_104 rfl ?_
                    refine sim_if_ge d_X11_test_106 ?_ ?_
                    ·
                      refine sim_iload 5 d_X11_test_116 rfl ?_
                      refine sim_bipush (24 : Int32) d_X11_test_118 rfl ?_
                      refine sim_icmp_ge d_X11_test_120 ?_ ?_
                      ·
                        exact sim_sub [0] rfl (s_X11_test_135 M3)
                      ·
                        refine sim_aload_n 0 d_X11_test_123 rfl rfl ?_
                        refine sim_geta d_X11_test_124 fl_X11_30 ob_C_0 rfl ?_
                        refine sim_geti d_X11_test_127 fl_X11_258 ob_C_4 rfl ?_
                        refine sim_bipush (100 : Int32) d_X11_test_130 rfl ?_
                        refine sim_icmp_lt d_X11_test_132 ?_ ?_
                        ·
                          refine sim_aload_n 0 d_X11_test_142 rfl rfl ?_
                          refine sim_geta d_X11_test_143 fl_X11_30 ob_C_0 rfl ?_
                          refine sim_iload_n 1 d_X11_test_146 rfl rfl ?_
                          refine sim_iload_n 2 d_X11_test_147 rfl rfl ?_
                          refine sim_iload 4 d_X11_test_148 rfl ?_
                          refine sim_iload 5 d_X11_test_150 rfl ?_
                          refine sim_iload 6 d_X11_test_152 rfl ?_
                          refine sim_aload_n 0 d_X11_test_154 rfl rfl ?_
                          refine sim_geti d_X11_test_155 fl_X11_102 ob_C_0 rfl ?_
                          refine sim_callVi Y_X9_add 0 [.int (a1), .int (a2), .int (a4), .int (a5), .int (a6), .int (mI M3 0 16)] [] d_X11_test_158 lk_X11_261 cv_X9_add ob_C_4 rfl (by omega) (Nat.le_of_ble_eq_true rfl) (ct_X9_add a1 a2 a4 a5 a6 (mI M3 0 16) M3) (fun r4 M4 => ?_)
                          exact sim_iret d_X11_test_161 rfl
                        ·
                          exact sim_sub [0] rfl (s_X11_test_135 M3)
                    ·
                      refine sim_aload_n 0 d_X11_test_109 rfl rfl ?_
                      refine sim_bipush (-4 : Int32) d_X11_test_110 rfl ?_
                      refine sim_callVi Y_X11_refuse 0 [.int ((-4 : Int32))] [] d_X11_test_112 lk_X11_108 cv_X11_refuse ob_C_0 rfl (by omega) (Nat.le_of_ble_eq_true rfl) (ct_X11_refuse (-4 : Int32) M3) (fun r5 M5 => ?_)
                      exact sim_iret d_X11_test_115 rfl
                  ·
                    exact sim_sub [0] rfl (s_X11_test_97 M3)
              ·
                refine sim_aload_n 0 d_X11_test_68 rfl rfl ?_
                refine sim_bipush (-5 : Int32) d_X11_test_69 rfl ?_
                refine sim_callVi Y_X11_refuse 0 [.int ((-5 : Int32))] [] d_X11_test_71 lk_X11_108 cv_X11_refuse ob_C_0 rfl (by omega) (Nat.le_of_ble_eq_true rfl) (ct_X11_refuse (-5 : Int32) M2) (fun r6 M6 => ?_)
                exact sim_iret d_X11_test_74 rfl
            ·
              exact sim_sub [0] rfl (s_X11_test_49 M2)
        ·
          exact sim_sub [0] rfl (s_X11_test_31 M2)
theorem ct_X11_test (a1 : Int32) (a2 : Int32) (a3 : Int32) (a4 : Int32) (a5 : Int32) (a6 : Int32) (M : mm_M) : Ct sysC Y_X11_test 3 [.ref 0, .int (a1), .int (a2), .int (a3), .int (a4), .int (a5), .int (a6)] M mm_fI (f_X11_test a1 a2 a3 a4 a5 a6 M) :=
  ct_of_sim (by decide) rfl (Nat.le_of_ble_eq_true rfl) (s_X11_test a1 a2 a3 a4 a5 a6 M)
def f_X9_has (a1 : Int32) (M : mm_M) : Option (Int32 × mm_M) :=
  if a1 < 0 then
    some ((0 : Int32), M)
  else
    if (mI M 4 7) ≤ a1 then
      some ((0 : Int32), M)
    else
      some ((1 : Int32), M)
theorem s_X9_has (a1 : Int32) (M : mm_M) : Sim sysC Y_X9_has 0 0 [(0, .ref 4), (1, .int (a1))] [] M mm_fI (f_X9_has a1 M) := by
  unfold f_X9_has
  refine sim_iload_n 1 d_X9_has_0 rfl rfl ?_
  refine sim_if_lt d_X9_has_1 ?_ ?_
  ·
    refine sim_iconst (0 : Int32) d_X9_has_16 rfl ?_
    exact sim_zret d_X9_has_17 rfl rfl
  ·
    refine sim_iload_n 1 d_X9_has_4 rfl rfl ?_
    refine sim_aload_n 0 d_X9_has_5 rfl rfl ?_
    refine sim_geti d_X9_has_6 fl_X9_33 ob_C_4 rfl ?_
    refine sim_icmp_ge d_X9_has_9 ?_ ?_
    ·
      refine sim_iconst (0 : Int32) d_X9_has_16 rfl ?_
      exact sim_zret d_X9_has_17 rfl rfl
    ·
      refine sim_iconst (1 : Int32) d_X9_has_12 rfl ?_
      refine sim_goto d_X9_has_13 ?_
      exact sim_zret d_X9_has_17 rfl rfl
theorem ct_X9_has (a1 : Int32) (M : mm_M) : Ct sysC Y_X9_has 0 [.ref 4, .int (a1)] M mm_fI (f_X9_has a1 M) :=
  ct_of_sim (by decide) rfl (Nat.le_of_ble_eq_true rfl) (s_X9_has a1 M)
def f_X9_isVoided (a1 : Int32) (M : mm_M) : Option (Int32 × mm_M) :=
  mm_bi (f_X9_has a1 M) (fun r1 M1 =>
  if r1 = 0 then
    some ((0 : Int32), M1)
  else
    mm_ck a1 100 (
    if (mI M1 45 a1.toNatClampNeg) = (-1 : Int32) then
      some ((0 : Int32), M1)
    else
      some ((1 : Int32), M1)))
theorem s_X9_isVoided (a1 : Int32) (M : mm_M) : Sim sysC Y_X9_isVoided 1 0 [(0, .ref 4), (1, .int (a1))] [] M mm_fI (f_X9_isVoided a1 M) := by
  unfold f_X9_isVoided
  refine sim_aload_n 0 d_X9_isVoided_0 rfl rfl ?_
  refine sim_iload_n 1 d_X9_isVoided_1 rfl rfl ?_
  refine sim_callVi Y_X9_has 0 [.int (a1)] [] d_X9_isVoided_2 lk_X9_37 cv_X9_has ob_C_4 rfl (by omega) (Nat.le_of_ble_eq_true rfl) (ct_X9_has a1 M) (fun r1 M1 => ?_)
  refine sim_if_eq d_X9_isVoided_5 ?_ ?_
  ·
    refine sim_iconst (0 : Int32) d_X9_isVoided_22 rfl ?_
    exact sim_zret d_X9_isVoided_23 rfl rfl
  ·
    refine sim_aload_n 0 d_X9_isVoided_8 rfl rfl ?_
    refine sim_geta d_X9_isVoided_9 fl_X9_30 ob_C_4 rfl ?_
    refine sim_iload_n 1 d_X9_isVoided_12 rfl rfl ?_
    refine sim_iald d_X9_isVoided_13 ar_C_45 ?_
    refine sim_iconst (-1 : Int32) d_X9_isVoided_14 rfl ?_
    refine sim_icmp_eq d_X9_isVoided_15 ?_ ?_
    ·
      refine sim_iconst (0 : Int32) d_X9_isVoided_22 rfl ?_
      exact sim_zret d_X9_isVoided_23 rfl rfl
    ·
      refine sim_iconst (1 : Int32) d_X9_isVoided_18 rfl ?_
      refine sim_goto d_X9_isVoided_19 ?_
      exact sim_zret d_X9_isVoided_23 rfl rfl
theorem ct_X9_isVoided (a1 : Int32) (M : mm_M) : Ct sysC Y_X9_isVoided 1 [.ref 4, .int (a1)] M mm_fI (f_X9_isVoided a1 M) :=
  ct_of_sim (by decide) rfl (Nat.le_of_ble_eq_true rfl) (s_X9_isVoided a1 M)
def f_X11_appeal (a1 : Int32) (M : mm_M) : Option (Int32 × mm_M) :=
  mm_bi (f_X9_has a1 M) (fun r1 M1 =>
  if r1 = 0 then
    mm_bi (f_X11_refuse (-1 : Int32) M1) (fun r4 M5 =>
    some (r4, M5))
  else
    mm_bi (f_X9_isVoided a1 M1) (fun r2 M2 =>
    if r2 = 0 then
      mm_ck a1 100 (
      mm_let (sI M2 45 a1.toNatClampNeg (mI M2 0 16)) (fun M3 =>
      some ((1 : Int32), M3)))
    else
      mm_bi (f_X11_refuse (-3 : Int32) M2) (fun r3 M4 =>
      some (r3, M4))))
theorem s_X11_appeal (a1 : Int32) (M : mm_M) : Sim sysC Y_X11_appeal 2 0 [(0, .ref 0), (1, .int (a1))] [] M mm_fI (f_X11_appeal a1 M) := by
  unfold f_X11_appeal
  refine sim_aload_n 0 d_X11_appeal_0 rfl rfl ?_
  refine sim_geta d_X11_appeal_1 fl_X11_30 ob_C_0 rfl ?_
  refine sim_iload_n 1 d_X11_appeal_4 rfl rfl ?_
  refine sim_callVi Y_X9_has 0 [.int (a1)] [] d_X11_appeal_5 lk_X11_264 cv_X9_has ob_C_4 rfl (by omega) (Nat.le_of_ble_eq_true rfl) (ct_X9_has a1 M) (fun r1 M1 => ?_)
  refine sim_if_ne d_X11_appeal_8 ?_ ?_
  ·
    refine sim_aload_n 0 d_X11_appeal_17 rfl rfl ?_
    refine sim_geta d_X11_appeal_18 fl_X11_30 ob_C_0 rfl ?_
    refine sim_iload_n 1 d_X11_appeal_21 rfl rfl ?_
    refine sim_callVi Y_X9_isVoided 1 [.int (a1)] [] d_X11_appeal_22 lk_X11_265 cv_X9_isVoided ob_C_4 rfl (by omega) (Nat.le_of_ble_eq_true rfl) (ct_X9_isVoided a1 M1) (fun r2 M2 => ?_)
    refine sim_if_eq d_X11_appeal_25 ?_ ?_
    ·
      refine sim_aload_n 0 d_X11_appeal_35 rfl rfl ?_
      refine sim_geta d_X11_appeal_36 fl_X11_30 ob_C_0 rfl ?_
      refine sim_geta d_X11_appeal_39 fl_X11_268 ob_C_4 rfl ?_
      refine sim_iload_n 1 d_X11_appeal_42 rfl rfl ?_
      refine sim_aload_n 0 d_X11_appeal_43 rfl rfl ?_
      refine sim_geti d_X11_appeal_44 fl_X11_102 ob_C_0 rfl ?_
      refine sim_iast d_X11_appeal_47 ar_C_45 ?_
      refine sim_nmM (fun M3 => ?_)
      refine sim_iconst (1 : Int32) d_X11_appeal_48 rfl ?_
      exact sim_iret d_X11_appeal_49 rfl
    ·
      refine sim_aload_n 0 d_X11_appeal_28 rfl rfl ?_
      refine sim_bipush (-3 : Int32) d_X11_appeal_29 rfl ?_
      refine sim_callVi Y_X11_refuse 0 [.int ((-3 : Int32))] [] d_X11_appeal_31 lk_X11_108 cv_X11_refuse ob_C_0 rfl (by omega) (Nat.le_of_ble_eq_true rfl) (ct_X11_refuse (-3 : Int32) M2) (fun r3 M4 => ?_)
      exact sim_iret d_X11_appeal_34 rfl
  ·
    refine sim_aload_n 0 d_X11_appeal_11 rfl rfl ?_
    refine sim_iconst (-1 : Int32) d_X11_appeal_12 rfl ?_
    refine sim_callVi Y_X11_refuse 0 [.int ((-1 : Int32))] [] d_X11_appeal_13 lk_X11_108 cv_X11_refuse ob_C_0 rfl (by omega) (Nat.le_of_ble_eq_true rfl) (ct_X11_refuse (-1 : Int32) M1) (fun r4 M5 => ?_)
    exact sim_iret d_X11_appeal_16 rfl
theorem ct_X11_appeal (a1 : Int32) (M : mm_M) : Ct sysC Y_X11_appeal 2 [.ref 0, .int (a1)] M mm_fI (f_X11_appeal a1 M) :=
  ct_of_sim (by decide) rfl (Nat.le_of_ble_eq_true rfl) (s_X11_appeal a1 M)
def f_X9_countsAsOf (a1 : Int32) (a2 : Int32) (M : mm_M) : Option (Int32 × mm_M) :=
  mm_bi (f_X9_has a1 M) (fun r1 M1 =>
  if r1 = 0 then
    some ((0 : Int32), M1)
  else
    mm_ck a1 100 (
    if (mI M1 44 a1.toNatClampNeg) ≤ a2 then
      mm_ck a1 100 (
      if (mI M1 45 a1.toNatClampNeg) = (-1 : Int32) then
        some ((1 : Int32), M1)
      else
        mm_ck a1 100 (
        if (mI M1 45 a1.toNatClampNeg) ≤ a2 then
          some ((0 : Int32), M1)
        else
          some ((1 : Int32), M1)))
    else
      some ((0 : Int32), M1)))
theorem s_X9_countsAsOf (a1 : Int32) (a2 : Int32) (M : mm_M) : Sim sysC Y_X9_countsAsOf 1 0 [(0, .ref 4), (1, .int (a1)), (2, .int (a2))] [] M mm_fI (f_X9_countsAsOf a1 a2 M) := by
  unfold f_X9_countsAsOf
  refine sim_aload_n 0 d_X9_countsAsOf_0 rfl rfl ?_
  refine sim_iload_n 1 d_X9_countsAsOf_1 rfl rfl ?_
  refine sim_callVi Y_X9_has 0 [.int (a1)] [] d_X9_countsAsOf_2 lk_X9_37 cv_X9_has ob_C_4 rfl (by omega) (Nat.le_of_ble_eq_true rfl) (ct_X9_has a1 M) (fun r1 M1 => ?_)
  refine sim_if_eq d_X9_countsAsOf_5 ?_ ?_
  ·
    refine sim_iconst (0 : Int32) d_X9_countsAsOf_18 rfl ?_
    exact sim_zret d_X9_countsAsOf_19 rfl rfl
  ·
    refine sim_aload_n 0 d_X9_countsAsOf_8 rfl rfl ?_
    refine sim_geta d_X9_countsAsOf_9 fl_X9_27 ob_C_4 rfl ?_
    refine sim_iload_n 1 d_X9_countsAsOf_12 rfl rfl ?_
    refine sim_iald d_X9_countsAsOf_13 ar_C_44 ?_
    refine sim_iload_n 2 d_X9_countsAsOf_14 rfl rfl ?_
    refine sim_icmp_le d_X9_countsAsOf_15 ?_ ?_
    ·
      refine sim_aload_n 0 d_X9_countsAsOf_20 rfl rfl ?_
      refine sim_geta d_X9_countsAsOf_21 fl_X9_30 ob_C_4 rfl ?_
      refine sim_iload_n 1 d_X9_countsAsOf_24 rfl rfl ?_
      refine sim_iald d_X9_countsAsOf_25 ar_C_45 ?_
      refine sim_iconst (-1 : Int32) d_X9_countsAsOf_26 rfl ?_
      refine sim_icmp_eq d_X9_countsAsOf_27 ?_ ?_
      ·
        refine sim_iconst (1 : Int32) d_X9_countsAsOf_40 rfl ?_
        refine sim_goto d_X9_countsAsOf_41 ?_
        exact sim_zret d_X9_countsAsOf_45 rfl rfl
      ·
        refine sim_aload_n 0 d_X9_countsAsOf_30 rfl rfl ?_
        refine sim_geta d_X9_countsAsOf_31 fl_X9_30 ob_C_4 rfl ?_
        refine sim_iload_n 1 d_X9_countsAsOf_34 rfl rfl ?_
        refine sim_iald d_X9_countsAsOf_35 ar_C_45 ?_
        refine sim_iload_n 2 d_X9_countsAsOf_36 rfl rfl ?_
        refine sim_icmp_le d_X9_countsAsOf_37 ?_ ?_
        ·
          refine sim_iconst (0 : Int32) d_X9_countsAsOf_44 rfl ?_
          exact sim_zret d_X9_countsAsOf_45 rfl rfl
        ·
          refine sim_iconst (1 : Int32) d_X9_countsAsOf_40 rfl ?_
          refine sim_goto d_X9_countsAsOf_41 ?_
          exact sim_zret d_X9_countsAsOf_45 rfl rfl
    ·
      refine sim_iconst (0 : Int32) d_X9_countsAsOf_18 rfl ?_
      exact sim_zret d_X9_countsAsOf_19 rfl rfl
theorem ct_X9_countsAsOf (a1 : Int32) (a2 : Int32) (M : mm_M) : Ct sysC Y_X9_countsAsOf 1 [.ref 4, .int (a1), .int (a2)] M mm_fI (f_X9_countsAsOf a1 a2 M) :=
  ct_of_sim (by decide) rfl (Nat.le_of_ble_eq_true rfl) (s_X9_countsAsOf a1 a2 M)
def f_X0_isKnown (a1 : Int32) (a2 : Int32) (M : mm_M) : Option (Int32 × mm_M) :=
  mm_bi (f_X0_has a1 M) (fun r1 M1 =>
  if r1 = 0 then
    some ((0 : Int32), M1)
  else
    if a2 < 0 then
      some ((0 : Int32), M1)
    else
      if (40 : Int32) ≤ a2 then
        some ((0 : Int32), M1)
      else
        mm_ck ((a1 * (40 : Int32)) + a2) 320 (
        if (mI M1 38 ((a1 * (40 : Int32)) + a2).toNatClampNeg) = 0 then
          some ((0 : Int32), M1)
        else
          some ((1 : Int32), M1)))
theorem s_X0_isKnown (a1 : Int32) (a2 : Int32) (M : mm_M) : Sim sysC Y_X0_isKnown 1 0 [(0, .ref 3), (1, .int (a1)), (2, .int (a2))] [] M mm_fI (f_X0_isKnown a1 a2 M) := by
  unfold f_X0_isKnown
  refine sim_aload_n 0 d_X0_isKnown_0 rfl rfl ?_
  refine sim_iload_n 1 d_X0_isKnown_1 rfl rfl ?_
  refine sim_callVi Y_X0_has 0 [.int (a1)] [] d_X0_isKnown_2 lk_X0_28 cv_X0_has ob_C_3 rfl (by omega) (Nat.le_of_ble_eq_true rfl) (ct_X0_has a1 M) (fun r1 M1 => ?_)
  refine sim_if_eq d_X0_isKnown_5 ?_ ?_
  ·
    refine sim_iconst (0 : Int32) d_X0_isKnown_36 rfl ?_
    exact sim_zret d_X0_isKnown_37 rfl rfl
  ·
    refine sim_iload_n 2 d_X0_isKnown_8 rfl rfl ?_
    refine sim_if_lt d_X0_isKnown_9 ?_ ?_
    ·
      refine sim_iconst (0 : Int32) d_X0_isKnown_36 rfl ?_
      exact sim_zret d_X0_isKnown_37 rfl rfl
    ·
      refine sim_iload_n 2 d_X0_isKnown_12 rfl rfl ?_
      refine sim_bipush (40 : Int32) d_X0_isKnown_13 rfl ?_
      refine sim_icmp_ge d_X0_isKnown_15 ?_ ?_
      ·
        refine sim_iconst (0 : Int32) d_X0_isKnown_36 rfl ?_
        exact sim_zret d_X0_isKnown_37 rfl rfl
      ·
        refine sim_aload_n 0 d_X0_isKnown_18 rfl rfl ?_
        refine sim_geta d_X0_isKnown_19 fl_X0_25 ob_C_3 rfl ?_
        refine sim_iload_n 1 d_X0_isKnown_22 rfl rfl ?_
        refine sim_bipush (40 : Int32) d_X0_isKnown_23 rfl ?_
        refine sim_imul d_X0_isKnown_25 ?_
        refine sim_iload_n 2 d_X0_isKnown_26 rfl rfl ?_
        refine sim_iadd d_X0_isKnown_27 ?_
        refine sim_zald d_X0_isKnown_28 ar_C_38 ?_
        refine sim_if_eq d_X0_isKnown_29 ?_ ?_
        ·
          refine sim_iconst (0 : Int32) d_X0_isKnown_36 rfl ?_
          exact sim_zret d_X0_isKnown_37 rfl rfl
        ·
          refine sim_iconst (1 : Int32) d_X0_isKnown_32 rfl ?_
          refine sim_goto d_X0_isKnown_33 ?_
          exact sim_zret d_X0_isKnown_37 rfl rfl
theorem ct_X0_isKnown (a1 : Int32) (a2 : Int32) (M : mm_M) : Ct sysC Y_X0_isKnown 1 [.ref 3, .int (a1), .int (a2)] M mm_fI (f_X0_isKnown a1 a2 M) :=
  ct_of_sim (by decide) rfl (Nat.le_of_ble_eq_true rfl) (s_X0_isKnown a1 a2 M)
def f_X10_ownerOf (a1 : Int32) (M : mm_M) : Option (Int32 × mm_M) :=
  mm_bi (f_X9_has a1 M) (fun r1 M1 =>
  if r1 = 0 then
    some ((-1 : Int32), M1)
  else
    mm_ck a1 100 (
    mm_ck a1 100 (
    mm_bi (f_X6_ownerOn (mI M1 39 a1.toNatClampNeg) (mI M1 41 a1.toNatClampNeg) M1) (fun r2 M2 =>
    some (r2, M2)))))
theorem s_X10_ownerOf (a1 : Int32) (M : mm_M) : Sim sysC Y_X10_ownerOf 2 0 [(0, .ref 1), (1, .int (a1))] [] M mm_fI (f_X10_ownerOf a1 M) := by
  unfold f_X10_ownerOf
  refine sim_aload_n 0 d_X10_ownerOf_0 rfl rfl ?_
  refine sim_geta d_X10_ownerOf_1 fl_X10_28 ob_C_1 rfl ?_
  refine sim_iload_n 1 d_X10_ownerOf_4 rfl rfl ?_
  refine sim_callVi Y_X9_has 0 [.int (a1)] [] d_X10_ownerOf_5 lk_X10_132 cv_X9_has ob_C_4 rfl (by omega) (Nat.le_of_ble_eq_true rfl) (ct_X9_has a1 M) (fun r1 M1 => ?_)
  refine sim_if_eq d_X10_ownerOf_8 ?_ ?_
  ·
    refine sim_iconst (-1 : Int32) d_X10_ownerOf_39 rfl ?_
    exact sim_iret d_X10_ownerOf_40 rfl
  ·
    refine sim_aload_n 0 d_X10_ownerOf_11 rfl rfl ?_
    refine sim_geta d_X10_ownerOf_12 fl_X10_12 ob_C_1 rfl ?_
    refine sim_aload_n 0 d_X10_ownerOf_15 rfl rfl ?_
    refine sim_geta d_X10_ownerOf_16 fl_X10_28 ob_C_1 rfl ?_
    refine sim_geta d_X10_ownerOf_19 fl_X10_118 ob_C_4 rfl ?_
    refine sim_iload_n 1 d_X10_ownerOf_22 rfl rfl ?_
    refine sim_iald d_X10_ownerOf_23 ar_C_39 ?_
    refine sim_aload_n 0 d_X10_ownerOf_24 rfl rfl ?_
    refine sim_geta d_X10_ownerOf_25 fl_X10_28 ob_C_1 rfl ?_
    refine sim_geta d_X10_ownerOf_28 fl_X10_102 ob_C_4 rfl ?_
    refine sim_iload_n 1 d_X10_ownerOf_31 rfl rfl ?_
    refine sim_iald d_X10_ownerOf_32 ar_C_41 ?_
    refine sim_callVi Y_X6_ownerOn 1 [.int (mI M1 39 a1.toNatClampNeg), .int (mI M1 41 a1.toNatClampNeg)] [] d_X10_ownerOf_33 lk_X10_135 cv_X6_ownerOn ob_C_2 rfl (by omega) (Nat.le_of_ble_eq_true rfl) (ct_X6_ownerOn (mI M1 39 a1.toNatClampNeg) (mI M1 41 a1.toNatClampNeg) M1) (fun r2 M2 => ?_)
    refine sim_goto d_X10_ownerOf_36 ?_
    exact sim_iret d_X10_ownerOf_40 rfl
theorem ct_X10_ownerOf (a1 : Int32) (M : mm_M) : Ct sysC Y_X10_ownerOf 2 [.ref 1, .int (a1)] M mm_fI (f_X10_ownerOf a1 M) :=
  ct_of_sim (by decide) rfl (Nat.le_of_ble_eq_true rfl) (s_X10_ownerOf a1 M)
def f_X10_visitOf (a1 : Int32) (M : mm_M) : Option (Int32 × mm_M) :=
  mm_bi (f_X9_has a1 M) (fun r1 M1 =>
  if r1 = 0 then
    some ((-1 : Int32), M1)
  else
    mm_ck a1 100 (
    mm_let (mI M1 40 a1.toNatClampNeg) (fun v1 =>
    mm_ck a1 100 (
    mm_let (mI M1 39 a1.toNatClampNeg) (fun v2 =>
    mm_bi (f_X0_has v1 M1) (fun r2 M2 =>
    if r2 = 0 then
      some ((-1 : Int32), M2)
    else
      mm_bi (f_X6_has v2 M2) (fun r3 M3 =>
      if r3 = 0 then
        some ((-1 : Int32), M3)
      else
        some ((v1 * (40 : Int32)) + v2, M3))))))))
theorem s_X10_visitOf (a1 : Int32) (M : mm_M) : Sim sysC Y_X10_visitOf 1 0 [(0, .ref 1), (1, .int (a1))] [] M mm_fI (f_X10_visitOf a1 M) := by
  unfold f_X10_visitOf
  refine sim_aload_n 0 d_X10_visitOf_0 rfl rfl ?_
  refine sim_geta d_X10_visitOf_1 fl_X10_28 ob_C_1 rfl ?_
  refine sim_iload_n 1 d_X10_visitOf_4 rfl rfl ?_
  refine sim_callVi Y_X9_has 0 [.int (a1)] [] d_X10_visitOf_5 lk_X10_132 cv_X9_has ob_C_4 rfl (by omega) (Nat.le_of_ble_eq_true rfl) (ct_X9_has a1 M) (fun r1 M1 => ?_)
  refine sim_if_ne d_X10_visitOf_8 ?_ ?_
  ·
    refine sim_aload_n 0 d_X10_visitOf_13 rfl rfl ?_
    refine sim_geta d_X10_visitOf_14 fl_X10_28 ob_C_1 rfl ?_
    refine sim_geta d_X10_visitOf_17 fl_X10_99 ob_C_4 rfl ?_
    refine sim_iload_n 1 d_X10_visitOf_20 rfl rfl ?_
    refine sim_iald d_X10_visitOf_21 ar_C_40 ?_
    refine sim_nmi (fun v1 => ?_)
    refine sim_istore_n (L' := [(0, .ref 1), (1, .int (a1)), (2, .int (v1))]) d_X10_visitOf_22 rfl (Nat.le_of_ble_eq_true rfl) rfl ?_
    refine sim_aload_n 0 d_X10_visitOf_23 rfl rfl ?_
    refine sim_geta d_X10_visitOf_24 fl_X10_28 ob_C_1 rfl ?_
    refine sim_geta d_X10_visitOf_27 fl_X10_118 ob_C_4 rfl ?_
    refine sim_iload_n 1 d_X10_visitOf_30 rfl rfl ?_
    refine sim_iald d_X10_visitOf_31 ar_C_39 ?_
    refine sim_nmi (fun v2 => ?_)
    refine sim_istore_n (L' := [(0, .ref 1), (1, .int (a1)), (2, .int (v1)), (3, .int (v2))]) d_X10_visitOf_32 rfl (Nat.le_of_ble_eq_true rfl) rfl ?_
    refine sim_aload_n 0 d_X10_visitOf_33 rfl rfl ?_
    refine sim_geta d_X10_visitOf_34 fl_X10_21 ob_C_1 rfl ?_
    refine sim_iload_n 2 d_X10_visitOf_37 rfl rfl ?_
    refine sim_callVi Y_X0_has 0 [.int (v1)] [] d_X10_visitOf_38 lk_X10_138 cv_X0_has ob_C_3 rfl (by omega) (Nat.le_of_ble_eq_true rfl) (ct_X0_has v1 M1) (fun r2 M2 => ?_)
    refine sim_if_eq d_X10_visitOf_41 ?_ ?_
    ·
      refine sim_iconst (-1 : Int32) d_X10_visitOf_64 rfl ?_
      exact sim_iret d_X10_visitOf_65 rfl
    ·
      refine sim_aload_n 0 d_X10_visitOf_44 rfl rfl ?_
      refine sim_geta d_X10_visitOf_45 fl_X10_12 ob_C_1 rfl ?_
      refine sim_iload_n 3 d_X10_visitOf_48 rfl rfl ?_
      refine sim_callVi Y_X6_has 0 [.int (v2)] [] d_X10_visitOf_49 lk_X10_139 cv_X6_has ob_C_2 rfl (by omega) (Nat.le_of_ble_eq_true rfl) (ct_X6_has v2 M2) (fun r3 M3 => ?_)
      refine sim_if_eq d_X10_visitOf_52 ?_ ?_
      ·
        refine sim_iconst (-1 : Int32) d_X10_visitOf_64 rfl ?_
        exact sim_iret d_X10_visitOf_65 rfl
      ·
        refine sim_iload_n 2 d_X10_visitOf_55 rfl rfl ?_
        refine sim_bipush (40 : Int32) d_X10_visitOf_56 rfl ?_
        refine sim_imul d_X10_visitOf_58 ?_
        refine sim_iload_n 3 d_X10_visitOf_59 rfl rfl ?_
        refine sim_iadd d_X10_visitOf_60 ?_
        refine sim_goto d_X10_visitOf_61 ?_
        exact sim_iret d_X10_visitOf_65 rfl
  ·
    refine sim_iconst (-1 : Int32) d_X10_visitOf_11 rfl ?_
    exact sim_iret d_X10_visitOf_12 rfl
theorem ct_X10_visitOf (a1 : Int32) (M : mm_M) : Ct sysC Y_X10_visitOf 1 [.ref 1, .int (a1)] M mm_fI (f_X10_visitOf a1 M) :=
  ct_of_sim (by decide) rfl (Nat.le_of_ble_eq_true rfl) (s_X10_visitOf a1 M)
def f_X10_gather_296 (x2 : Int32) (t1 : Int32) (t2 : Int32) (M : mm_M) : Option (mm_M) :=
  mm_ck t1 26 (
  mm_let (sI M 19 t1.toNatClampNeg t2) (fun M1 =>
  mm_ck x2 240 (
  mm_ck (24 : Int32) 26 (
  mm_let (sI M1 19 (24 : Int32).toNatClampNeg (mI M1 24 x2.toNatClampNeg)) (fun M2 =>
  some M2)))))
theorem s_X10_gather_296 (x2 : Int32) (t1 : Int32) (t2 : Int32) (M : mm_M) : Sim sysC Y_X10_gather 3 296 [(0, .ref 1), (2, .int (x2))] [.int (t2), .int (t1), .ref 19] M mm_fV (f_X10_gather_296 x2 t1 t2 M) := by
  unfold f_X10_gather_296
  refine sim_iast d_X10_gather_296 ar_C_19 ?_
  refine sim_nmM (fun M1 => ?_)
  refine sim_aload_n 0 d_X10_gather_297 rfl rfl ?_
  refine sim_geta d_X10_gather_298 fl_X10_47 ob_C_1 rfl ?_
  refine sim_bipush (24 : Int32) d_X10_gather_301 rfl ?_
  refine sim_aload_n 0 d_X10_gather_303 rfl rfl ?_
  refine sim_geta d_X10_gather_304 fl_X10_62 ob_C_1 rfl ?_
  refine sim_iload_n 1 d_X10_gather_307 rfl rfl ?_
  refine sim_iald d_X10_gather_308 ar_C_24 ?_
  refine sim_iast d_X10_gather_309 ar_C_19 ?_
  refine sim_nmM (fun M2 => ?_)
  exact sim_vret d_X10_gather_310 rfl
def f_X10_gather_251 (x2 : Int32) (x6 : Int32) (t1 : Int32) (t2 : Int32) (M : mm_M) : Option (mm_M) :=
  mm_ck t1 26 (
  mm_let (sI M 19 t1.toNatClampNeg t2) (fun M1 =>
  mm_ck x2 240 (
  mm_ck (14 : Int32) 26 (
  mm_let (sI M1 19 (14 : Int32).toNatClampNeg (mI M1 21 x2.toNatClampNeg)) (fun M2 =>
  mm_ck x2 240 (
  mm_ck (15 : Int32) 26 (
  mm_let (sI M2 19 (15 : Int32).toNatClampNeg (mI M2 22 x2.toNatClampNeg)) (fun M3 =>
  if (x6 &&& (4 : Int32)) = 0 then
    f_X10_gather_296 x2 (18 : Int32) (0 : Int32) M3
  else
    f_X10_gather_296 x2 (18 : Int32) (1 : Int32) M3))))))))
theorem s_X10_gather_251 (x2 : Int32) (x6 : Int32) (t1 : Int32) (t2 : Int32) (M : mm_M) : Sim sysC Y_X10_gather 3 251 [(0, .ref 1), (2, .int (x2)), (6, .int (x6))] [.int (t2), .int (t1), .ref 19] M mm_fV (f_X10_gather_251 x2 x6 t1 t2 M) := by
  unfold f_X10_gather_251
  refine sim_iast d_X10_gather_251 ar_C_19 ?_
  refine sim_nmM (fun M1 => ?_)
  refine sim_aload_n 0 d_X10_gather_252 rfl rfl ?_
  refine sim_geta d_X10_gather_253 fl_X10_47 ob_C_1 rfl ?_
  refine sim_bipush (14 : Int32) d_X10_gather_256 rfl ?_
  refine sim_aload_n 0 d_X10_gather_258 rfl rfl ?_
  refine sim_geta d_X10_gather_259 fl_X10_53 ob_C_1 rfl ?_
  refine sim_iload_n 1 d_X10_gather_262 rfl rfl ?_
  refine sim_iald d_X10_gather_263 ar_C_21 ?_
  refine sim_iast d_X10_gather_264 ar_C_19 ?_
  refine sim_nmM (fun M2 => ?_)
  refine sim_aload_n 0 d_X10_gather_265 rfl rfl ?_
  refine sim_geta d_X10_gather_266 fl_X10_47 ob_C_1 rfl ?_
  refine sim_bipush (15 : Int32) d_X10_gather_269 rfl ?_
  refine sim_aload_n 0 d_X10_gather_271 rfl rfl ?_
  refine sim_geta d_X10_gather_272 fl_X10_56 ob_C_1 rfl ?_
  refine sim_iload_n 1 d_X10_gather_275 rfl rfl ?_
  refine sim_iald d_X10_gather_276 ar_C_22 ?_
  refine sim_iast d_X10_gather_277 ar_C_19 ?_
  refine sim_nmM (fun M3 => ?_)
  refine sim_aload_n 0 d_X10_gather_278 rfl rfl ?_
  refine sim_geta d_X10_gather_279 fl_X10_47 ob_C_1 rfl ?_
  refine sim_bipush (18 : Int32) d_X10_gather_282 rfl ?_
  refine sim_iload 2 d_X10_gather_284 rfl ?_
  refine sim_iconst (4 : Int32) d_X10_gather_286 rfl ?_
  refine sim_iand d_X10_gather_287 ?_
  refine sim_if_eq d_X10_gather_288 ?_ ?_
  ·
    refine sim_iconst (0 : Int32) d_X10_gather_295 rfl ?_
    exact sim_sub [0, 1] rfl (s_X10_gather_296 x2 (18 : Int32) (0 : Int32) M3)
  ·
    refine sim_iconst (1 : Int32) d_X10_gather_291 rfl ?_
    refine sim_goto d_X10_gather_292 ?_
    exact sim_sub [0, 1] rfl (s_X10_gather_296 x2 (18 : Int32) (1 : Int32) M3)
def f_X10_gather_218 (x1 : Int32) (x2 : Int32) (x4 : Int32) (x6 : Int32) (t1 : Int32) (t2 : Int32) (M : mm_M) : Option (mm_M) :=
  mm_ck t1 26 (
  mm_let (sI M 19 t1.toNatClampNeg t2) (fun M1 =>
  mm_ck x1 100 (
  mm_bi (f_X0_isKnown x4 (mI M1 39 x1.toNatClampNeg) M1) (fun r1 M2 =>
  if r1 = 0 then
    f_X10_gather_251 x2 x6 (13 : Int32) (0 : Int32) M2
  else
    f_X10_gather_251 x2 x6 (13 : Int32) (1 : Int32) M2))))
theorem s_X10_gather_218 (x1 : Int32) (x2 : Int32) (x4 : Int32) (x6 : Int32) (t1 : Int32) (t2 : Int32) (M : mm_M) : Sim sysC Y_X10_gather 3 218 [(0, .ref 1), (1, .int (x1)), (2, .int (x2)), (4, .int (x4)), (6, .int (x6))] [.int (t2), .int (t1), .ref 19] M mm_fV (f_X10_gather_218 x1 x2 x4 x6 t1 t2 M) := by
  unfold f_X10_gather_218
  refine sim_iast d_X10_gather_218 ar_C_19 ?_
  refine sim_nmM (fun M1 => ?_)
  refine sim_aload_n 0 d_X10_gather_219 rfl rfl ?_
  refine sim_geta d_X10_gather_220 fl_X10_47 ob_C_1 rfl ?_
  refine sim_bipush (13 : Int32) d_X10_gather_223 rfl ?_
  refine sim_aload_n 0 d_X10_gather_225 rfl rfl ?_
  refine sim_geta d_X10_gather_226 fl_X10_21 ob_C_1 rfl ?_
  refine sim_iload 3 d_X10_gather_229 rfl ?_
  refine sim_aload_n 0 d_X10_gather_231 rfl rfl ?_
  refine sim_geta d_X10_gather_232 fl_X10_28 ob_C_1 rfl ?_
  refine sim_geta d_X10_gather_235 fl_X10_118 ob_C_4 rfl ?_
  refine sim_iload_n 1 d_X10_gather_238 rfl rfl ?_
  refine sim_iald d_X10_gather_239 ar_C_39 ?_
  refine sim_callVi Y_X0_isKnown 1 [.int (x4), .int (mI M1 39 x1.toNatClampNeg)] [.int ((13 : Int32)), .ref 19] d_X10_gather_240 lk_X10_121 cv_X0_isKnown ob_C_3 rfl (by omega) (Nat.le_of_ble_eq_true rfl) (ct_X0_isKnown x4 (mI M1 39 x1.toNatClampNeg) M1) (fun r1 M2 => ?_)
  refine sim_if_eq d_X10_gather_243 ?_ ?_
  ·
    refine sim_iconst (0 : Int32) d_X10_gather_250 rfl ?_
    exact sim_sub [0, 2, 4] rfl (s_X10_gather_251 x2 x6 (13 : Int32) (0 : Int32) M2)
  ·
    refine sim_iconst (1 : Int32) d_X10_gather_246 rfl ?_
    refine sim_goto d_X10_gather_247 ?_
    exact sim_sub [0, 2, 4] rfl (s_X10_gather_251 x2 x6 (13 : Int32) (1 : Int32) M2)
def f_X10_gather_155 (x1 : Int32) (x2 : Int32) (x3 : Int32) (x4 : Int32) (x5 : Int32) (x6 : Int32) (t1 : Int32) (t2 : Int32) (M : mm_M) : Option (mm_M) :=
  mm_ck t1 26 (
  mm_let (sI M 19 t1.toNatClampNeg t2) (fun M1 =>
  mm_ck x1 100 (
  mm_ck (7 : Int32) 26 (
  mm_let (sI M1 19 (7 : Int32).toNatClampNeg (mI M1 42 x1.toNatClampNeg)) (fun M2 =>
  mm_ck x3 320 (
  mm_ck (10 : Int32) 26 (
  mm_let (sI M2 19 (10 : Int32).toNatClampNeg (mI M2 20 x3.toNatClampNeg)) (fun M3 =>
  mm_ck x2 240 (
  if (mI M3 25 x2.toNatClampNeg) = (-1 : Int32) then
    f_X10_gather_218 x1 x2 x4 x6 (12 : Int32) (99 : Int32) M3
  else
    mm_ck x2 240 (
    f_X10_gather_218 x1 x2 x4 x6 (12 : Int32) ((x5 - (mI M3 25 x2.toNatClampNeg)) / (30 : Int32)) M3))))))))))
theorem s_X10_gather_155 (x1 : Int32) (x2 : Int32) (x3 : Int32) (x4 : Int32) (x5 : Int32) (x6 : Int32) (t1 : Int32) (t2 : Int32) (M : mm_M) : Sim sysC Y_X10_gather 3 155 [(0, .ref 1), (1, .int (x1)), (2, .int (x2)), (3, .int (x3)), (4, .int (x4)), (5, .int (x5)), (6, .int (x6))] [.int (t2), .int (t1), .ref 19] M mm_fV (f_X10_gather_155 x1 x2 x3 x4 x5 x6 t1 t2 M) := by
  unfold f_X10_gather_155
  refine sim_iast d_X10_gather_155 ar_C_19 ?_
  refine sim_nmM (fun M1 => ?_)
  refine sim_aload_n 0 d_X10_gather_156 rfl rfl ?_
  refine sim_geta d_X10_gather_157 fl_X10_47 ob_C_1 rfl ?_
  refine sim_bipush (7 : Int32) d_X10_gather_160 rfl ?_
  refine sim_aload_n 0 d_X10_gather_162 rfl rfl ?_
  refine sim_geta d_X10_gather_163 fl_X10_28 ob_C_1 rfl ?_
  refine sim_geta d_X10_gather_166 fl_X10_115 ob_C_4 rfl ?_
  refine sim_iload_n 1 d_X10_gather_169 rfl rfl ?_
  refine sim_iald d_X10_gather_170 ar_C_42 ?_
  refine sim_iast d_X10_gather_171 ar_C_19 ?_
  refine sim_nmM (fun M2 => ?_)
  refine sim_aload_n 0 d_X10_gather_172 rfl rfl ?_
  refine sim_geta d_X10_gather_173 fl_X10_47 ob_C_1 rfl ?_
  refine sim_bipush (10 : Int32) d_X10_gather_176 rfl ?_
  refine sim_aload_n 0 d_X10_gather_178 rfl rfl ?_
  refine sim_geta d_X10_gather_179 fl_X10_50 ob_C_1 rfl ?_
  refine sim_iload_n 3 d_X10_gather_182 rfl rfl ?_
  refine sim_iald d_X10_gather_183 ar_C_20 ?_
  refine sim_iast d_X10_gather_184 ar_C_19 ?_
  refine sim_nmM (fun M3 => ?_)
  refine sim_aload_n 0 d_X10_gather_185 rfl rfl ?_
  refine sim_geta d_X10_gather_186 fl_X10_47 ob_C_1 rfl ?_
  refine sim_bipush (12 : Int32) d_X10_gather_189 rfl ?_
  refine sim_aload_n 0 d_X10_gather_191 rfl rfl ?_
  refine sim_geta d_X10_gather_192 fl_X10_65 ob_C_1 rfl ?_
  refine sim_iload_n 2 d_X10_gather_195 rfl rfl ?_
  refine sim_iald d_X10_gather_196 ar_C_25 ?_
  refine sim_iconst (-1 : Int32) d_X10_gather_197 rfl ?_
  refine sim_icmp_ne d_X10_gather_198 ?_ ?_
  ·
    refine sim_iload 5 d_X10_gather_206 rfl ?_
    refine sim_aload_n 0 d_X10_gather_208 rfl rfl ?_
    refine sim_geta d_X10_gather_209 fl_X10_65 ob_C_1 rfl ?_
    refine sim_iload_n 2 d_X10_gather_212 rfl rfl ?_
    refine sim_iald d_X10_gather_213 ar_C_25 ?_
    refine sim_isub d_X10_gather_214 ?_
    refine sim_bipush (30 : Int32) d_X10_gather_215 rfl ?_
    refine sim_idivc d_X10_gather_217 (by decide) ?_
    exact sim_sub [0, 1, 2, 4, 6] rfl (s_X10_gather_218 x1 x2 x4 x6 (12 : Int32) ((x5 - (mI M3 25 x2.toNatClampNeg)) / (30 : Int32)) M3)
  ·
    refine sim_bipush (99 : Int32) d_X10_gather_201 rfl ?_
    refine sim_goto d_X10_gather_203 ?_
    exact sim_sub [0, 1, 2, 4, 6] rfl (s_X10_gather_218 x1 x2 x4 x6 (12 : Int32) (99 : Int32) M3)
def f_X10_gather_136 (x1 : Int32) (x2 : Int32) (x3 : Int32) (x4 : Int32) (x5 : Int32) (x6 : Int32) (t1 : Int32) (t2 : Int32) (M : mm_M) : Option (mm_M) :=
  mm_ck t1 26 (
  mm_let (sI M 19 t1.toNatClampNeg t2) (fun M1 =>
  if (x6 &&& (1 : Int32)) = 0 then
    f_X10_gather_155 x1 x2 x3 x4 x5 x6 (6 : Int32) (0 : Int32) M1
  else
    f_X10_gather_155 x1 x2 x3 x4 x5 x6 (6 : Int32) (1 : Int32) M1))
theorem s_X10_gather_136 (x1 : Int32) (x2 : Int32) (x3 : Int32) (x4 : Int32) (x5 : Int32) (x6 : Int32) (t1 : Int32) (t2 : Int32) (M : mm_M) : Sim sysC Y_X10_gather 3 136 [(0, .ref 1), (1, .int (x1)), (2, .int (x2)), (3, .int (x3)), (4, .int (x4)), (5, .int (x5)), (6, .int (x6))] [.int (t2), .int (t1), .ref 19] M mm_fV (f_X10_gather_136 x1 x2 x3 x4 x5 x6 t1 t2 M) := by
  unfold f_X10_gather_136
  refine sim_iast d_X10_gather_136 ar_C_19 ?_
  refine sim_nmM (fun M1 => ?_)
  refine sim_aload_n 0 d_X10_gather_137 rfl rfl ?_
  refine sim_geta d_X10_gather_138 fl_X10_47 ob_C_1 rfl ?_
  refine sim_bipush (6 : Int32) d_X10_gather_141 rfl ?_
  refine sim_iload 6 d_X10_gather_143 rfl ?_
  refine sim_iconst (1 : Int32) d_X10_gather_145 rfl ?_
  refine sim_iand d_X10_gather_146 ?_
  refine sim_if_eq d_X10_gather_147 ?_ ?_
  ·
    refine sim_iconst (0 : Int32) d_X10_gather_154 rfl ?_
    exact sim_sub [0, 1, 2, 3, 4, 5, 6] rfl (s_X10_gather_155 x1 x2 x3 x4 x5 x6 (6 : Int32) (0 : Int32) M1)
  ·
    refine sim_iconst (1 : Int32) d_X10_gather_150 rfl ?_
    refine sim_goto d_X10_gather_151 ?_
    exact sim_sub [0, 1, 2, 3, 4, 5, 6] rfl (s_X10_gather_155 x1 x2 x3 x4 x5 x6 (6 : Int32) (1 : Int32) M1)
def f_X10_gather_105 (x1 : Int32) (x2 : Int32) (x3 : Int32) (x4 : Int32) (x5 : Int32) (x6 : Int32) (t1 : Int32) (t2 : Int32) (M : mm_M) : Option (mm_M) :=
  mm_ck t1 26 (
  mm_let (sI M 19 t1.toNatClampNeg t2) (fun M1 =>
  mm_ck x2 240 (
  if (mI M1 23 x2.toNatClampNeg) = (-1 : Int32) then
    f_X10_gather_136 x1 x2 x3 x4 x5 x6 (3 : Int32) (999 : Int32) M1
  else
    mm_ck x2 240 (
    f_X10_gather_136 x1 x2 x3 x4 x5 x6 (3 : Int32) (x5 - (mI M1 23 x2.toNatClampNeg)) M1))))
theorem s_X10_gather_105 (x1 : Int32) (x2 : Int32) (x3 : Int32) (x4 : Int32) (x5 : Int32) (x6 : Int32) (t1 : Int32) (t2 : Int32) (M : mm_M) : Sim sysC Y_X10_gather 3 105 [(0, .ref 1), (1, .int (x1)), (2, .int (x2)), (3, .int (x3)), (4, .int (x4)), (5, .int (x5)), (6, .int (x6))] [.int (t2), .int (t1), .ref 19] M mm_fV (f_X10_gather_105 x1 x2 x3 x4 x5 x6 t1 t2 M) := by
  unfold f_X10_gather_105
  refine sim_iast d_X10_gather_105 ar_C_19 ?_
  refine sim_nmM (fun M1 => ?_)
  refine sim_aload_n 0 d_X10_gather_106 rfl rfl ?_
  refine sim_geta d_X10_gather_107 fl_X10_47 ob_C_1 rfl ?_
  refine sim_iconst (3 : Int32) d_X10_gather_110 rfl ?_
  refine sim_aload_n 0 d_X10_gather_111 rfl rfl ?_
  refine sim_geta d_X10_gather_112 fl_X10_59 ob_C_1 rfl ?_
  refine sim_iload_n 2 d_X10_gather_115 rfl rfl ?_
  refine sim_iald d_X10_gather_116 ar_C_23 ?_
  refine sim_iconst (-1 : Int32) d_X10_gather_117 rfl ?_
  refine sim_icmp_ne d_X10_gather_118 ?_ ?_
  ·
    refine sim_iload 5 d_X10_gather_127 rfl ?_
    refine sim_aload_n 0 d_X10_gather_129 rfl rfl ?_
    refine sim_geta d_X10_gather_130 fl_X10_59 ob_C_1 rfl ?_
    refine sim_iload_n 2 d_X10_gather_133 rfl rfl ?_
    refine sim_iald d_X10_gather_134 ar_C_23 ?_
    refine sim_isub d_X10_gather_135 ?_
    exact sim_sub [0, 1, 2, 3, 4, 5, 6] rfl (s_X10_gather_136 x1 x2 x3 x4 x5 x6 (3 : Int32) (x5 - (mI M1 23 x2.toNatClampNeg)) M1)
  ·
    refine sim_sipush (999 : Int32) d_X10_gather_121 rfl ?_
    refine sim_goto d_X10_gather_124 ?_
    exact sim_sub [0, 1, 2, 3, 4, 5, 6] rfl (s_X10_gather_136 x1 x2 x3 x4 x5 x6 (3 : Int32) (999 : Int32) M1)
def f_X10_gather (a1 : Int32) (M : mm_M) : Option (mm_M) :=
  mm_bi (f_X10_ownerOf a1 M) (fun r1 M1 =>
  mm_bi (f_X10_visitOf a1 M1) (fun r2 M2 =>
  if r1 < 0 then
    some M2
  else
    if 0 ≤ r2 then
      mm_ck a1 100 (
      mm_let (mI M2 40 a1.toNatClampNeg) (fun v1 =>
      mm_ck a1 100 (
      mm_let (mI M2 41 a1.toNatClampNeg) (fun v2 =>
      mm_ck a1 100 (
      mm_let (mI M2 43 a1.toNatClampNeg) (fun v3 =>
      mm_bi (f_X0_age v1 v2 M2) (fun r3 M3 =>
      mm_ck (0 : Int32) 26 (
      mm_let (sI M3 19 (0 : Int32).toNatClampNeg r3) (fun M4 =>
      mm_bi (f_X0_looks v1 v2 M4) (fun r4 M5 =>
      mm_ck (1 : Int32) 26 (
      mm_let (sI M5 19 (1 : Int32).toNatClampNeg r4) (fun M6 =>
      if (v3 &&& (2 : Int32)) = 0 then
        f_X10_gather_105 a1 r1 r2 v1 v2 v3 (2 : Int32) (0 : Int32) M6
      else
        f_X10_gather_105 a1 r1 r2 v1 v2 v3 (2 : Int32) (1 : Int32) M6))))))))))))
    else
      some M2))
theorem s_X10_gather (a1 : Int32) (M : mm_M) : Sim sysC Y_X10_gather 3 0 [(0, .ref 1), (1, .int (a1))] [] M mm_fV (f_X10_gather a1 M) := by
  unfold f_X10_gather
  refine sim_aload_n 0 d_X10_gather_0 rfl rfl ?_
  refine sim_iload_n 1 d_X10_gather_1 rfl rfl ?_
  refine sim_callVi Y_X10_ownerOf 2 [.int (a1)] [] d_X10_gather_2 lk_X10_92 cv_X10_ownerOf ob_C_1 rfl (by omega) (Nat.le_of_ble_eq_true rfl) (ct_X10_ownerOf a1 M) (fun r1 M1 => ?_)
  refine sim_istore_n (L' := [(0, .ref 1), (1, .int (a1)), (2, .int (r1))]) d_X10_gather_5 rfl (Nat.le_of_ble_eq_true rfl) rfl ?_
  refine sim_aload_n 0 d_X10_gather_6 rfl rfl ?_
  refine sim_iload_n 1 d_X10_gather_7 rfl rfl ?_
  refine sim_callVi Y_X10_visitOf 1 [.int (a1)] [] d_X10_gather_8 lk_X10_96 cv_X10_visitOf ob_C_1 rfl (by omega) (Nat.le_of_ble_eq_true rfl) (ct_X10_visitOf a1 M1) (fun r2 M2 => ?_)
  refine sim_istore_n (L' := [(0, .ref 1), (1, .int (a1)), (2, .int (r1)), (3, .int (r2))]) d_X10_gather_11 rfl (Nat.le_of_ble_eq_true rfl) rfl ?_
  refine sim_iload_n 2 d_X10_gather_12 rfl rfl ?_
  refine sim_if_lt d_X10_gather_13 ?_ ?_
  ·
    exact sim_vret d_X10_gather_20 rfl
  ·
    refine sim_iload_n 3 d_X10_gather_16 rfl rfl ?_
    refine sim_if_ge d_X10_gather_17 ?_ ?_
    ·
      refine sim_aload_n 0 d_X10_gather_21 rfl rfl ?_
      refine sim_geta d_X10_gather_22 fl_X10_28 ob_C_1 rfl ?_
      refine sim_geta d_X10_gather_25 fl_X10_99 ob_C_4 rfl ?_
      refine sim_iload_n 1 d_X10_gather_28 rfl rfl ?_
      refine sim_iald d_X10_gather_29 ar_C_40 ?_
      refine sim_nmi (fun v1 => ?_)
      refine sim_istore (L' := [(0, .ref 1), (1, .int (a1)), (2, .int (r1)), (3, .int (r2)), (4, .int (v1))]) d_X10_gather_30 (Nat.le_of_ble_eq_true rfl) rfl ?_
      refine sim_aload_n 0 d_X10_gather_32 rfl rfl ?_
      refine sim_geta d_X10_gather_33 fl_X10_28 ob_C_1 rfl ?_
      refine sim_geta d_X10_gather_36 fl_X10_102 ob_C_4 rfl ?_
      refine sim_iload_n 1 d_X10_gather_39 rfl rfl ?_
      refine sim_iald d_X10_gather_40 ar_C_41 ?_
      refine sim_nmi (fun v2 => ?_)
      refine sim_istore (L' := [(0, .ref 1), (1, .int (a1)), (2, .int (r1)), (3, .int (r2)), (4, .int (v1)), (5, .int (v2))]) d_X10_gather_41 (Nat.le_of_ble_eq_true rfl) rfl ?_
      refine sim_aload_n 0 d_X10_gather_43 rfl rfl ?_
      refine sim_geta d_X10_gather_44 fl_X10_28 ob_C_1 rfl ?_
      refine sim_geta d_X10_gather_47 fl_X10_105 ob_C_4 rfl ?_
      refine sim_iload_n 1 d_X10_gather_50 rfl rfl ?_
      refine sim_iald d_X10_gather_51 ar_C_43 ?_
      refine sim_nmi (fun v3 => ?_)
      refine sim_istore (L' := [(0, .ref 1), (1, .int (a1)), (2, .int (r1)), (3, .int (r2)), (4, .int (v1)), (5, .int (v2)), (6, .int (v3))]) d_X10_gather_52 (Nat.le_of_ble_eq_true rfl) rfl ?_
      refine sim_aload_n 0 d_X10_gather_54 rfl rfl ?_
      refine sim_geta d_X10_gather_55 fl_X10_47 ob_C_1 rfl ?_
      refine sim_iconst (0 : Int32) d_X10_gather_58 rfl ?_
      refine sim_aload_n 0 d_X10_gather_59 rfl rfl ?_
      refine sim_geta d_X10_gather_60 fl_X10_21 ob_C_1 rfl ?_
      refine sim_iload 4 d_X10_gather_63 rfl ?_
      refine sim_iload 5 d_X10_gather_65 rfl ?_
      refine sim_callVi Y_X0_age 1 [.int (v1), .int (v2)] [.int ((0 : Int32)), .ref 19] d_X10_gather_67 lk_X10_108 cv_X0_age ob_C_3 rfl (by omega) (Nat.le_of_ble_eq_true rfl) (ct_X0_age v1 v2 M2) (fun r3 M3 => ?_)
      refine sim_iast d_X10_gather_70 ar_C_19 ?_
      refine sim_nmM (fun M4 => ?_)
      refine sim_aload_n 0 d_X10_gather_71 rfl rfl ?_
      refine sim_geta d_X10_gather_72 fl_X10_47 ob_C_1 rfl ?_
      refine sim_iconst (1 : Int32) d_X10_gather_75 rfl ?_
      refine sim_aload_n 0 d_X10_gather_76 rfl rfl ?_
      refine sim_geta d_X10_gather_77 fl_X10_21 ob_C_1 rfl ?_
      refine sim_iload 4 d_X10_gather_80 rfl ?_
      refine sim_iload 5 d_X10_gather_82 rfl ?_
      refine sim_callVi Y_X0_looks 2 [.int (v1), .int (v2)] [.int ((1 : Int32)), .ref 19] d_X10_gather_84 lk_X10_112 cv_X0_looks ob_C_3 rfl (by omega) (Nat.le_of_ble_eq_true rfl) (ct_X0_looks v1 v2 M4) (fun r4 M5 => ?_)
      refine sim_iast d_X10_gather_87 ar_C_19 ?_
      refine sim_nmM (fun M6 => ?_)
      refine sim_aload_n 0 d_X10_gather_88 rfl rfl ?_
      refine sim_geta d_X10_gather_89 fl_X10_47 ob_C_1 rfl ?_
      refine sim_iconst (2 : Int32) d_X10_gather_92 rfl ?_
      refine sim_iload 6 d_X10_gather_93 rfl ?_
      refine sim_iconst (2 : Int32) d_X10_gather_95 rfl ?_
      refine sim_iand d_X10_gather_96 ?_
      refine sim_if_eq d_X10_gather_97 ?_ ?_
      ·
        refine sim_iconst (0 : Int32) d_X10_gather_104 rfl ?_
        exact sim_sub [0, 1, 2, 3, 4, 5, 6] rfl (s_X10_gather_105 a1 r1 r2 v1 v2 v3 (2 : Int32) (0 : Int32) M6)
      ·
        refine sim_iconst (1 : Int32) d_X10_gather_100 rfl ?_
        refine sim_goto d_X10_gather_101 ?_
        exact sim_sub [0, 1, 2, 3, 4, 5, 6] rfl (s_X10_gather_105 a1 r1 r2 v1 v2 v3 (2 : Int32) (1 : Int32) M6)
    ·
      exact sim_vret d_X10_gather_20 rfl
theorem ct_X10_gather (a1 : Int32) (M : mm_M) : Ct sysC Y_X10_gather 3 [.ref 1, .int (a1)] M mm_fV (f_X10_gather a1 M) :=
  ct_of_sim (by decide) rfl (Nat.le_of_ble_eq_true rfl) (s_X10_gather a1 M)
def f_X5_join (a1 : Int32) (a2 : Int32) (a3 : Int32) (M : mm_M) : Option (Int32 × mm_M) :=
  mm_case a1 [-8, -7, -6, -5, -4, -2] [
    some (a2 - a3, M),
    some (a2 + a3, M),
    if a2 ≤ a3 then
      some ((0 : Int32), M)
    else
      some ((1 : Int32), M),
    if a2 = a3 then
      some ((1 : Int32), M)
    else
      some ((0 : Int32), M),
    if a3 ≤ a2 then
      some ((0 : Int32), M)
    else
      some ((1 : Int32), M),
    if a2 ≤ 0 then
      some ((0 : Int32), M)
    else
      if a3 ≤ 0 then
        some ((0 : Int32), M)
      else
        some ((1 : Int32), M)]
  (
    if 0 < a2 then
      some ((1 : Int32), M)
    else
      if a3 ≤ 0 then
        some ((0 : Int32), M)
      else
        some ((1 : Int32), M))
theorem s_X5_join (a1 : Int32) (a2 : Int32) (a3 : Int32) (M : mm_M) : Sim sysC Y_X5_join 0 0 [(0, .int (a1)), (1, .int (a2)), (2, .int (a3))] [] M mm_fI (f_X5_join a1 a2 a3 M) := by
  unfold f_X5_join
  refine sim_iload_n 0 d_X5_join_0 rfl rfl ?_
  refine sim_tsw (td := 99) [48, 44, 74, 63, 52, 85] d_X5_join_1 (by decide +kernel) ⟨?_, ?_, ?_, ?_, ?_, ?_, trivial⟩ ?_
  ·
    refine sim_iload_n 1 d_X5_join_48 rfl rfl ?_
    refine sim_iload_n 2 d_X5_join_49 rfl rfl ?_
    refine sim_isub d_X5_join_50 ?_
    exact sim_iret d_X5_join_51 rfl
  ·
    refine sim_iload_n 1 d_X5_join_44 rfl rfl ?_
    refine sim_iload_n 2 d_X5_join_45 rfl rfl ?_
    refine sim_iadd d_X5_join_46 ?_
    exact sim_iret d_X5_join_47 rfl
  ·
    refine sim_iload_n 1 d_X5_join_74 rfl rfl ?_
    refine sim_iload_n 2 d_X5_join_75 rfl rfl ?_
    refine sim_icmp_le d_X5_join_76 ?_ ?_
    ·
      refine sim_iconst (0 : Int32) d_X5_join_83 rfl ?_
      exact sim_iret d_X5_join_84 rfl
    ·
      refine sim_iconst (1 : Int32) d_X5_join_79 rfl ?_
      refine sim_goto d_X5_join_80 ?_
      exact sim_iret d_X5_join_84 rfl
  ·
    refine sim_iload_n 1 d_X5_join_63 rfl rfl ?_
    refine sim_iload_n 2 d_X5_join_64 rfl rfl ?_
    refine sim_icmp_ne d_X5_join_65 ?_ ?_
    ·
      refine sim_iconst (0 : Int32) d_X5_join_72 rfl ?_
      exact sim_iret d_X5_join_73 rfl
    ·
      refine sim_iconst (1 : Int32) d_X5_join_68 rfl ?_
      refine sim_goto d_X5_join_69 ?_
      exact sim_iret d_X5_join_73 rfl
  ·
    refine sim_iload_n 1 d_X5_join_52 rfl rfl ?_
    refine sim_iload_n 2 d_X5_join_53 rfl rfl ?_
    refine sim_icmp_ge d_X5_join_54 ?_ ?_
    ·
      refine sim_iconst (0 : Int32) d_X5_join_61 rfl ?_
      exact sim_iret d_X5_join_62 rfl
    ·
      refine sim_iconst (1 : Int32) d_X5_join_57 rfl ?_
      refine sim_goto d_X5_join_58 ?_
      exact sim_iret d_X5_join_62 rfl
  ·
    refine sim_iload_n 1 d_X5_join_85 rfl rfl ?_
    refine sim_if_le d_X5_join_86 ?_ ?_
    ·
      refine sim_iconst (0 : Int32) d_X5_join_97 rfl ?_
      exact sim_iret d_X5_join_98 rfl
    ·
      refine sim_iload_n 2 d_X5_join_89 rfl rfl ?_
      refine sim_if_le d_X5_join_90 ?_ ?_
      ·
        refine sim_iconst (0 : Int32) d_X5_join_97 rfl ?_
        exact sim_iret d_X5_join_98 rfl
      ·
        refine sim_iconst (1 : Int32) d_X5_join_93 rfl ?_
        refine sim_goto d_X5_join_94 ?_
        exact sim_iret d_X5_join_98 rfl
  ·
    refine sim_iload_n 1 d_X5_join_99 rfl rfl ?_
    refine sim_if_gt d_X5_join_100 ?_ ?_
    ·
      refine sim_iconst (1 : Int32) d_X5_join_107 rfl ?_
      refine sim_goto d_X5_join_108 ?_
      exact sim_iret d_X5_join_112 rfl
    ·
      refine sim_iload_n 2 d_X5_join_103 rfl rfl ?_
      refine sim_if_le d_X5_join_104 ?_ ?_
      ·
        refine sim_iconst (0 : Int32) d_X5_join_111 rfl ?_
        exact sim_iret d_X5_join_112 rfl
      ·
        refine sim_iconst (1 : Int32) d_X5_join_107 rfl ?_
        refine sim_goto d_X5_join_108 ?_
        exact sim_iret d_X5_join_112 rfl
theorem ct_X5_join (a1 : Int32) (a2 : Int32) (a3 : Int32) (M : mm_M) : Ct sysC Y_X5_join 0 [.int (a1), .int (a2), .int (a3)] M mm_fI (f_X5_join a1 a2 a3 M) :=
  ct_of_sim (by decide) rfl (Nat.le_of_ble_eq_true rfl) (s_X5_join a1 a2 a3 M)
def f_X5_unit (a1 : Int32) (M : mm_M) : Option (Int32 × mm_M) :=
  mm_let (a1 - (10000 : Int32)) (fun v1 =>
  if v1 < 0 then
    some (a1, M)
  else
    if (26 : Int32) ≤ v1 then
      some (a1, M)
    else
      mm_ck v1 26 (
      some (mI M 19 v1.toNatClampNeg, M)))
theorem s_X5_unit (a1 : Int32) (M : mm_M) : Sim sysC Y_X5_unit 0 0 [(0, .int (a1)), (1, .ref 19)] [] M mm_fI (f_X5_unit a1 M) := by
  unfold f_X5_unit
  refine sim_iload_n 0 d_X5_unit_0 rfl rfl ?_
  refine sim_sipush (10000 : Int32) d_X5_unit_1 rfl ?_
  refine sim_isub d_X5_unit_4 ?_
  refine sim_nmi (fun v1 => ?_)
  refine sim_istore_n (L' := [(0, .int (a1)), (1, .ref 19), (2, .int (v1))]) d_X5_unit_5 rfl (Nat.le_of_ble_eq_true rfl) rfl ?_
  refine sim_iload_n 2 d_X5_unit_6 rfl rfl ?_
  refine sim_if_lt d_X5_unit_7 ?_ ?_
  ·
    refine sim_iload_n 0 d_X5_unit_22 rfl rfl ?_
    exact sim_iret d_X5_unit_23 rfl
  ·
    refine sim_iload_n 2 d_X5_unit_10 rfl rfl ?_
    refine sim_aload_n 1 d_X5_unit_11 rfl rfl ?_
    refine sim_alen (26 : Int32) d_X5_unit_12 ar_C_19 (Or.inl rfl) rfl ?_
    refine sim_icmp_ge d_X5_unit_13 ?_ ?_
    ·
      refine sim_iload_n 0 d_X5_unit_22 rfl rfl ?_
      exact sim_iret d_X5_unit_23 rfl
    ·
      refine sim_aload_n 1 d_X5_unit_16 rfl rfl ?_
      refine sim_iload_n 2 d_X5_unit_17 rfl rfl ?_
      refine sim_iald d_X5_unit_18 ar_C_19 ?_
      refine sim_goto d_X5_unit_19 ?_
      exact sim_iret d_X5_unit_23 rfl
theorem ct_X5_unit (a1 : Int32) (M : mm_M) : Ct sysC Y_X5_unit 0 [.int (a1), .ref 19] M mm_fI (f_X5_unit a1 M) :=
  ct_of_sim (by decide) rfl (Nat.le_of_ble_eq_true rfl) (s_X5_unit a1 M)
def f_X5_value_139 (k5 : Int32 → Int32 → Int32 → mm_M → Option (Int32 × mm_M)) (x1 : Int32) (x3 : Int32) (x4 : Int32) (M : mm_M) : Option (Int32 × mm_M) :=
  k5 x1 x3 (x4 + (1 : Int32)) M
theorem s_X5_value_139 (k5 : Int32 → Int32 → Int32 → mm_M → Option (Int32 × mm_M)) (hk5 : ∀ (x1 : Int32) (x3 : Int32) (x4 : Int32) (M : mm_M), Sim sysC Y_X5_value 1 5 [(0, .ref 5), (1, .int (x1)), (2, .ref 19), (3, .int (x3)), (4, .int (x4))] [] M mm_fI (k5 x1 x3 x4 M)) (x1 : Int32) (x3 : Int32) (x4 : Int32) (M : mm_M) : Sim sysC Y_X5_value 1 139 [(0, .ref 5), (1, .int (x1)), (2, .ref 19), (3, .int (x3)), (4, .int (x4))] [] M mm_fI (f_X5_value_139 k5 x1 x3 x4 M) := by
  unfold f_X5_value_139
  refine sim_iinc (v := x4 + (1 : Int32)) (L' := [(0, .ref 5), (1, .int (x1)), (2, .ref 19), (3, .int (x3)), (4, .int (x4 + (1 : Int32)))]) 4 d_X5_value_139 (Nat.le_of_ble_eq_true rfl) rfl rfl rfl ?_
  refine sim_goto d_X5_value_142 ?_
  exact sim_sub [0, 1, 2, 3, 4] rfl (hk5 x1 x3 (x4 + (1 : Int32)) M)
def f_X5_value_100 (k5 : Int32 → Int32 → Int32 → mm_M → Option (Int32 × mm_M)) (x1 : Int32) (x3 : Int32) (x4 : Int32) (t1 : Int32) (t2 : Int32) (M : mm_M) : Option (Int32 × mm_M) :=
  mm_ck t1 80 (
  mm_let (sI M 50 t1.toNatClampNeg t2) (fun M1 =>
  f_X5_value_139 k5 x1 x3 x4 M1))
theorem s_X5_value_100 (k5 : Int32 → Int32 → Int32 → mm_M → Option (Int32 × mm_M)) (hk5 : ∀ (x1 : Int32) (x3 : Int32) (x4 : Int32) (M : mm_M), Sim sysC Y_X5_value 1 5 [(0, .ref 5), (1, .int (x1)), (2, .ref 19), (3, .int (x3)), (4, .int (x4))] [] M mm_fI (k5 x1 x3 x4 M)) (x1 : Int32) (x3 : Int32) (x4 : Int32) (t1 : Int32) (t2 : Int32) (M : mm_M) : Sim sysC Y_X5_value 1 100 [(0, .ref 5), (1, .int (x1)), (2, .ref 19), (3, .int (x3)), (4, .int (x4))] [.int (t2), .int (t1), .ref 50] M mm_fI (f_X5_value_100 k5 x1 x3 x4 t1 t2 M) := by
  unfold f_X5_value_100
  refine sim_iast d_X5_value_100 ar_C_50 ?_
  refine sim_nmM (fun M1 => ?_)
  refine sim_goto d_X5_value_101 ?_
  exact sim_sub [0, 1, 2, 3, 4] rfl (s_X5_value_139 k5 hk5 x1 x3 x4 M1)
def f_X5_value_5 : Nat → Int32 → Int32 → Int32 → mm_M → Option (Int32 × mm_M)
  | 0, _, _, _, _ => none
  | n + 1, x1, x3, x4, M =>
  mm_ck x1 20 (
  if (mI M 48 x1.toNatClampNeg) ≤ x4 then
    mm_ck (0 : Int32) 80 (
    some (mI M 50 (0 : Int32).toNatClampNeg, M))
  else
    if (80 : Int32) ≤ x4 then
      mm_ck (0 : Int32) 80 (
      some (mI M 50 (0 : Int32).toNatClampNeg, M))
    else
      mm_ck ((x1 * (80 : Int32)) + x4) 1600 (
      mm_let (mI M 49 ((x1 * (80 : Int32)) + x4).toNatClampNeg) (fun v1 =>
      if v1 < 0 then
        if v1 = (-3 : Int32) then
          if x3 ≤ 0 then
            f_X5_value_139 (f_X5_value_5 n) x1 x3 x4 M
          else
            mm_ck (x3 - (1 : Int32)) 80 (
            if (mI M 50 (x3 - (1 : Int32)).toNatClampNeg) ≤ 0 then
              f_X5_value_100 (f_X5_value_5 n) x1 x3 x4 (x3 - (1 : Int32)) (1 : Int32) M
            else
              f_X5_value_100 (f_X5_value_5 n) x1 x3 x4 (x3 - (1 : Int32)) (0 : Int32) M)
        else
          if x3 ≤ (1 : Int32) then
            f_X5_value_139 (f_X5_value_5 n) x1 x3 x4 M
          else
            mm_ck ((x3 + (-1 : Int32)) - (1 : Int32)) 80 (
            mm_ck (x3 + (-1 : Int32)) 80 (
            mm_bi (f_X5_join v1 (mI M 50 ((x3 + (-1 : Int32)) - (1 : Int32)).toNatClampNeg) (mI M 50 (x3 + (-1 : Int32)).toNatClampNeg) M) (fun r1 M1 =>
            mm_ck ((x3 + (-1 : Int32)) - (1 : Int32)) 80 (
            mm_let (sI M1 50 ((x3 + (-1 : Int32)) - (1 : Int32)).toNatClampNeg r1) (fun M2 =>
            f_X5_value_139 (f_X5_value_5 n) x1 (x3 + (-1 : Int32)) x4 M2)))))
      else
        if (80 : Int32) ≤ x3 then
          f_X5_value_139 (f_X5_value_5 n) x1 x3 x4 M
        else
          mm_bi (f_X5_unit v1 M) (fun r2 M3 =>
          mm_ck x3 80 (
          mm_let (sI M3 50 x3.toNatClampNeg r2) (fun M4 =>
          f_X5_value_139 (f_X5_value_5 n) x1 (x3 + (1 : Int32)) x4 M4))))))
theorem s_X5_value_5 (n : Nat) : ∀ (x1 : Int32) (x3 : Int32) (x4 : Int32) (M : mm_M), Sim sysC Y_X5_value 1 5 [(0, .ref 5), (1, .int (x1)), (2, .ref 19), (3, .int (x3)), (4, .int (x4))] [] M mm_fI (f_X5_value_5 n x1 x3 x4 M) := by
  induction n with
  | zero => intros; exact sim_none
  | succ n ih =>
    intro x1 x3 x4 M
    rw [f_X5_value_5]
    refine sim_iload 4 d_X5_value_5 rfl ?_
    refine sim_aload_n 0 d_X5_value_7 rfl rfl ?_
    refine sim_geta d_X5_value_8 fl_X5_18 ob_C_5 rfl ?_
    refine sim_iload_n 1 d_X5_value_11 rfl rfl ?_
    refine sim_iald d_X5_value_12 ar_C_48 ?_
    refine sim_icmp_ge d_X5_value_13 ?_ ?_
    ·
      refine sim_aload_n 0 d_X5_value_145 rfl rfl ?_
      refine sim_geta d_X5_value_146 fl_X5_24 ob_C_5 rfl ?_
      refine sim_iconst (0 : Int32) d_X5_value_149 rfl ?_
      refine sim_iald d_X5_value_150 ar_C_50 ?_
      exact sim_iret d_X5_value_151 rfl
    ·
      refine sim_iload 4 d_X5_value_16 rfl ?_
      refine sim_bipush (80 : Int32) d_X5_value_18 rfl ?_
      refine sim_icmp_ge d_X5_value_20 ?_ ?_
      ·
        refine sim_aload_n 0 d_X5_value_145 rfl rfl ?_
        refine sim_geta d_X5_value_146 fl_X5_24 ob_C_5 rfl ?_
        refine sim_iconst (0 : Int32) d_X5_value_149 rfl ?_
        refine sim_iald d_X5_value_150 ar_C_50 ?_
        exact sim_iret d_X5_value_151 rfl
      ·
        refine sim_aload_n 0 d_X5_value_23 rfl rfl ?_
        refine sim_geta d_X5_value_24 fl_X5_21 ob_C_5 rfl ?_
        refine sim_iload_n 1 d_X5_value_27 rfl rfl ?_
        refine sim_bipush (80 : Int32) d_X5_value_28 rfl ?_
        refine sim_imul d_X5_value_30 ?_
        refine sim_iload 4 d_X5_value_31 rfl ?_
        refine sim_iadd d_X5_value_33 ?_
        refine sim_iald d_X5_value_34 ar_C_49 ?_
        refine sim_nmi (fun v1 => ?_)
        refine sim_istore (L' := [(0, .ref 5), (1, .int (x1)), (2, .ref 19), (3, .int (x3)), (4, .int (x4)), (5, .int (v1))]) d_X5_value_35 (Nat.le_of_ble_eq_true rfl) rfl ?_
        refine sim_iload 5 d_X5_value_37 rfl ?_
        refine sim_if_lt d_X5_value_39 ?_ ?_
        ·
          refine sim_iload 5 d_X5_value_66 rfl ?_
          refine sim_bipush (-3 : Int32) d_X5_value_68 rfl ?_
          refine sim_icmp_ne d_X5_value_70 ?_ ?_
          ·
            refine sim_iload_n 3 d_X5_value_104 rfl rfl ?_
            refine sim_iconst (1 : Int32) d_X5_value_105 rfl ?_
            refine sim_icmp_le d_X5_value_106 ?_ ?_
            ·
              exact sim_sub [0, 1, 2, 3, 4] rfl (s_X5_value_139 (f_X5_value_5 n) ih x1 x3 x4 M)
            ·
              refine sim_iinc (v := x3 + (-1 : Int32)) (L' := [(0, .ref 5), (1, .int (x1)), (2, .ref 19), (4, .int (x4)), (5, .int (v1)), (3, .int (x3 + (-1 : Int32)))]) 3 d_X5_value_109 (Nat.le_of_ble_eq_true rfl) rfl rfl rfl ?_
              refine sim_aload_n 0 d_X5_value_112 rfl rfl ?_
              refine sim_geta d_X5_value_113 fl_X5_24 ob_C_5 rfl ?_
              refine sim_iload_n 5 d_X5_value_116 rfl rfl ?_
              refine sim_iconst (1 : Int32) d_X5_value_117 rfl ?_
              refine sim_isub d_X5_value_118 ?_
              refine sim_iload 4 d_X5_value_119 rfl ?_
              refine sim_aload_n 0 d_X5_value_121 rfl rfl ?_
              refine sim_geta d_X5_value_122 fl_X5_24 ob_C_5 rfl ?_
              refine sim_iload_n 5 d_X5_value_125 rfl rfl ?_
              refine sim_iconst (1 : Int32) d_X5_value_126 rfl ?_
              refine sim_isub d_X5_value_127 ?_
              refine sim_iald d_X5_value_128 ar_C_50 ?_
              refine sim_aload_n 0 d_X5_value_129 rfl rfl ?_
              refine sim_geta d_X5_value_130 fl_X5_24 ob_C_5 rfl ?_
              refine sim_iload_n 5 d_X5_value_133 rfl rfl ?_
              refine sim_iald d_X5_value_134 ar_C_50 ?_
              refine sim_callSi Y_X5_join 0 [.int (v1), .int (mI M 50 ((x3 + (-1 : Int32)) - (1 : Int32)).toNatClampNeg), .int (mI M 50 (x3 + (-1 : Int32)).toNatClampNeg)] [.int ((x3 + (-1 : Int32)) - (1 : Int32)), .ref 50] d_X5_value_135 lk_X5_44 cs_X5_join rfl (by omega) (Nat.le_of_ble_eq_true rfl) (ct_X5_join v1 (mI M 50 ((x3 + (-1 : Int32)) - (1 : Int32)).toNatClampNeg) (mI M 50 (x3 + (-1 : Int32)).toNatClampNeg) M) (fun r1 M1 => ?_)
              refine sim_iast d_X5_value_138 ar_C_50 ?_
              refine sim_nmM (fun M2 => ?_)
              exact sim_sub [0, 1, 2, 5, 3] rfl (s_X5_value_139 (f_X5_value_5 n) ih x1 (x3 + (-1 : Int32)) x4 M2)
          ·
            refine sim_iload_n 3 d_X5_value_73 rfl rfl ?_
            refine sim_if_le d_X5_value_74 ?_ ?_
            ·
              exact sim_sub [0, 1, 2, 3, 4] rfl (s_X5_value_139 (f_X5_value_5 n) ih x1 x3 x4 M)
            ·
              refine sim_aload_n 0 d_X5_value_77 rfl rfl ?_
              refine sim_geta d_X5_value_78 fl_X5_24 ob_C_5 rfl ?_
              refine sim_iload_n 3 d_X5_value_81 rfl rfl ?_
              refine sim_iconst (1 : Int32) d_X5_value_82 rfl ?_
              refine sim_isub d_X5_value_83 ?_
              refine sim_aload_n 0 d_X5_value_84 rfl rfl ?_
              refine sim_geta d_X5_value_85 fl_X5_24 ob_C_5 rfl ?_
              refine sim_iload_n 3 d_X5_value_88 rfl rfl ?_
              refine sim_iconst (1 : Int32) d_X5_value_89 rfl ?_
              refine sim_isub d_X5_value_90 ?_
              refine sim_iald d_X5_value_91 ar_C_50 ?_
              refine sim_if_le d_X5_value_92 ?_ ?_
              ·
                refine sim_iconst (1 : Int32) d_X5_value_99 rfl ?_
                exact sim_sub [0, 1, 2, 3, 4] rfl (s_X5_value_100 (f_X5_value_5 n) ih x1 x3 x4 (x3 - (1 : Int32)) (1 : Int32) M)
              ·
                refine sim_iconst (0 : Int32) d_X5_value_95 rfl ?_
                refine sim_goto d_X5_value_96 ?_
                exact sim_sub [0, 1, 2, 3, 4] rfl (s_X5_value_100 (f_X5_value_5 n) ih x1 x3 x4 (x3 - (1 : Int32)) (0 : Int32) M)
        ·
          refine sim_iload_n 3 d_X5_value_42 rfl rfl ?_
          refine sim_bipush (80 : Int32) d_X5_value_43 rfl ?_
          refine sim_icmp_ge d_X5_value_45 ?_ ?_
          ·
            exact sim_sub [0, 1, 2, 3, 4] rfl (s_X5_value_139 (f_X5_value_5 n) ih x1 x3 x4 M)
          ·
            refine sim_aload_n 0 d_X5_value_48 rfl rfl ?_
            refine sim_geta d_X5_value_49 fl_X5_24 ob_C_5 rfl ?_
            refine sim_iload_n 3 d_X5_value_52 rfl rfl ?_
            refine sim_iload 5 d_X5_value_53 rfl ?_
            refine sim_aload_n 2 d_X5_value_55 rfl rfl ?_
            refine sim_callSi Y_X5_unit 0 [.int (v1), .ref 19] [.int (x3), .ref 50] d_X5_value_56 lk_X5_39 cs_X5_unit rfl (by omega) (Nat.le_of_ble_eq_true rfl) (ct_X5_unit v1 M) (fun r2 M3 => ?_)
            refine sim_iast d_X5_value_59 ar_C_50 ?_
            refine sim_nmM (fun M4 => ?_)
            refine sim_iinc (v := x3 + (1 : Int32)) (L' := [(0, .ref 5), (1, .int (x1)), (2, .ref 19), (4, .int (x4)), (5, .int (v1)), (3, .int (x3 + (1 : Int32)))]) 3 d_X5_value_60 (Nat.le_of_ble_eq_true rfl) rfl rfl rfl ?_
            refine sim_goto d_X5_value_63 ?_
            exact sim_sub [0, 1, 2, 5, 3] rfl (s_X5_value_139 (f_X5_value_5 n) ih x1 (x3 + (1 : Int32)) x4 M4)
def f_X5_value (a1 : Int32) (M : mm_M) : Option (Int32 × mm_M) :=
  f_X5_value_5 mm_fu a1 (0 : Int32) (0 : Int32) M
theorem s_X5_value (a1 : Int32) (M : mm_M) : Sim sysC Y_X5_value 1 0 [(0, .ref 5), (1, .int (a1)), (2, .ref 19)] [] M mm_fI (f_X5_value a1 M) := by
  unfold f_X5_value
  refine sim_iconst (0 : Int32) d_X5_value_0 rfl ?_
  refine sim_istore_n (L' := [(0, .ref 5), (1, .int (a1)), (2, .ref 19), (3, .int ((0 : Int32)))]) d_X5_value_1 rfl (Nat.le_of_ble_eq_true rfl) rfl ?_
  refine sim_iconst (0 : Int32) d_X5_value_2 rfl ?_
  refine sim_istore (L' := [(0, .ref 5), (1, .int (a1)), (2, .ref 19), (3, .int ((0 : Int32))), (4, .int ((0 : Int32)))]) d_X5_value_3 (Nat.le_of_ble_eq_true rfl) rfl ?_
  exact sim_sub [0, 1, 2, 3, 4] rfl (s_X5_value_5 mm_fu a1 (0 : Int32) (0 : Int32) M)
theorem ct_X5_value (a1 : Int32) (M : mm_M) : Ct sysC Y_X5_value 1 [.ref 5, .int (a1), .ref 19] M mm_fI (f_X5_value a1 M) :=
  ct_of_sim (by decide) rfl (Nat.le_of_ble_eq_true rfl) (s_X5_value a1 M)
def f_X5_holds (a1 : Int32) (a2 : Int32) (M : mm_M) : Option (Int32 × mm_M) :=
  mm_bi (f_X5_inForce a1 a2 M) (fun r1 M1 =>
  if 0 ≤ r1 then
    mm_bi (f_X5_value r1 M1) (fun r2 M2 =>
    if r2 ≤ 0 then
      some ((0 : Int32), M2)
    else
      some ((1 : Int32), M2))
  else
    if a1 = 0 then
      some ((1 : Int32), M1)
    else
      some ((0 : Int32), M1))
theorem s_X5_holds (a1 : Int32) (a2 : Int32) (M : mm_M) : Sim sysC Y_X5_holds 2 0 [(0, .ref 5), (1, .int (a1)), (2, .int (a2)), (3, .ref 19)] [] M mm_fI (f_X5_holds a1 a2 M) := by
  unfold f_X5_holds
  refine sim_aload_n 0 d_X5_holds_0 rfl rfl ?_
  refine sim_iload_n 1 d_X5_holds_1 rfl rfl ?_
  refine sim_iload_n 2 d_X5_holds_2 rfl rfl ?_
  refine sim_callVi Y_X5_inForce 0 [.int (a1), .int (a2)] [] d_X5_holds_3 lk_X5_31 cv_X5_inForce ob_C_5 rfl (by omega) (Nat.le_of_ble_eq_true rfl) (ct_X5_inForce a1 a2 M) (fun r1 M1 => ?_)
  refine sim_istore (L' := [(0, .ref 5), (1, .int (a1)), (2, .int (a2)), (3, .ref 19), (4, .int (r1))]) d_X5_holds_6 (Nat.le_of_ble_eq_true rfl) rfl ?_
  refine sim_iload 4 d_X5_holds_8 rfl ?_
  refine sim_if_ge d_X5_holds_10 ?_ ?_
  ·
    refine sim_aload_n 0 d_X5_holds_23 rfl rfl ?_
    refine sim_iload 4 d_X5_holds_24 rfl ?_
    refine sim_aload_n 3 d_X5_holds_26 rfl rfl ?_
    refine sim_callVi Y_X5_value 1 [.int (r1), .ref 19] [] d_X5_holds_27 lk_X5_35 cv_X5_value ob_C_5 rfl (by omega) (Nat.le_of_ble_eq_true rfl) (ct_X5_value r1 M1) (fun r2 M2 => ?_)
    refine sim_if_le d_X5_holds_30 ?_ ?_
    ·
      refine sim_iconst (0 : Int32) d_X5_holds_37 rfl ?_
      exact sim_zret d_X5_holds_38 rfl rfl
    ·
      refine sim_iconst (1 : Int32) d_X5_holds_33 rfl ?_
      refine sim_goto d_X5_holds_34 ?_
      exact sim_zret d_X5_holds_38 rfl rfl
  ·
    refine sim_iload_n 1 d_X5_holds_13 rfl rfl ?_
    refine sim_if_ne d_X5_holds_14 ?_ ?_
    ·
      refine sim_iconst (0 : Int32) d_X5_holds_21 rfl ?_
      exact sim_zret d_X5_holds_22 rfl rfl
    ·
      refine sim_iconst (1 : Int32) d_X5_holds_17 rfl ?_
      refine sim_goto d_X5_holds_18 ?_
      exact sim_zret d_X5_holds_22 rfl rfl
theorem ct_X5_holds (a1 : Int32) (a2 : Int32) (M : mm_M) : Ct sysC Y_X5_holds 2 [.ref 5, .int (a1), .int (a2), .ref 19] M mm_fI (f_X5_holds a1 a2 M) :=
  ct_of_sim (by decide) rfl (Nat.le_of_ble_eq_true rfl) (s_X5_holds a1 a2 M)
def f_X9_isSold (a1 : Int32) (M : mm_M) : Option (Int32 × mm_M) :=
  mm_bi (f_X9_has a1 M) (fun r1 M1 =>
  if r1 = 0 then
    some ((0 : Int32), M1)
  else
    mm_ck a1 100 (
    if ((mI M1 43 a1.toNatClampNeg) &&& (4 : Int32)) = 0 then
      some ((0 : Int32), M1)
    else
      some ((1 : Int32), M1)))
theorem s_X9_isSold (a1 : Int32) (M : mm_M) : Sim sysC Y_X9_isSold 1 0 [(0, .ref 4), (1, .int (a1))] [] M mm_fI (f_X9_isSold a1 M) := by
  unfold f_X9_isSold
  refine sim_aload_n 0 d_X9_isSold_0 rfl rfl ?_
  refine sim_iload_n 1 d_X9_isSold_1 rfl rfl ?_
  refine sim_callVi Y_X9_has 0 [.int (a1)] [] d_X9_isSold_2 lk_X9_37 cv_X9_has ob_C_4 rfl (by omega) (Nat.le_of_ble_eq_true rfl) (ct_X9_has a1 M) (fun r1 M1 => ?_)
  refine sim_if_eq d_X9_isSold_5 ?_ ?_
  ·
    refine sim_iconst (0 : Int32) d_X9_isSold_23 rfl ?_
    exact sim_zret d_X9_isSold_24 rfl rfl
  ·
    refine sim_aload_n 0 d_X9_isSold_8 rfl rfl ?_
    refine sim_geta d_X9_isSold_9 fl_X9_24 ob_C_4 rfl ?_
    refine sim_iload_n 1 d_X9_isSold_12 rfl rfl ?_
    refine sim_iald d_X9_isSold_13 ar_C_43 ?_
    refine sim_iconst (4 : Int32) d_X9_isSold_14 rfl ?_
    refine sim_iand d_X9_isSold_15 ?_
    refine sim_if_eq d_X9_isSold_16 ?_ ?_
    ·
      refine sim_iconst (0 : Int32) d_X9_isSold_23 rfl ?_
      exact sim_zret d_X9_isSold_24 rfl rfl
    ·
      refine sim_iconst (1 : Int32) d_X9_isSold_19 rfl ?_
      refine sim_goto d_X9_isSold_20 ?_
      exact sim_zret d_X9_isSold_24 rfl rfl
theorem ct_X9_isSold (a1 : Int32) (M : mm_M) : Ct sysC Y_X9_isSold 1 [.ref 4, .int (a1)] M mm_fI (f_X9_isSold a1 M) :=
  ct_of_sim (by decide) rfl (Nat.le_of_ble_eq_true rfl) (s_X9_isSold a1 M)
def f_X10_settle (a1 : Int32) (M : mm_M) : Option (mm_M) :=
  mm_bi (f_X10_ownerOf a1 M) (fun r1 M1 =>
  mm_bi (f_X10_visitOf a1 M1) (fun r2 M2 =>
  if r1 < 0 then
    some M2
  else
    if 0 ≤ r2 then
      mm_ck r2 320 (
      mm_ck r2 320 (
      mm_let (sI M2 20 r2.toNatClampNeg ((mI M2 20 r2.toNatClampNeg) + (1 : Int32))) (fun M3 =>
      mm_ck a1 100 (
      mm_let (mI M3 41 a1.toNatClampNeg) (fun v1 =>
      mm_bi (f_X5_holds (0 : Int32) v1 M3) (fun r3 M4 =>
      mm_ck a1 100 (
      mm_let (sI M4 17 a1.toNatClampNeg (r3 &&& 1)) (fun M5 =>
      mm_ck a1 100 (
      if (mI M5 17 a1.toNatClampNeg) = 0 then
        some M5
      else
        mm_ck r1 240 (
        mm_ck r1 240 (
        mm_let (sI M5 21 r1.toNatClampNeg ((mI M5 21 r1.toNatClampNeg) + (1 : Int32))) (fun M6 =>
        mm_ck r1 240 (
        mm_let (sI M6 23 r1.toNatClampNeg v1) (fun M7 =>
        mm_bi (f_X9_isSold a1 M7) (fun r4 M8 =>
        if r4 = 0 then
          some M8
        else
          mm_ck r1 240 (
          mm_ck r1 240 (
          mm_let (sI M8 22 r1.toNatClampNeg ((mI M8 22 r1.toNatClampNeg) + (1 : Int32))) (fun M9 =>
          mm_ck r1 240 (
          if (4 : Int32) ≤ (mI M9 24 r1.toNatClampNeg) then
            some M9
          else
            mm_ck r1 240 (
            mm_bi (f_X5_holds ((mI M9 24 r1.toNatClampNeg) + (1 : Int32)) v1 M9) (fun r5 M10 =>
            if r5 = 0 then
              some M10
            else
              mm_ck r1 240 (
              mm_ck r1 240 (
              mm_let (sI M10 24 r1.toNatClampNeg ((mI M10 24 r1.toNatClampNeg) + (1 : Int32))) (fun M11 =>
              mm_ck r1 240 (
              mm_let (sI M11 25 r1.toNatClampNeg v1) (fun M12 =>
              mm_ck r1 240 (
              mm_ck a1 100 (
              mm_let (sI M12 18 a1.toNatClampNeg (mI M12 24 r1.toNatClampNeg)) (fun M13 =>
              some M13)))))))))))))))))))))))))))))
    else
      some M2))
theorem s_X10_settle (a1 : Int32) (M : mm_M) : Sim sysC Y_X10_settle 3 0 [(0, .ref 1), (1, .int (a1))] [] M mm_fV (f_X10_settle a1 M) := by
  unfold f_X10_settle
  refine sim_aload_n 0 d_X10_settle_0 rfl rfl ?_
  refine sim_iload_n 1 d_X10_settle_1 rfl rfl ?_
  refine sim_callVi Y_X10_ownerOf 2 [.int (a1)] [] d_X10_settle_2 lk_X10_92 cv_X10_ownerOf ob_C_1 rfl (by omega) (Nat.le_of_ble_eq_true rfl) (ct_X10_ownerOf a1 M) (fun r1 M1 => ?_)
  refine sim_istore_n (L' := [(0, .ref 1), (1, .int (a1)), (2, .int (r1))]) d_X10_settle_5 rfl (Nat.le_of_ble_eq_true rfl) rfl ?_
  refine sim_aload_n 0 d_X10_settle_6 rfl rfl ?_
  refine sim_iload_n 1 d_X10_settle_7 rfl rfl ?_
  refine sim_callVi Y_X10_visitOf 1 [.int (a1)] [] d_X10_settle_8 lk_X10_96 cv_X10_visitOf ob_C_1 rfl (by omega) (Nat.le_of_ble_eq_true rfl) (ct_X10_visitOf a1 M1) (fun r2 M2 => ?_)
  refine sim_istore_n (L' := [(0, .ref 1), (1, .int (a1)), (2, .int (r1)), (3, .int (r2))]) d_X10_settle_11 rfl (Nat.le_of_ble_eq_true rfl) rfl ?_
  refine sim_iload_n 2 d_X10_settle_12 rfl rfl ?_
  refine sim_if_lt d_X10_settle_13 ?_ ?_
  ·
    exact sim_vret d_X10_settle_20 rfl
  ·
    refine sim_iload_n 3 d_X10_settle_16 rfl rfl ?_
    refine sim_if_ge d_X10_settle_17 ?_ ?_
    ·
      refine sim_aload_n 0 d_X10_settle_21 rfl rfl ?_
      refine sim_geta d_X10_settle_22 fl_X10_50 ob_C_1 rfl ?_
      refine sim_iload_n 3 d_X10_settle_25 rfl rfl ?_
      refine sim_dup2_11 d_X10_settle_26 rfl rfl ?_
      refine sim_iald d_X10_settle_27 ar_C_20 ?_
      refine sim_iconst (1 : Int32) d_X10_settle_28 rfl ?_
      refine sim_iadd d_X10_settle_29 ?_
      refine sim_iast d_X10_settle_30 ar_C_20 ?_
      refine sim_nmM (fun M3 => ?_)
      refine sim_aload_n 0 d_X10_settle_31 rfl rfl ?_
      refine sim_geta d_X10_settle_32 fl_X10_28 ob_C_1 rfl ?_
      refine sim_geta d_X10_settle_35 fl_X10_102 ob_C_4 rfl ?_
      refine sim_iload_n 1 d_X10_settle_38 rfl rfl ?_
      refine sim_iald d_X10_settle_39 ar_C_41 ?_
      refine sim_nmi (fun v1 => ?_)
      refine sim_istore (L' := [(0, .ref 1), (1, .int (a1)), (2, .int (r1)), (3, .int (r2)), (4, .int (v1))]) d_X10_settle_40 (Nat.le_of_ble_eq_true rfl) rfl ?_
      refine sim_aload_n 0 d_X10_settle_42 rfl rfl ?_
      refine sim_geta d_X10_settle_43 fl_X10_39 ob_C_1 rfl ?_
      refine sim_iload_n 1 d_X10_settle_46 rfl rfl ?_
      refine sim_aload_n 0 d_X10_settle_47 rfl rfl ?_
      refine sim_geta d_X10_settle_48 fl_X10_35 ob_C_1 rfl ?_
      refine sim_iconst (0 : Int32) d_X10_settle_51 rfl ?_
      refine sim_iload 4 d_X10_settle_52 rfl ?_
      refine sim_aload_n 0 d_X10_settle_54 rfl rfl ?_
      refine sim_geta d_X10_settle_55 fl_X10_47 ob_C_1 rfl ?_
      refine sim_callVi Y_X5_holds 2 [.int ((0 : Int32)), .int (v1), .ref 19] [.int (a1), .ref 17] d_X10_settle_58 lk_X10_124 cv_X5_holds ob_C_5 rfl (by omega) (Nat.le_of_ble_eq_true rfl) (ct_X5_holds (0 : Int32) v1 M3) (fun r3 M4 => ?_)
      refine sim_zast d_X10_settle_61 ar_C_17 ?_
      refine sim_nmM (fun M5 => ?_)
      refine sim_aload_n 0 d_X10_settle_62 rfl rfl ?_
      refine sim_geta d_X10_settle_63 fl_X10_39 ob_C_1 rfl ?_
      refine sim_iload_n 1 d_X10_settle_66 rfl rfl ?_
      refine sim_zald d_X10_settle_67 ar_C_17 ?_
      refine sim_if_ne d_X10_settle_68 ?_ ?_
      ·
        refine sim_aload_n 0 d_X10_settle_72 rfl rfl ?_
        refine sim_geta d_X10_settle_73 fl_X10_53 ob_C_1 rfl ?_
        refine sim_iload_n 2 d_X10_settle_76 rfl rfl ?_
        refine sim_dup2_11 d_X10_settle_77 rfl rfl ?_
        refine sim_iald d_X10_settle_78 ar_C_21 ?_
        refine sim_iconst (1 : Int32) d_X10_settle_79 rfl ?_
        refine sim_iadd d_X10_settle_80 ?_
        refine sim_iast d_X10_settle_81 ar_C_21 ?_
        refine sim_nmM (fun M6 => ?_)
        refine sim_aload_n 0 d_X10_settle_82 rfl rfl ?_
        refine sim_geta d_X10_settle_83 fl_X10_59 ob_C_1 rfl ?_
        refine sim_iload_n 2 d_X10_settle_86 rfl rfl ?_
        refine sim_iload 4 d_X10_settle_87 rfl ?_
        refine sim_iast d_X10_settle_89 ar_C_23 ?_
        refine sim_nmM (fun M7 => ?_)
        refine sim_aload_n 0 d_X10_settle_90 rfl rfl ?_
        refine sim_geta d_X10_settle_91 fl_X10_28 ob_C_1 rfl ?_
        refine sim_iload_n 1 d_X10_settle_94 rfl rfl ?_
        refine sim_callVi Y_X9_isSold 1 [.int (a1)] [] d_X10_settle_95 lk_X10_128 cv_X9_isSold ob_C_4 rfl (by omega) (Nat.le_of_ble_eq_true rfl) (ct_X9_isSold a1 M7) (fun r4 M8 => ?_)
        refine sim_if_ne d_X10_settle_98 ?_ ?_
        ·
          refine sim_aload_n 0 d_X10_settle_102 rfl rfl ?_
          refine sim_geta d_X10_settle_103 fl_X10_56 ob_C_1 rfl ?_
          refine sim_iload_n 2 d_X10_settle_106 rfl rfl ?_
          refine sim_dup2_11 d_X10_settle_107 rfl rfl ?_
          refine sim_iald d_X10_settle_108 ar_C_22 ?_
          refine sim_iconst (1 : Int32) d_X10_settle_109 rfl ?_
          refine sim_iadd d_X10_settle_110 ?_
          refine sim_iast d_X10_settle_111 ar_C_22 ?_
          refine sim_nmM (fun M9 => ?_)
          refine sim_aload_n 0 d_X10_settle_112 rfl rfl ?_
          refine sim_geta d_X10_settle_113 fl_X10_62 ob_C_1 rfl ?_
          refine sim_iload_n 2 d_X10_settle_116 rfl rfl ?_
          refine sim_iald d_X10_settle_117 ar_C_24 ?_
          refine sim_iconst (4 : Int32) d_X10_settle_118 rfl ?_
          refine sim_icmp_ge d_X10_settle_119 ?_ ?_
          ·
            exact sim_vret d_X10_settle_176 rfl
          ·
            refine sim_aload_n 0 d_X10_settle_122 rfl rfl ?_
            refine sim_geta d_X10_settle_123 fl_X10_35 ob_C_1 rfl ?_
            refine sim_aload_n 0 d_X10_settle_126 rfl rfl ?_
            refine sim_geta d_X10_settle_127 fl_X10_62 ob_C_1 rfl ?_
            refine sim_iload_n 2 d_X10_settle_130 rfl rfl ?_
            refine sim_iald d_X10_settle_131 ar_C_24 ?_
            refine sim_iconst (1 : Int32) d_X10_settle_132 rfl ?_
            refine sim_iadd d_X10_settle_133 ?_
            refine sim_iload 4 d_X10_settle_134 rfl ?_
            refine sim_aload_n 0 d_X10_settle_136 rfl rfl ?_
            refine sim_geta d_X10_settle_137 fl_X10_47 ob_C_1 rfl ?_
            refine sim_callVi Y_X5_holds 2 [.int ((mI M9 24 r1.toNatClampNeg) + (1 : Int32)), .int (v1), .ref 19] [] d_X10_settle_140 lk_X10_124 cv_X5_holds ob_C_5 rfl (by omega) (Nat.le_of_ble_eq_true rfl) (ct_X5_holds ((mI M9 24 r1.toNatClampNeg) + (1 : Int32)) v1 M9) (fun r5 M10 => ?_)
            refine sim_if_eq d_X10_settle_143 ?_ ?_
            ·
              exact sim_vret d_X10_settle_176 rfl
            ·
              refine sim_aload_n 0 d_X10_settle_146 rfl rfl ?_
              refine sim_geta d_X10_settle_147 fl_X10_62 ob_C_1 rfl ?_
              refine sim_iload_n 2 d_X10_settle_150 rfl rfl ?_
              refine sim_dup2_11 d_X10_settle_151 rfl rfl ?_
              refine sim_iald d_X10_settle_152 ar_C_24 ?_
              refine sim_iconst (1 : Int32) d_X10_settle_153 rfl ?_
              refine sim_iadd d_X10_settle_154 ?_
              refine sim_iast d_X10_settle_155 ar_C_24 ?_
              refine sim_nmM (fun M11 => ?_)
              refine sim_aload_n 0 d_X10_settle_156 rfl rfl ?_
              refine sim_geta d_X10_settle_157 fl_X10_65 ob_C_1 rfl ?_
              refine sim_iload_n 2 d_X10_settle_160 rfl rfl ?_
              refine sim_iload 4 d_X10_settle_161 rfl ?_
              refine sim_iast d_X10_settle_163 ar_C_25 ?_
              refine sim_nmM (fun M12 => ?_)
              refine sim_aload_n 0 d_X10_settle_164 rfl rfl ?_
              refine sim_geta d_X10_settle_165 fl_X10_43 ob_C_1 rfl ?_
              refine sim_iload_n 1 d_X10_settle_168 rfl rfl ?_
              refine sim_aload_n 0 d_X10_settle_169 rfl rfl ?_
              refine sim_geta d_X10_settle_170 fl_X10_62 ob_C_1 rfl ?_
              refine sim_iload_n 2 d_X10_settle_173 rfl rfl ?_
              refine sim_iald d_X10_settle_174 ar_C_24 ?_
              refine sim_iast d_X10_settle_175 ar_C_18 ?_
              refine sim_nmM (fun M13 => ?_)
              exact sim_vret d_X10_settle_176 rfl
        ·
          exact sim_vret d_X10_settle_101 rfl
      ·
        exact sim_vret d_X10_settle_71 rfl
    ·
      exact sim_vret d_X10_settle_20 rfl
theorem ct_X10_settle (a1 : Int32) (M : mm_M) : Ct sysC Y_X10_settle 3 [.ref 1, .int (a1)] M mm_fV (f_X10_settle a1 M) :=
  ct_of_sim (by decide) rfl (Nat.le_of_ble_eq_true rfl) (s_X10_settle a1 M)
def f_J7_fill_53178_18_5 : Nat → Int32 → Int32 → Int32 → mm_M → Option (mm_M)
  | 0, _, _, _, _ => none
  | n + 1, x1, x2, x3, M =>
  if x3 ≤ x2 then
    some M
  else
    mm_ck x2 100 (
    mm_let (sI M 18 x2.toNatClampNeg x1) (fun M1 =>
    f_J7_fill_53178_18_5 n x1 (x2 + (1 : Int32)) x3 M1))
theorem s_J7_fill_53178_18_5 (n : Nat) : ∀ (x1 : Int32) (x2 : Int32) (x3 : Int32) (M : mm_M), Sim sysC Y_J7_fill_53178 0 5 [(0, .ref 18), (1, .int (x1)), (2, .int (x2)), (3, .int (x3))] [] M mm_fV (f_J7_fill_53178_18_5 n x1 x2 x3 M) := by
  induction n with
  | zero => intros; exact sim_none
  | succ n ih =>
    intro x1 x2 x3 M
    rw [f_J7_fill_53178_18_5]
    refine sim_iload_n 2 d_J7_fill_53178_5 rfl rfl ?_
    refine sim_iload_n 3 d_J7_fill_53178_6 rfl rfl ?_
    refine sim_icmp_ge d_J7_fill_53178_7 ?_ ?_
    ·
      exact sim_vret d_J7_fill_53178_20 rfl
    ·
      refine sim_aload_n 0 d_J7_fill_53178_10 rfl rfl ?_
      refine sim_iload_n 2 d_J7_fill_53178_11 rfl rfl ?_
      refine sim_iload_n 1 d_J7_fill_53178_12 rfl rfl ?_
      refine sim_iast d_J7_fill_53178_13 ar_C_18 ?_
      refine sim_nmM (fun M1 => ?_)
      refine sim_iinc (v := x2 + (1 : Int32)) (L' := [(0, .ref 18), (1, .int (x1)), (3, .int (x3)), (2, .int (x2 + (1 : Int32)))]) 2 d_J7_fill_53178_14 (Nat.le_of_ble_eq_true rfl) rfl rfl rfl ?_
      refine sim_goto d_J7_fill_53178_17 ?_
      exact sim_sub [0, 1, 3, 2] rfl (ih x1 (x2 + (1 : Int32)) x3 M1)
def f_J7_fill_53178_18 (a2 : Int32) (M : mm_M) : Option (mm_M) :=
  f_J7_fill_53178_18_5 mm_fu a2 (0 : Int32) (100 : Int32) M
theorem s_J7_fill_53178_18 (a2 : Int32) (M : mm_M) : Sim sysC Y_J7_fill_53178 0 0 [(0, .ref 18), (1, .int (a2))] [] M mm_fV (f_J7_fill_53178_18 a2 M) := by
  unfold f_J7_fill_53178_18
  refine sim_iconst (0 : Int32) d_J7_fill_53178_0 rfl ?_
  refine sim_istore_n (L' := [(0, .ref 18), (1, .int (a2)), (2, .int ((0 : Int32)))]) d_J7_fill_53178_1 rfl (Nat.le_of_ble_eq_true rfl) rfl ?_
  refine sim_aload_n 0 d_J7_fill_53178_2 rfl rfl ?_
  refine sim_alen (100 : Int32) d_J7_fill_53178_3 ar_C_18 (Or.inl rfl) rfl ?_
  refine sim_istore_n (L' := [(0, .ref 18), (1, .int (a2)), (2, .int ((0 : Int32))), (3, .int ((100 : Int32)))]) d_J7_fill_53178_4 rfl (Nat.le_of_ble_eq_true rfl) rfl ?_
  exact sim_sub [0, 1, 2, 3] rfl (s_J7_fill_53178_18_5 mm_fu a2 (0 : Int32) (100 : Int32) M)
theorem ct_J7_fill_53178_18 (a2 : Int32) (M : mm_M) : Ct sysC Y_J7_fill_53178 0 [.ref 18, .int (a2)] M mm_fV (f_J7_fill_53178_18 a2 M) :=
  ct_of_sim (by decide) rfl (Nat.le_of_ble_eq_true rfl) (s_J7_fill_53178_18 a2 M)
def f_J7_fill_53178_20_5 : Nat → Int32 → Int32 → Int32 → mm_M → Option (mm_M)
  | 0, _, _, _, _ => none
  | n + 1, x1, x2, x3, M =>
  if x3 ≤ x2 then
    some M
  else
    mm_ck x2 320 (
    mm_let (sI M 20 x2.toNatClampNeg x1) (fun M1 =>
    f_J7_fill_53178_20_5 n x1 (x2 + (1 : Int32)) x3 M1))
theorem s_J7_fill_53178_20_5 (n : Nat) : ∀ (x1 : Int32) (x2 : Int32) (x3 : Int32) (M : mm_M), Sim sysC Y_J7_fill_53178 0 5 [(0, .ref 20), (1, .int (x1)), (2, .int (x2)), (3, .int (x3))] [] M mm_fV (f_J7_fill_53178_20_5 n x1 x2 x3 M) := by
  induction n with
  | zero => intros; exact sim_none
  | succ n ih =>
    intro x1 x2 x3 M
    rw [f_J7_fill_53178_20_5]
    refine sim_iload_n 2 d_J7_fill_53178_5 rfl rfl ?_
    refine sim_iload_n 3 d_J7_fill_53178_6 rfl rfl ?_
    refine sim_icmp_ge d_J7_fill_53178_7 ?_ ?_
    ·
      exact sim_vret d_J7_fill_53178_20 rfl
    ·
      refine sim_aload_n 0 d_J7_fill_53178_10 rfl rfl ?_
      refine sim_iload_n 2 d_J7_fill_53178_11 rfl rfl ?_
      refine sim_iload_n 1 d_J7_fill_53178_12 rfl rfl ?_
      refine sim_iast d_J7_fill_53178_13 ar_C_20 ?_
      refine sim_nmM (fun M1 => ?_)
      refine sim_iinc (v := x2 + (1 : Int32)) (L' := [(0, .ref 20), (1, .int (x1)), (3, .int (x3)), (2, .int (x2 + (1 : Int32)))]) 2 d_J7_fill_53178_14 (Nat.le_of_ble_eq_true rfl) rfl rfl rfl ?_
      refine sim_goto d_J7_fill_53178_17 ?_
      exact sim_sub [0, 1, 3, 2] rfl (ih x1 (x2 + (1 : Int32)) x3 M1)
def f_J7_fill_53178_20 (a2 : Int32) (M : mm_M) : Option (mm_M) :=
  f_J7_fill_53178_20_5 mm_fu a2 (0 : Int32) (320 : Int32) M
theorem s_J7_fill_53178_20 (a2 : Int32) (M : mm_M) : Sim sysC Y_J7_fill_53178 0 0 [(0, .ref 20), (1, .int (a2))] [] M mm_fV (f_J7_fill_53178_20 a2 M) := by
  unfold f_J7_fill_53178_20
  refine sim_iconst (0 : Int32) d_J7_fill_53178_0 rfl ?_
  refine sim_istore_n (L' := [(0, .ref 20), (1, .int (a2)), (2, .int ((0 : Int32)))]) d_J7_fill_53178_1 rfl (Nat.le_of_ble_eq_true rfl) rfl ?_
  refine sim_aload_n 0 d_J7_fill_53178_2 rfl rfl ?_
  refine sim_alen (320 : Int32) d_J7_fill_53178_3 ar_C_20 (Or.inl rfl) rfl ?_
  refine sim_istore_n (L' := [(0, .ref 20), (1, .int (a2)), (2, .int ((0 : Int32))), (3, .int ((320 : Int32)))]) d_J7_fill_53178_4 rfl (Nat.le_of_ble_eq_true rfl) rfl ?_
  exact sim_sub [0, 1, 2, 3] rfl (s_J7_fill_53178_20_5 mm_fu a2 (0 : Int32) (320 : Int32) M)
theorem ct_J7_fill_53178_20 (a2 : Int32) (M : mm_M) : Ct sysC Y_J7_fill_53178 0 [.ref 20, .int (a2)] M mm_fV (f_J7_fill_53178_20 a2 M) :=
  ct_of_sim (by decide) rfl (Nat.le_of_ble_eq_true rfl) (s_J7_fill_53178_20 a2 M)
def f_J7_fill_53178_21_5 : Nat → Int32 → Int32 → Int32 → mm_M → Option (mm_M)
  | 0, _, _, _, _ => none
  | n + 1, x1, x2, x3, M =>
  if x3 ≤ x2 then
    some M
  else
    mm_ck x2 240 (
    mm_let (sI M 21 x2.toNatClampNeg x1) (fun M1 =>
    f_J7_fill_53178_21_5 n x1 (x2 + (1 : Int32)) x3 M1))
theorem s_J7_fill_53178_21_5 (n : Nat) : ∀ (x1 : Int32) (x2 : Int32) (x3 : Int32) (M : mm_M), Sim sysC Y_J7_fill_53178 0 5 [(0, .ref 21), (1, .int (x1)), (2, .int (x2)), (3, .int (x3))] [] M mm_fV (f_J7_fill_53178_21_5 n x1 x2 x3 M) := by
  induction n with
  | zero => intros; exact sim_none
  | succ n ih =>
    intro x1 x2 x3 M
    rw [f_J7_fill_53178_21_5]
    refine sim_iload_n 2 d_J7_fill_53178_5 rfl rfl ?_
    refine sim_iload_n 3 d_J7_fill_53178_6 rfl rfl ?_
    refine sim_icmp_ge d_J7_fill_53178_7 ?_ ?_
    ·
      exact sim_vret d_J7_fill_53178_20 rfl
    ·
      refine sim_aload_n 0 d_J7_fill_53178_10 rfl rfl ?_
      refine sim_iload_n 2 d_J7_fill_53178_11 rfl rfl ?_
      refine sim_iload_n 1 d_J7_fill_53178_12 rfl rfl ?_
      refine sim_iast d_J7_fill_53178_13 ar_C_21 ?_
      refine sim_nmM (fun M1 => ?_)
      refine sim_iinc (v := x2 + (1 : Int32)) (L' := [(0, .ref 21), (1, .int (x1)), (3, .int (x3)), (2, .int (x2 + (1 : Int32)))]) 2 d_J7_fill_53178_14 (Nat.le_of_ble_eq_true rfl) rfl rfl rfl ?_
      refine sim_goto d_J7_fill_53178_17 ?_
      exact sim_sub [0, 1, 3, 2] rfl (ih x1 (x2 + (1 : Int32)) x3 M1)
def f_J7_fill_53178_21 (a2 : Int32) (M : mm_M) : Option (mm_M) :=
  f_J7_fill_53178_21_5 mm_fu a2 (0 : Int32) (240 : Int32) M
theorem s_J7_fill_53178_21 (a2 : Int32) (M : mm_M) : Sim sysC Y_J7_fill_53178 0 0 [(0, .ref 21), (1, .int (a2))] [] M mm_fV (f_J7_fill_53178_21 a2 M) := by
  unfold f_J7_fill_53178_21
  refine sim_iconst (0 : Int32) d_J7_fill_53178_0 rfl ?_
  refine sim_istore_n (L' := [(0, .ref 21), (1, .int (a2)), (2, .int ((0 : Int32)))]) d_J7_fill_53178_1 rfl (Nat.le_of_ble_eq_true rfl) rfl ?_
  refine sim_aload_n 0 d_J7_fill_53178_2 rfl rfl ?_
  refine sim_alen (240 : Int32) d_J7_fill_53178_3 ar_C_21 (Or.inl rfl) rfl ?_
  refine sim_istore_n (L' := [(0, .ref 21), (1, .int (a2)), (2, .int ((0 : Int32))), (3, .int ((240 : Int32)))]) d_J7_fill_53178_4 rfl (Nat.le_of_ble_eq_true rfl) rfl ?_
  exact sim_sub [0, 1, 2, 3] rfl (s_J7_fill_53178_21_5 mm_fu a2 (0 : Int32) (240 : Int32) M)
theorem ct_J7_fill_53178_21 (a2 : Int32) (M : mm_M) : Ct sysC Y_J7_fill_53178 0 [.ref 21, .int (a2)] M mm_fV (f_J7_fill_53178_21 a2 M) :=
  ct_of_sim (by decide) rfl (Nat.le_of_ble_eq_true rfl) (s_J7_fill_53178_21 a2 M)
def f_J7_fill_53178_22_5 : Nat → Int32 → Int32 → Int32 → mm_M → Option (mm_M)
  | 0, _, _, _, _ => none
  | n + 1, x1, x2, x3, M =>
  if x3 ≤ x2 then
    some M
  else
    mm_ck x2 240 (
    mm_let (sI M 22 x2.toNatClampNeg x1) (fun M1 =>
    f_J7_fill_53178_22_5 n x1 (x2 + (1 : Int32)) x3 M1))
theorem s_J7_fill_53178_22_5 (n : Nat) : ∀ (x1 : Int32) (x2 : Int32) (x3 : Int32) (M : mm_M), Sim sysC Y_J7_fill_53178 0 5 [(0, .ref 22), (1, .int (x1)), (2, .int (x2)), (3, .int (x3))] [] M mm_fV (f_J7_fill_53178_22_5 n x1 x2 x3 M) := by
  induction n with
  | zero => intros; exact sim_none
  | succ n ih =>
    intro x1 x2 x3 M
    rw [f_J7_fill_53178_22_5]
    refine sim_iload_n 2 d_J7_fill_53178_5 rfl rfl ?_
    refine sim_iload_n 3 d_J7_fill_53178_6 rfl rfl ?_
    refine sim_icmp_ge d_J7_fill_53178_7 ?_ ?_
    ·
      exact sim_vret d_J7_fill_53178_20 rfl
    ·
      refine sim_aload_n 0 d_J7_fill_53178_10 rfl rfl ?_
      refine sim_iload_n 2 d_J7_fill_53178_11 rfl rfl ?_
      refine sim_iload_n 1 d_J7_fill_53178_12 rfl rfl ?_
      refine sim_iast d_J7_fill_53178_13 ar_C_22 ?_
      refine sim_nmM (fun M1 => ?_)
      refine sim_iinc (v := x2 + (1 : Int32)) (L' := [(0, .ref 22), (1, .int (x1)), (3, .int (x3)), (2, .int (x2 + (1 : Int32)))]) 2 d_J7_fill_53178_14 (Nat.le_of_ble_eq_true rfl) rfl rfl rfl ?_
      refine sim_goto d_J7_fill_53178_17 ?_
      exact sim_sub [0, 1, 3, 2] rfl (ih x1 (x2 + (1 : Int32)) x3 M1)
def f_J7_fill_53178_22 (a2 : Int32) (M : mm_M) : Option (mm_M) :=
  f_J7_fill_53178_22_5 mm_fu a2 (0 : Int32) (240 : Int32) M
theorem s_J7_fill_53178_22 (a2 : Int32) (M : mm_M) : Sim sysC Y_J7_fill_53178 0 0 [(0, .ref 22), (1, .int (a2))] [] M mm_fV (f_J7_fill_53178_22 a2 M) := by
  unfold f_J7_fill_53178_22
  refine sim_iconst (0 : Int32) d_J7_fill_53178_0 rfl ?_
  refine sim_istore_n (L' := [(0, .ref 22), (1, .int (a2)), (2, .int ((0 : Int32)))]) d_J7_fill_53178_1 rfl (Nat.le_of_ble_eq_true rfl) rfl ?_
  refine sim_aload_n 0 d_J7_fill_53178_2 rfl rfl ?_
  refine sim_alen (240 : Int32) d_J7_fill_53178_3 ar_C_22 (Or.inl rfl) rfl ?_
  refine sim_istore_n (L' := [(0, .ref 22), (1, .int (a2)), (2, .int ((0 : Int32))), (3, .int ((240 : Int32)))]) d_J7_fill_53178_4 rfl (Nat.le_of_ble_eq_true rfl) rfl ?_
  exact sim_sub [0, 1, 2, 3] rfl (s_J7_fill_53178_22_5 mm_fu a2 (0 : Int32) (240 : Int32) M)
theorem ct_J7_fill_53178_22 (a2 : Int32) (M : mm_M) : Ct sysC Y_J7_fill_53178 0 [.ref 22, .int (a2)] M mm_fV (f_J7_fill_53178_22 a2 M) :=
  ct_of_sim (by decide) rfl (Nat.le_of_ble_eq_true rfl) (s_J7_fill_53178_22 a2 M)
def f_J7_fill_53178_23_5 : Nat → Int32 → Int32 → Int32 → mm_M → Option (mm_M)
  | 0, _, _, _, _ => none
  | n + 1, x1, x2, x3, M =>
  if x3 ≤ x2 then
    some M
  else
    mm_ck x2 240 (
    mm_let (sI M 23 x2.toNatClampNeg x1) (fun M1 =>
    f_J7_fill_53178_23_5 n x1 (x2 + (1 : Int32)) x3 M1))
theorem s_J7_fill_53178_23_5 (n : Nat) : ∀ (x1 : Int32) (x2 : Int32) (x3 : Int32) (M : mm_M), Sim sysC Y_J7_fill_53178 0 5 [(0, .ref 23), (1, .int (x1)), (2, .int (x2)), (3, .int (x3))] [] M mm_fV (f_J7_fill_53178_23_5 n x1 x2 x3 M) := by
  induction n with
  | zero => intros; exact sim_none
  | succ n ih =>
    intro x1 x2 x3 M
    rw [f_J7_fill_53178_23_5]
    refine sim_iload_n 2 d_J7_fill_53178_5 rfl rfl ?_
    refine sim_iload_n 3 d_J7_fill_53178_6 rfl rfl ?_
    refine sim_icmp_ge d_J7_fill_53178_7 ?_ ?_
    ·
      exact sim_vret d_J7_fill_53178_20 rfl
    ·
      refine sim_aload_n 0 d_J7_fill_53178_10 rfl rfl ?_
      refine sim_iload_n 2 d_J7_fill_53178_11 rfl rfl ?_
      refine sim_iload_n 1 d_J7_fill_53178_12 rfl rfl ?_
      refine sim_iast d_J7_fill_53178_13 ar_C_23 ?_
      refine sim_nmM (fun M1 => ?_)
      refine sim_iinc (v := x2 + (1 : Int32)) (L' := [(0, .ref 23), (1, .int (x1)), (3, .int (x3)), (2, .int (x2 + (1 : Int32)))]) 2 d_J7_fill_53178_14 (Nat.le_of_ble_eq_true rfl) rfl rfl rfl ?_
      refine sim_goto d_J7_fill_53178_17 ?_
      exact sim_sub [0, 1, 3, 2] rfl (ih x1 (x2 + (1 : Int32)) x3 M1)
def f_J7_fill_53178_23 (a2 : Int32) (M : mm_M) : Option (mm_M) :=
  f_J7_fill_53178_23_5 mm_fu a2 (0 : Int32) (240 : Int32) M
theorem s_J7_fill_53178_23 (a2 : Int32) (M : mm_M) : Sim sysC Y_J7_fill_53178 0 0 [(0, .ref 23), (1, .int (a2))] [] M mm_fV (f_J7_fill_53178_23 a2 M) := by
  unfold f_J7_fill_53178_23
  refine sim_iconst (0 : Int32) d_J7_fill_53178_0 rfl ?_
  refine sim_istore_n (L' := [(0, .ref 23), (1, .int (a2)), (2, .int ((0 : Int32)))]) d_J7_fill_53178_1 rfl (Nat.le_of_ble_eq_true rfl) rfl ?_
  refine sim_aload_n 0 d_J7_fill_53178_2 rfl rfl ?_
  refine sim_alen (240 : Int32) d_J7_fill_53178_3 ar_C_23 (Or.inl rfl) rfl ?_
  refine sim_istore_n (L' := [(0, .ref 23), (1, .int (a2)), (2, .int ((0 : Int32))), (3, .int ((240 : Int32)))]) d_J7_fill_53178_4 rfl (Nat.le_of_ble_eq_true rfl) rfl ?_
  exact sim_sub [0, 1, 2, 3] rfl (s_J7_fill_53178_23_5 mm_fu a2 (0 : Int32) (240 : Int32) M)
theorem ct_J7_fill_53178_23 (a2 : Int32) (M : mm_M) : Ct sysC Y_J7_fill_53178 0 [.ref 23, .int (a2)] M mm_fV (f_J7_fill_53178_23 a2 M) :=
  ct_of_sim (by decide) rfl (Nat.le_of_ble_eq_true rfl) (s_J7_fill_53178_23 a2 M)
def f_J7_fill_53178_24_5 : Nat → Int32 → Int32 → Int32 → mm_M → Option (mm_M)
  | 0, _, _, _, _ => none
  | n + 1, x1, x2, x3, M =>
  if x3 ≤ x2 then
    some M
  else
    mm_ck x2 240 (
    mm_let (sI M 24 x2.toNatClampNeg x1) (fun M1 =>
    f_J7_fill_53178_24_5 n x1 (x2 + (1 : Int32)) x3 M1))
theorem s_J7_fill_53178_24_5 (n : Nat) : ∀ (x1 : Int32) (x2 : Int32) (x3 : Int32) (M : mm_M), Sim sysC Y_J7_fill_53178 0 5 [(0, .ref 24), (1, .int (x1)), (2, .int (x2)), (3, .int (x3))] [] M mm_fV (f_J7_fill_53178_24_5 n x1 x2 x3 M) := by
  induction n with
  | zero => intros; exact sim_none
  | succ n ih =>
    intro x1 x2 x3 M
    rw [f_J7_fill_53178_24_5]
    refine sim_iload_n 2 d_J7_fill_53178_5 rfl rfl ?_
    refine sim_iload_n 3 d_J7_fill_53178_6 rfl rfl ?_
    refine sim_icmp_ge d_J7_fill_53178_7 ?_ ?_
    ·
      exact sim_vret d_J7_fill_53178_20 rfl
    ·
      refine sim_aload_n 0 d_J7_fill_53178_10 rfl rfl ?_
      refine sim_iload_n 2 d_J7_fill_53178_11 rfl rfl ?_
      refine sim_iload_n 1 d_J7_fill_53178_12 rfl rfl ?_
      refine sim_iast d_J7_fill_53178_13 ar_C_24 ?_
      refine sim_nmM (fun M1 => ?_)
      refine sim_iinc (v := x2 + (1 : Int32)) (L' := [(0, .ref 24), (1, .int (x1)), (3, .int (x3)), (2, .int (x2 + (1 : Int32)))]) 2 d_J7_fill_53178_14 (Nat.le_of_ble_eq_true rfl) rfl rfl rfl ?_
      refine sim_goto d_J7_fill_53178_17 ?_
      exact sim_sub [0, 1, 3, 2] rfl (ih x1 (x2 + (1 : Int32)) x3 M1)
def f_J7_fill_53178_24 (a2 : Int32) (M : mm_M) : Option (mm_M) :=
  f_J7_fill_53178_24_5 mm_fu a2 (0 : Int32) (240 : Int32) M
theorem s_J7_fill_53178_24 (a2 : Int32) (M : mm_M) : Sim sysC Y_J7_fill_53178 0 0 [(0, .ref 24), (1, .int (a2))] [] M mm_fV (f_J7_fill_53178_24 a2 M) := by
  unfold f_J7_fill_53178_24
  refine sim_iconst (0 : Int32) d_J7_fill_53178_0 rfl ?_
  refine sim_istore_n (L' := [(0, .ref 24), (1, .int (a2)), (2, .int ((0 : Int32)))]) d_J7_fill_53178_1 rfl (Nat.le_of_ble_eq_true rfl) rfl ?_
  refine sim_aload_n 0 d_J7_fill_53178_2 rfl rfl ?_
  refine sim_alen (240 : Int32) d_J7_fill_53178_3 ar_C_24 (Or.inl rfl) rfl ?_
  refine sim_istore_n (L' := [(0, .ref 24), (1, .int (a2)), (2, .int ((0 : Int32))), (3, .int ((240 : Int32)))]) d_J7_fill_53178_4 rfl (Nat.le_of_ble_eq_true rfl) rfl ?_
  exact sim_sub [0, 1, 2, 3] rfl (s_J7_fill_53178_24_5 mm_fu a2 (0 : Int32) (240 : Int32) M)
theorem ct_J7_fill_53178_24 (a2 : Int32) (M : mm_M) : Ct sysC Y_J7_fill_53178 0 [.ref 24, .int (a2)] M mm_fV (f_J7_fill_53178_24 a2 M) :=
  ct_of_sim (by decide) rfl (Nat.le_of_ble_eq_true rfl) (s_J7_fill_53178_24 a2 M)
def f_J7_fill_53178_25_5 : Nat → Int32 → Int32 → Int32 → mm_M → Option (mm_M)
  | 0, _, _, _, _ => none
  | n + 1, x1, x2, x3, M =>
  if x3 ≤ x2 then
    some M
  else
    mm_ck x2 240 (
    mm_let (sI M 25 x2.toNatClampNeg x1) (fun M1 =>
    f_J7_fill_53178_25_5 n x1 (x2 + (1 : Int32)) x3 M1))
theorem s_J7_fill_53178_25_5 (n : Nat) : ∀ (x1 : Int32) (x2 : Int32) (x3 : Int32) (M : mm_M), Sim sysC Y_J7_fill_53178 0 5 [(0, .ref 25), (1, .int (x1)), (2, .int (x2)), (3, .int (x3))] [] M mm_fV (f_J7_fill_53178_25_5 n x1 x2 x3 M) := by
  induction n with
  | zero => intros; exact sim_none
  | succ n ih =>
    intro x1 x2 x3 M
    rw [f_J7_fill_53178_25_5]
    refine sim_iload_n 2 d_J7_fill_53178_5 rfl rfl ?_
    refine sim_iload_n 3 d_J7_fill_53178_6 rfl rfl ?_
    refine sim_icmp_ge d_J7_fill_53178_7 ?_ ?_
    ·
      exact sim_vret d_J7_fill_53178_20 rfl
    ·
      refine sim_aload_n 0 d_J7_fill_53178_10 rfl rfl ?_
      refine sim_iload_n 2 d_J7_fill_53178_11 rfl rfl ?_
      refine sim_iload_n 1 d_J7_fill_53178_12 rfl rfl ?_
      refine sim_iast d_J7_fill_53178_13 ar_C_25 ?_
      refine sim_nmM (fun M1 => ?_)
      refine sim_iinc (v := x2 + (1 : Int32)) (L' := [(0, .ref 25), (1, .int (x1)), (3, .int (x3)), (2, .int (x2 + (1 : Int32)))]) 2 d_J7_fill_53178_14 (Nat.le_of_ble_eq_true rfl) rfl rfl rfl ?_
      refine sim_goto d_J7_fill_53178_17 ?_
      exact sim_sub [0, 1, 3, 2] rfl (ih x1 (x2 + (1 : Int32)) x3 M1)
def f_J7_fill_53178_25 (a2 : Int32) (M : mm_M) : Option (mm_M) :=
  f_J7_fill_53178_25_5 mm_fu a2 (0 : Int32) (240 : Int32) M
theorem s_J7_fill_53178_25 (a2 : Int32) (M : mm_M) : Sim sysC Y_J7_fill_53178 0 0 [(0, .ref 25), (1, .int (a2))] [] M mm_fV (f_J7_fill_53178_25 a2 M) := by
  unfold f_J7_fill_53178_25
  refine sim_iconst (0 : Int32) d_J7_fill_53178_0 rfl ?_
  refine sim_istore_n (L' := [(0, .ref 25), (1, .int (a2)), (2, .int ((0 : Int32)))]) d_J7_fill_53178_1 rfl (Nat.le_of_ble_eq_true rfl) rfl ?_
  refine sim_aload_n 0 d_J7_fill_53178_2 rfl rfl ?_
  refine sim_alen (240 : Int32) d_J7_fill_53178_3 ar_C_25 (Or.inl rfl) rfl ?_
  refine sim_istore_n (L' := [(0, .ref 25), (1, .int (a2)), (2, .int ((0 : Int32))), (3, .int ((240 : Int32)))]) d_J7_fill_53178_4 rfl (Nat.le_of_ble_eq_true rfl) rfl ?_
  exact sim_sub [0, 1, 2, 3] rfl (s_J7_fill_53178_25_5 mm_fu a2 (0 : Int32) (240 : Int32) M)
theorem ct_J7_fill_53178_25 (a2 : Int32) (M : mm_M) : Ct sysC Y_J7_fill_53178 0 [.ref 25, .int (a2)] M mm_fV (f_J7_fill_53178_25 a2 M) :=
  ct_of_sim (by decide) rfl (Nat.le_of_ble_eq_true rfl) (s_J7_fill_53178_25 a2 M)
def f_X10_forget_2 (k21 : mm_M → Option (mm_M)) : Nat → Int32 → mm_M → Option (mm_M)
  | 0, _, _ => none
  | n + 1, x1, M =>
  if (100 : Int32) ≤ x1 then
    k21 M
  else
    mm_ck x1 100 (
    mm_let (sI M 17 x1.toNatClampNeg ((0 : Int32) &&& 1)) (fun M1 =>
    f_X10_forget_2 k21 n (x1 + (1 : Int32)) M1))
theorem s_X10_forget_2 (k21 : mm_M → Option (mm_M)) (hk21 : ∀  (M : mm_M), Sim sysC Y_X10_forget 1 21 [(0, .ref 1)] [] M mm_fV (k21 M)) (n : Nat) : ∀ (x1 : Int32) (M : mm_M), Sim sysC Y_X10_forget 1 2 [(0, .ref 1), (1, .int (x1))] [] M mm_fV (f_X10_forget_2 k21 n x1 M) := by
  induction n with
  | zero => intros; exact sim_none
  | succ n ih =>
    intro x1 M
    rw [f_X10_forget_2]
    refine sim_iload_n 1 d_X10_forget_2 rfl rfl ?_
    refine sim_bipush (100 : Int32) d_X10_forget_3 rfl ?_
    refine sim_icmp_ge d_X10_forget_5 ?_ ?_
    ·
      exact sim_sub [0] rfl (hk21 M)
    ·
      refine sim_aload_n 0 d_X10_forget_8 rfl rfl ?_
      refine sim_geta d_X10_forget_9 fl_X10_39 ob_C_1 rfl ?_
      refine sim_iload_n 1 d_X10_forget_12 rfl rfl ?_
      refine sim_iconst (0 : Int32) d_X10_forget_13 rfl ?_
      refine sim_zast d_X10_forget_14 ar_C_17 ?_
      refine sim_nmM (fun M1 => ?_)
      refine sim_iinc (v := x1 + (1 : Int32)) (L' := [(0, .ref 1), (1, .int (x1 + (1 : Int32)))]) 1 d_X10_forget_15 (Nat.le_of_ble_eq_true rfl) rfl rfl rfl ?_
      refine sim_goto d_X10_forget_18 ?_
      exact sim_sub [0, 1] rfl (ih (x1 + (1 : Int32)) M1)
def f_X10_forget_21 (M : mm_M) : Option (mm_M) :=
  mm_bv (f_J7_fill_53178_18 (0 : Int32) M) (fun M1 =>
  mm_bv (f_J7_fill_53178_20 (0 : Int32) M1) (fun M2 =>
  mm_bv (f_J7_fill_53178_21 (0 : Int32) M2) (fun M3 =>
  mm_bv (f_J7_fill_53178_22 (0 : Int32) M3) (fun M4 =>
  mm_bv (f_J7_fill_53178_23 (-1 : Int32) M4) (fun M5 =>
  mm_bv (f_J7_fill_53178_24 (0 : Int32) M5) (fun M6 =>
  mm_bv (f_J7_fill_53178_25 (-1 : Int32) M6) (fun M7 =>
  some M7)))))))
theorem s_X10_forget_21 (M : mm_M) : Sim sysC Y_X10_forget 1 21 [(0, .ref 1)] [] M mm_fV (f_X10_forget_21 M) := by
  unfold f_X10_forget_21
  refine sim_aload_n 0 d_X10_forget_21 rfl rfl ?_
  refine sim_geta d_X10_forget_22 fl_X10_43 ob_C_1 rfl ?_
  refine sim_iconst (0 : Int32) d_X10_forget_25 rfl ?_
  refine sim_callSv Y_J7_fill_53178 0 [.ref 18, .int ((0 : Int32))] [] d_X10_forget_26 lk_X10_86 cs_J7_fill_53178 rfl (by omega) (Nat.le_of_ble_eq_true rfl) (ct_J7_fill_53178_18 (0 : Int32) M) (fun M1 => ?_)
  refine sim_aload_n 0 d_X10_forget_29 rfl rfl ?_
  refine sim_geta d_X10_forget_30 fl_X10_50 ob_C_1 rfl ?_
  refine sim_iconst (0 : Int32) d_X10_forget_33 rfl ?_
  refine sim_callSv Y_J7_fill_53178 0 [.ref 20, .int ((0 : Int32))] [] d_X10_forget_34 lk_X10_86 cs_J7_fill_53178 rfl (by omega) (Nat.le_of_ble_eq_true rfl) (ct_J7_fill_53178_20 (0 : Int32) M1) (fun M2 => ?_)
  refine sim_aload_n 0 d_X10_forget_37 rfl rfl ?_
  refine sim_geta d_X10_forget_38 fl_X10_53 ob_C_1 rfl ?_
  refine sim_iconst (0 : Int32) d_X10_forget_41 rfl ?_
  refine sim_callSv Y_J7_fill_53178 0 [.ref 21, .int ((0 : Int32))] [] d_X10_forget_42 lk_X10_86 cs_J7_fill_53178 rfl (by omega) (Nat.le_of_ble_eq_true rfl) (ct_J7_fill_53178_21 (0 : Int32) M2) (fun M3 => ?_)
  refine sim_aload_n 0 d_X10_forget_45 rfl rfl ?_
  refine sim_geta d_X10_forget_46 fl_X10_56 ob_C_1 rfl ?_
  refine sim_iconst (0 : Int32) d_X10_forget_49 rfl ?_
  refine sim_callSv Y_J7_fill_53178 0 [.ref 22, .int ((0 : Int32))] [] d_X10_forget_50 lk_X10_86 cs_J7_fill_53178 rfl (by omega) (Nat.le_of_ble_eq_true rfl) (ct_J7_fill_53178_22 (0 : Int32) M3) (fun M4 => ?_)
  refine sim_aload_n 0 d_X10_forget_53 rfl rfl ?_
  refine sim_geta d_X10_forget_54 fl_X10_59 ob_C_1 rfl ?_
  refine sim_iconst (-1 : Int32) d_X10_forget_57 rfl ?_
  refine sim_callSv Y_J7_fill_53178 0 [.ref 23, .int ((-1 : Int32))] [] d_X10_forget_58 lk_X10_86 cs_J7_fill_53178 rfl (by omega) (Nat.le_of_ble_eq_true rfl) (ct_J7_fill_53178_23 (-1 : Int32) M4) (fun M5 => ?_)
  refine sim_aload_n 0 d_X10_forget_61 rfl rfl ?_
  refine sim_geta d_X10_forget_62 fl_X10_62 ob_C_1 rfl ?_
  refine sim_iconst (0 : Int32) d_X10_forget_65 rfl ?_
  refine sim_callSv Y_J7_fill_53178 0 [.ref 24, .int ((0 : Int32))] [] d_X10_forget_66 lk_X10_86 cs_J7_fill_53178 rfl (by omega) (Nat.le_of_ble_eq_true rfl) (ct_J7_fill_53178_24 (0 : Int32) M5) (fun M6 => ?_)
  refine sim_aload_n 0 d_X10_forget_69 rfl rfl ?_
  refine sim_geta d_X10_forget_70 fl_X10_65 ob_C_1 rfl ?_
  refine sim_iconst (-1 : Int32) d_X10_forget_73 rfl ?_
  refine sim_callSv Y_J7_fill_53178 0 [.ref 25, .int ((-1 : Int32))] [] d_X10_forget_74 lk_X10_86 cs_J7_fill_53178 rfl (by omega) (Nat.le_of_ble_eq_true rfl) (ct_J7_fill_53178_25 (-1 : Int32) M6) (fun M7 => ?_)
  exact sim_vret d_X10_forget_77 rfl
def f_X10_forget (M : mm_M) : Option (mm_M) :=
  f_X10_forget_2 f_X10_forget_21 mm_fu (0 : Int32) M
theorem s_X10_forget (M : mm_M) : Sim sysC Y_X10_forget 1 0 [(0, .ref 1)] [] M mm_fV (f_X10_forget M) := by
  unfold f_X10_forget
  refine sim_iconst (0 : Int32) d_X10_forget_0 rfl ?_
  refine sim_istore_n (L' := [(0, .ref 1), (1, .int ((0 : Int32)))]) d_X10_forget_1 rfl (Nat.le_of_ble_eq_true rfl) rfl ?_
  exact sim_sub [0, 1] rfl (s_X10_forget_2 f_X10_forget_21 s_X10_forget_21 mm_fu (0 : Int32) M)
theorem ct_X10_forget (M : mm_M) : Ct sysC Y_X10_forget 1 [.ref 1] M mm_fV (f_X10_forget M) :=
  ct_of_sim (by decide) rfl (Nat.le_of_ble_eq_true rfl) (s_X10_forget M)
def f_X10_weigh_44 (k6 : Int32 → Int32 → Int32 → mm_M → Option (mm_M)) (x1 : Int32) (x2 : Int32) (x3 : Int32) (M : mm_M) : Option (mm_M) :=
  k6 x1 x2 (x3 + (1 : Int32)) M
theorem s_X10_weigh_44 (k6 : Int32 → Int32 → Int32 → mm_M → Option (mm_M)) (hk6 : ∀ (x1 : Int32) (x2 : Int32) (x3 : Int32) (M : mm_M), Sim sysC Y_X10_weigh 4 6 [(0, .ref 1), (1, .int (x1)), (2, .int (x2)), (3, .int (x3))] [] M mm_fV (k6 x1 x2 x3 M)) (x1 : Int32) (x2 : Int32) (x3 : Int32) (M : mm_M) : Sim sysC Y_X10_weigh 4 44 [(0, .ref 1), (1, .int (x1)), (2, .int (x2)), (3, .int (x3))] [] M mm_fV (f_X10_weigh_44 k6 x1 x2 x3 M) := by
  unfold f_X10_weigh_44
  refine sim_iinc (v := x3 + (1 : Int32)) (L' := [(0, .ref 1), (1, .int (x1)), (2, .int (x2)), (3, .int (x3 + (1 : Int32)))]) 3 d_X10_weigh_44 (Nat.le_of_ble_eq_true rfl) rfl rfl rfl ?_
  refine sim_goto d_X10_weigh_47 ?_
  exact sim_sub [0, 1, 2, 3] rfl (hk6 x1 x2 (x3 + (1 : Int32)) M)
def f_X10_weigh_6 : Nat → Int32 → Int32 → Int32 → mm_M → Option (mm_M)
  | 0, _, _, _, _ => none
  | n + 1, x1, x2, x3, M =>
  if x2 ≤ x3 then
    some M
  else
    if (mI M 4 7) ≤ x3 then
      some M
    else
      mm_bi (f_X9_countsAsOf x3 x1 M) (fun r1 M1 =>
      if r1 = 0 then
        f_X10_weigh_44 (f_X10_weigh_6 n) x1 x2 x3 M1
      else
        mm_bv (f_X10_gather x3 M1) (fun M2 =>
        mm_bv (f_X10_settle x3 M2) (fun M3 =>
        f_X10_weigh_44 (f_X10_weigh_6 n) x1 x2 x3 M3)))
theorem s_X10_weigh_6 (n : Nat) : ∀ (x1 : Int32) (x2 : Int32) (x3 : Int32) (M : mm_M), Sim sysC Y_X10_weigh 4 6 [(0, .ref 1), (1, .int (x1)), (2, .int (x2)), (3, .int (x3))] [] M mm_fV (f_X10_weigh_6 n x1 x2 x3 M) := by
  induction n with
  | zero => intros; exact sim_none
  | succ n ih =>
    intro x1 x2 x3 M
    rw [f_X10_weigh_6]
    refine sim_iload_n 3 d_X10_weigh_6 rfl rfl ?_
    refine sim_iload_n 2 d_X10_weigh_7 rfl rfl ?_
    refine sim_icmp_ge d_X10_weigh_8 ?_ ?_
    ·
      exact sim_vret d_X10_weigh_50 rfl
    ·
      refine sim_iload_n 3 d_X10_weigh_11 rfl rfl ?_
      refine sim_aload_n 0 d_X10_weigh_12 rfl rfl ?_
      refine sim_geta d_X10_weigh_13 fl_X10_28 ob_C_1 rfl ?_
      refine sim_geti d_X10_weigh_16 fl_X10_71 ob_C_4 rfl ?_
      refine sim_icmp_ge d_X10_weigh_19 ?_ ?_
      ·
        exact sim_vret d_X10_weigh_50 rfl
      ·
        refine sim_aload_n 0 d_X10_weigh_22 rfl rfl ?_
        refine sim_geta d_X10_weigh_23 fl_X10_28 ob_C_1 rfl ?_
        refine sim_iload_n 3 d_X10_weigh_26 rfl rfl ?_
        refine sim_iload_n 1 d_X10_weigh_27 rfl rfl ?_
        refine sim_callVi Y_X9_countsAsOf 1 [.int (x3), .int (x1)] [] d_X10_weigh_28 lk_X10_75 cv_X9_countsAsOf ob_C_4 rfl (by omega) (Nat.le_of_ble_eq_true rfl) (ct_X9_countsAsOf x3 x1 M) (fun r1 M1 => ?_)
        refine sim_if_eq d_X10_weigh_31 ?_ ?_
        ·
          exact sim_sub [0, 1, 2, 3] rfl (s_X10_weigh_44 (f_X10_weigh_6 n) ih x1 x2 x3 M1)
        ·
          refine sim_aload_n 0 d_X10_weigh_34 rfl rfl ?_
          refine sim_iload_n 3 d_X10_weigh_35 rfl rfl ?_
          refine sim_callVv Y_X10_gather 3 [.int (x3)] [] d_X10_weigh_36 lk_X10_79 cv_X10_gather ob_C_1 rfl (by omega) (Nat.le_of_ble_eq_true rfl) (ct_X10_gather x3 M1) (fun M2 => ?_)
          refine sim_aload_n 0 d_X10_weigh_39 rfl rfl ?_
          refine sim_iload_n 3 d_X10_weigh_40 rfl rfl ?_
          refine sim_callVv Y_X10_settle 3 [.int (x3)] [] d_X10_weigh_41 lk_X10_83 cv_X10_settle ob_C_1 rfl (by omega) (Nat.le_of_ble_eq_true rfl) (ct_X10_settle x3 M2) (fun M3 => ?_)
          exact sim_sub [0, 1, 2, 3] rfl (s_X10_weigh_44 (f_X10_weigh_6 n) ih x1 x2 x3 M3)
def f_X10_weigh (a1 : Int32) (a2 : Int32) (M : mm_M) : Option (mm_M) :=
  mm_bv (f_X10_forget M) (fun M1 =>
  f_X10_weigh_6 mm_fu a1 a2 (0 : Int32) M1)
theorem s_X10_weigh (a1 : Int32) (a2 : Int32) (M : mm_M) : Sim sysC Y_X10_weigh 4 0 [(0, .ref 1), (1, .int (a1)), (2, .int (a2))] [] M mm_fV (f_X10_weigh a1 a2 M) := by
  unfold f_X10_weigh
  refine sim_aload_n 0 d_X10_weigh_0 rfl rfl ?_
  refine sim_callVv Y_X10_forget 1 [] [] d_X10_weigh_1 lk_X10_68 cv_X10_forget ob_C_1 rfl (by omega) (Nat.le_of_ble_eq_true rfl) (ct_X10_forget M) (fun M1 => ?_)
  refine sim_iconst (0 : Int32) d_X10_weigh_4 rfl ?_
  refine sim_istore_n (L' := [(0, .ref 1), (1, .int (a1)), (2, .int (a2)), (3, .int ((0 : Int32)))]) d_X10_weigh_5 rfl (Nat.le_of_ble_eq_true rfl) rfl ?_
  exact sim_sub [0, 1, 2, 3] rfl (s_X10_weigh_6 mm_fu a1 a2 (0 : Int32) M1)
theorem ct_X10_weigh (a1 : Int32) (a2 : Int32) (M : mm_M) : Ct sysC Y_X10_weigh 4 [.ref 1, .int (a1), .int (a2)] M mm_fV (f_X10_weigh a1 a2 M) :=
  ct_of_sim (by decide) rfl (Nat.le_of_ble_eq_true rfl) (s_X10_weigh a1 a2 M)
def f_X11_testOf_26 (M : mm_M) : Option (Int32 × mm_M) :=
  mm_bi (f_X11_refuse (-2 : Int32) M) (fun r1 M1 =>
  some (r1, M1))
theorem s_X11_testOf_26 (M : mm_M) : Sim sysC Y_X11_testOf 5 26 [(0, .ref 0)] [] M mm_fI (f_X11_testOf_26 M) := by
  unfold f_X11_testOf_26
  refine sim_aload_n 0 d_X11_testOf_26 rfl rfl ?_
  refine sim_bipush (-2 : Int32) d_X11_testOf_27 rfl ?_
  refine sim_callVi Y_X11_refuse 0 [.int ((-2 : Int32))] [] d_X11_testOf_29 lk_X11_108 cv_X11_refuse ob_C_0 rfl (by omega) (Nat.le_of_ble_eq_true rfl) (ct_X11_refuse (-2 : Int32) M) (fun r1 M1 => ?_)
  exact sim_iret d_X11_testOf_32 rfl
def f_X11_testOf (a1 : Int32) (a2 : Int32) (a3 : Int32) (M : mm_M) : Option (Int32 × mm_M) :=
  mm_bi (f_X9_has a1 M) (fun r1 M1 =>
  if r1 = 0 then
    mm_bi (f_X11_refuse (-1 : Int32) M1) (fun r5 M6 =>
    some (r5, M6))
  else
    if a3 < 0 then
      f_X11_testOf_26 M1
    else
      if a3 ≤ (2 : Int32) then
        mm_bi (f_X11_outside a2 (0 : Int32) (2000 : Int32) M1) (fun r2 M2 =>
        if r2 = 0 then
          if a3 = 0 then
            mm_bi (f_X9_countsAsOf a1 a2 M2) (fun r3 M4 =>
            if r3 = 0 then
              some ((0 : Int32), M4)
            else
              some ((1 : Int32), M4))
          else
            mm_bv (f_X10_weigh a2 (a1 + (1 : Int32)) M2) (fun M3 =>
            if a3 = (1 : Int32) then
              mm_ck a1 100 (
              if (mI M3 17 a1.toNatClampNeg) = 0 then
                some ((0 : Int32), M3)
              else
                some ((1 : Int32), M3))
            else
              mm_ck a1 100 (
              some (mI M3 18 a1.toNatClampNeg, M3)))
        else
          mm_bi (f_X11_refuse r2 M2) (fun r4 M5 =>
          some (r4, M5)))
      else
        f_X11_testOf_26 M1)
theorem s_X11_testOf (a1 : Int32) (a2 : Int32) (a3 : Int32) (M : mm_M) : Sim sysC Y_X11_testOf 5 0 [(0, .ref 0), (1, .int (a1)), (2, .int (a2)), (3, .int (a3))] [] M mm_fI (f_X11_testOf a1 a2 a3 M) := by
  unfold f_X11_testOf
  refine sim_aload_n 0 d_X11_testOf_0 rfl rfl ?_
  refine sim_geta d_X11_testOf_1 fl_X11_30 ob_C_0 rfl ?_
  refine sim_iload_n 1 d_X11_testOf_4 rfl rfl ?_
  refine sim_callVi Y_X9_has 0 [.int (a1)] [] d_X11_testOf_5 lk_X11_264 cv_X9_has ob_C_4 rfl (by omega) (Nat.le_of_ble_eq_true rfl) (ct_X9_has a1 M) (fun r1 M1 => ?_)
  refine sim_if_ne d_X11_testOf_8 ?_ ?_
  ·
    refine sim_iload_n 3 d_X11_testOf_17 rfl rfl ?_
    refine sim_if_lt d_X11_testOf_18 ?_ ?_
    ·
      exact sim_sub [0] rfl (s_X11_testOf_26 M1)
    ·
      refine sim_iload_n 3 d_X11_testOf_21 rfl rfl ?_
      refine sim_iconst (2 : Int32) d_X11_testOf_22 rfl ?_
      refine sim_icmp_le d_X11_testOf_23 ?_ ?_
      ·
        refine sim_iload_n 2 d_X11_testOf_33 rfl rfl ?_
        refine sim_iconst (0 : Int32) d_X11_testOf_34 rfl ?_
        refine sim_sipush (2000 : Int32) d_X11_testOf_35 rfl ?_
        refine sim_callSi Y_X11_outside 0 [.int (a2), .int ((0 : Int32)), .int ((2000 : Int32))] [] d_X11_testOf_38 lk_X11_131 cs_X11_outside rfl (by omega) (Nat.le_of_ble_eq_true rfl) (ct_X11_outside a2 (0 : Int32) (2000 : Int32) M1) (fun r2 M2 => ?_)
        refine sim_istore (L' := [(0, .ref 0), (1, .int (a1)), (2, .int (a2)), (3, .int (a3)), (4, .int (r2))]) d_X11_testOf_41 (Nat.le_of_ble_eq_true rfl) rfl ?_
        refine sim_iload 4 d_X11_testOf_43 rfl ?_
        refine sim_if_eq d_X11_testOf_45 ?_ ?_
        ·
          refine sim_iload_n 3 d_X11_testOf_55 rfl rfl ?_
          refine sim_if_ne d_X11_testOf_56 ?_ ?_
          ·
            refine sim_aload_n 0 d_X11_testOf_77 rfl rfl ?_
            refine sim_geta d_X11_testOf_78 fl_X11_10 ob_C_0 rfl ?_
            refine sim_iload_n 2 d_X11_testOf_81 rfl rfl ?_
            refine sim_iload_n 1 d_X11_testOf_82 rfl rfl ?_
            refine sim_iconst (1 : Int32) d_X11_testOf_83 rfl ?_
            refine sim_iadd d_X11_testOf_84 ?_
            refine sim_callVv Y_X10_weigh 4 [.int (a2), .int (a1 + (1 : Int32))] [] d_X11_testOf_85 lk_X11_274 cv_X10_weigh ob_C_1 rfl (by omega) (Nat.le_of_ble_eq_true rfl) (ct_X10_weigh a2 (a1 + (1 : Int32)) M2) (fun M3 => ?_)
            refine sim_iload_n 3 d_X11_testOf_88 rfl rfl ?_
            refine sim_iconst (1 : Int32) d_X11_testOf_89 rfl ?_
            refine sim_icmp_ne d_X11_testOf_90 ?_ ?_
            ·
              refine sim_aload_n 0 d_X11_testOf_111 rfl rfl ?_
              refine sim_geta d_X11_testOf_112 fl_X11_10 ob_C_0 rfl ?_
              refine sim_geta d_X11_testOf_115 fl_X11_281 ob_C_1 rfl ?_
              refine sim_iload_n 1 d_X11_testOf_118 rfl rfl ?_
              refine sim_iald d_X11_testOf_119 ar_C_18 ?_
              exact sim_iret d_X11_testOf_120 rfl
            ·
              refine sim_aload_n 0 d_X11_testOf_93 rfl rfl ?_
              refine sim_geta d_X11_testOf_94 fl_X11_10 ob_C_0 rfl ?_
              refine sim_geta d_X11_testOf_97 fl_X11_278 ob_C_1 rfl ?_
              refine sim_iload_n 1 d_X11_testOf_100 rfl rfl ?_
              refine sim_zald d_X11_testOf_101 ar_C_17 ?_
              refine sim_if_eq d_X11_testOf_102 ?_ ?_
              ·
                refine sim_iconst (0 : Int32) d_X11_testOf_109 rfl ?_
                exact sim_iret d_X11_testOf_110 rfl
              ·
                refine sim_iconst (1 : Int32) d_X11_testOf_105 rfl ?_
                refine sim_goto d_X11_testOf_106 ?_
                exact sim_iret d_X11_testOf_110 rfl
          ·
            refine sim_aload_n 0 d_X11_testOf_59 rfl rfl ?_
            refine sim_geta d_X11_testOf_60 fl_X11_30 ob_C_0 rfl ?_
            refine sim_iload_n 1 d_X11_testOf_63 rfl rfl ?_
            refine sim_iload_n 2 d_X11_testOf_64 rfl rfl ?_
            refine sim_callVi Y_X9_countsAsOf 1 [.int (a1), .int (a2)] [] d_X11_testOf_65 lk_X11_271 cv_X9_countsAsOf ob_C_4 rfl (by omega) (Nat.le_of_ble_eq_true rfl) (ct_X9_countsAsOf a1 a2 M2) (fun r3 M4 => ?_)
            refine sim_if_eq d_X11_testOf_68 ?_ ?_
            ·
              refine sim_iconst (0 : Int32) d_X11_testOf_75 rfl ?_
              exact sim_iret d_X11_testOf_76 rfl
            ·
              refine sim_iconst (1 : Int32) d_X11_testOf_71 rfl ?_
              refine sim_goto d_X11_testOf_72 ?_
              exact sim_iret d_X11_testOf_76 rfl
        ·
          refine sim_aload_n 0 d_X11_testOf_48 rfl rfl ?_
          refine sim_iload 4 d_X11_testOf_49 rfl ?_
          refine sim_callVi Y_X11_refuse 0 [.int (r2)] [] d_X11_testOf_51 lk_X11_108 cv_X11_refuse ob_C_0 rfl (by omega) (Nat.le_of_ble_eq_true rfl) (ct_X11_refuse r2 M2) (fun r4 M5 => ?_)
          exact sim_iret d_X11_testOf_54 rfl
      ·
        exact sim_sub [0] rfl (s_X11_testOf_26 M1)
  ·
    refine sim_aload_n 0 d_X11_testOf_11 rfl rfl ?_
    refine sim_iconst (-1 : Int32) d_X11_testOf_12 rfl ?_
    refine sim_callVi Y_X11_refuse 0 [.int ((-1 : Int32))] [] d_X11_testOf_13 lk_X11_108 cv_X11_refuse ob_C_0 rfl (by omega) (Nat.le_of_ble_eq_true rfl) (ct_X11_refuse (-1 : Int32) M1) (fun r5 M6 => ?_)
    exact sim_iret d_X11_testOf_16 rfl
theorem ct_X11_testOf (a1 : Int32) (a2 : Int32) (a3 : Int32) (M : mm_M) : Ct sysC Y_X11_testOf 5 [.ref 0, .int (a1), .int (a2), .int (a3)] M mm_fI (f_X11_testOf a1 a2 a3 M) :=
  ct_of_sim (by decide) rfl (Nat.le_of_ble_eq_true rfl) (s_X11_testOf a1 a2 a3 M)
def f_X11_fact (a1 : Int32) (a2 : Int32) (a3 : Int32) (M : mm_M) : Option (Int32 × mm_M) :=
  mm_bi (f_X9_has a1 M) (fun r1 M1 =>
  if r1 = 0 then
    mm_bi (f_X11_refuse (-1 : Int32) M1) (fun r8 M10 =>
    some (r8, M10))
  else
    mm_bi (f_X11_isFact a3 M1) (fun r2 M2 =>
    if r2 = 0 then
      mm_bi (f_X11_refuse (-2 : Int32) M2) (fun r7 M9 =>
      some (r7, M9))
    else
      mm_bi (f_X11_outside a2 (0 : Int32) (2000 : Int32) M2) (fun r3 M3 =>
      if r3 = 0 then
        mm_bi (f_X9_countsAsOf a1 a2 M3) (fun r4 M4 =>
        if r4 = 0 then
          mm_bi (f_X11_refuse (-3 : Int32) M4) (fun r5 M7 =>
          some (r5, M7))
        else
          mm_bv (f_X10_weigh a2 a1 M4) (fun M5 =>
          mm_bv (f_X10_gather a1 M5) (fun M6 =>
          mm_ck (a3 - (97 : Int32)) 26 (
          some (mI M6 19 (a3 - (97 : Int32)).toNatClampNeg, M6)))))
      else
        mm_bi (f_X11_refuse r3 M3) (fun r6 M8 =>
        some (r6, M8)))))
theorem s_X11_fact (a1 : Int32) (a2 : Int32) (a3 : Int32) (M : mm_M) : Sim sysC Y_X11_fact 5 0 [(0, .ref 0), (1, .int (a1)), (2, .int (a2)), (3, .int (a3))] [] M mm_fI (f_X11_fact a1 a2 a3 M) := by
  unfold f_X11_fact
  refine sim_aload_n 0 d_X11_fact_0 rfl rfl ?_
  refine sim_geta d_X11_fact_1 fl_X11_30 ob_C_0 rfl ?_
  refine sim_iload_n 1 d_X11_fact_4 rfl rfl ?_
  refine sim_callVi Y_X9_has 0 [.int (a1)] [] d_X11_fact_5 lk_X11_264 cv_X9_has ob_C_4 rfl (by omega) (Nat.le_of_ble_eq_true rfl) (ct_X9_has a1 M) (fun r1 M1 => ?_)
  refine sim_if_ne d_X11_fact_8 ?_ ?_
  ·
    refine sim_iload_n 3 d_X11_fact_17 rfl rfl ?_
    refine sim_callSi Y_X11_isFact 0 [.int (a3)] [] d_X11_fact_18 lk_X11_284 cs_X11_isFact rfl (by omega) (Nat.le_of_ble_eq_true rfl) (ct_X11_isFact a3 M1) (fun r2 M2 => ?_)
    refine sim_if_ne d_X11_fact_21 ?_ ?_
    ·
      refine sim_iload_n 2 d_X11_fact_31 rfl rfl ?_
      refine sim_iconst (0 : Int32) d_X11_fact_32 rfl ?_
      refine sim_sipush (2000 : Int32) d_X11_fact_33 rfl ?_
      refine sim_callSi Y_X11_outside 0 [.int (a2), .int ((0 : Int32)), .int ((2000 : Int32))] [] d_X11_fact_36 lk_X11_131 cs_X11_outside rfl (by omega) (Nat.le_of_ble_eq_true rfl) (ct_X11_outside a2 (0 : Int32) (2000 : Int32) M2) (fun r3 M3 => ?_)
      refine sim_istore (L' := [(0, .ref 0), (1, .int (a1)), (2, .int (a2)), (3, .int (a3)), (4, .int (r3))]) d_X11_fact_39 (Nat.le_of_ble_eq_true rfl) rfl ?_
      refine sim_iload 4 d_X11_fact_41 rfl ?_
      refine sim_if_eq d_X11_fact_43 ?_ ?_
      ·
        refine sim_aload_n 0 d_X11_fact_53 rfl rfl ?_
        refine sim_geta d_X11_fact_54 fl_X11_30 ob_C_0 rfl ?_
        refine sim_iload_n 1 d_X11_fact_57 rfl rfl ?_
        refine sim_iload_n 2 d_X11_fact_58 rfl rfl ?_
        refine sim_callVi Y_X9_countsAsOf 1 [.int (a1), .int (a2)] [] d_X11_fact_59 lk_X11_271 cv_X9_countsAsOf ob_C_4 rfl (by omega) (Nat.le_of_ble_eq_true rfl) (ct_X9_countsAsOf a1 a2 M3) (fun r4 M4 => ?_)
        refine sim_if_ne d_X11_fact_62 ?_ ?_
        ·
          refine sim_aload_n 0 d_X11_fact_72 rfl rfl ?_
          refine sim_geta d_X11_fact_73 fl_X11_10 ob_C_0 rfl ?_
          refine sim_iload_n 2 d_X11_fact_76 rfl rfl ?_
          refine sim_iload_n 1 d_X11_fact_77 rfl rfl ?_
          refine sim_callVv Y_X10_weigh 4 [.int (a2), .int (a1)] [] d_X11_fact_78 lk_X11_274 cv_X10_weigh ob_C_1 rfl (by omega) (Nat.le_of_ble_eq_true rfl) (ct_X10_weigh a2 a1 M4) (fun M5 => ?_)
          refine sim_aload_n 0 d_X11_fact_81 rfl rfl ?_
          refine sim_geta d_X11_fact_82 fl_X11_10 ob_C_0 rfl ?_
          refine sim_iload_n 1 d_X11_fact_85 rfl rfl ?_
          refine sim_callVv Y_X10_gather 3 [.int (a1)] [] d_X11_fact_86 lk_X11_287 cv_X10_gather ob_C_1 rfl (by omega) (Nat.le_of_ble_eq_true rfl) (ct_X10_gather a1 M5) (fun M6 => ?_)
          refine sim_aload_n 0 d_X11_fact_89 rfl rfl ?_
          refine sim_geta d_X11_fact_90 fl_X11_10 ob_C_0 rfl ?_
          refine sim_geta d_X11_fact_93 fl_X11_291 ob_C_1 rfl ?_
          refine sim_iload_n 3 d_X11_fact_96 rfl rfl ?_
          refine sim_bipush (97 : Int32) d_X11_fact_97 rfl ?_
          refine sim_isub d_X11_fact_99 ?_
          refine sim_iald d_X11_fact_100 ar_C_19 ?_
          exact sim_iret d_X11_fact_101 rfl
        ·
          refine sim_aload_n 0 d_X11_fact_65 rfl rfl ?_
          refine sim_bipush (-3 : Int32) d_X11_fact_66 rfl ?_
          refine sim_callVi Y_X11_refuse 0 [.int ((-3 : Int32))] [] d_X11_fact_68 lk_X11_108 cv_X11_refuse ob_C_0 rfl (by omega) (Nat.le_of_ble_eq_true rfl) (ct_X11_refuse (-3 : Int32) M4) (fun r5 M7 => ?_)
          exact sim_iret d_X11_fact_71 rfl
      ·
        refine sim_aload_n 0 d_X11_fact_46 rfl rfl ?_
        refine sim_iload 4 d_X11_fact_47 rfl ?_
        refine sim_callVi Y_X11_refuse 0 [.int (r3)] [] d_X11_fact_49 lk_X11_108 cv_X11_refuse ob_C_0 rfl (by omega) (Nat.le_of_ble_eq_true rfl) (ct_X11_refuse r3 M3) (fun r6 M8 => ?_)
        exact sim_iret d_X11_fact_52 rfl
    ·
      refine sim_aload_n 0 d_X11_fact_24 rfl rfl ?_
      refine sim_bipush (-2 : Int32) d_X11_fact_25 rfl ?_
      refine sim_callVi Y_X11_refuse 0 [.int ((-2 : Int32))] [] d_X11_fact_27 lk_X11_108 cv_X11_refuse ob_C_0 rfl (by omega) (Nat.le_of_ble_eq_true rfl) (ct_X11_refuse (-2 : Int32) M2) (fun r7 M9 => ?_)
      exact sim_iret d_X11_fact_30 rfl
  ·
    refine sim_aload_n 0 d_X11_fact_11 rfl rfl ?_
    refine sim_iconst (-1 : Int32) d_X11_fact_12 rfl ?_
    refine sim_callVi Y_X11_refuse 0 [.int ((-1 : Int32))] [] d_X11_fact_13 lk_X11_108 cv_X11_refuse ob_C_0 rfl (by omega) (Nat.le_of_ble_eq_true rfl) (ct_X11_refuse (-1 : Int32) M1) (fun r8 M10 => ?_)
    exact sim_iret d_X11_fact_16 rfl
theorem ct_X11_fact (a1 : Int32) (a2 : Int32) (a3 : Int32) (M : mm_M) : Ct sysC Y_X11_fact 5 [.ref 0, .int (a1), .int (a2), .int (a3)] M mm_fI (f_X11_fact a1 a2 a3 M) :=
  ct_of_sim (by decide) rfl (Nat.le_of_ble_eq_true rfl) (s_X11_fact a1 a2 a3 M)
def f_X9_until_4 : Nat → Int32 → Int32 → Int32 → mm_M → Option (Int32 × mm_M)
  | 0, _, _, _, _ => none
  | n + 1, x1, x2, x3, M =>
  if (mI M 4 7) ≤ x3 then
    some (x2, M)
  else
    mm_ck x3 100 (
    if x1 < (mI M 41 x3.toNatClampNeg) then
      some (x2, M)
    else
      f_X9_until_4 n x1 (x2 + (1 : Int32)) (x3 + (1 : Int32)) M)
theorem s_X9_until_4 (n : Nat) : ∀ (x1 : Int32) (x2 : Int32) (x3 : Int32) (M : mm_M), Sim sysC Y_X9_until 0 4 [(0, .ref 4), (1, .int (x1)), (2, .int (x2)), (3, .int (x3))] [] M mm_fI (f_X9_until_4 n x1 x2 x3 M) := by
  induction n with
  | zero => intros; exact sim_none
  | succ n ih =>
    intro x1 x2 x3 M
    rw [f_X9_until_4]
    refine sim_iload_n 3 d_X9_until_4 rfl rfl ?_
    refine sim_aload_n 0 d_X9_until_5 rfl rfl ?_
    refine sim_geti d_X9_until_6 fl_X9_33 ob_C_4 rfl ?_
    refine sim_icmp_ge d_X9_until_9 ?_ ?_
    ·
      refine sim_iload_n 2 d_X9_until_31 rfl rfl ?_
      exact sim_iret d_X9_until_32 rfl
    ·
      refine sim_aload_n 0 d_X9_until_12 rfl rfl ?_
      refine sim_geta d_X9_until_13 fl_X9_18 ob_C_4 rfl ?_
      refine sim_iload_n 3 d_X9_until_16 rfl rfl ?_
      refine sim_iald d_X9_until_17 ar_C_41 ?_
      refine sim_iload_n 1 d_X9_until_18 rfl rfl ?_
      refine sim_icmp_gt d_X9_until_19 ?_ ?_
      ·
        refine sim_iload_n 2 d_X9_until_31 rfl rfl ?_
        exact sim_iret d_X9_until_32 rfl
      ·
        refine sim_iinc (v := x2 + (1 : Int32)) (L' := [(0, .ref 4), (1, .int (x1)), (3, .int (x3)), (2, .int (x2 + (1 : Int32)))]) 2 d_X9_until_22 (Nat.le_of_ble_eq_true rfl) rfl rfl rfl ?_
        refine sim_iinc (v := x3 + (1 : Int32)) (L' := [(0, .ref 4), (1, .int (x1)), (2, .int (x2 + (1 : Int32))), (3, .int (x3 + (1 : Int32)))]) 2 d_X9_until_25 (Nat.le_of_ble_eq_true rfl) rfl rfl rfl ?_
        refine sim_goto d_X9_until_28 ?_
        exact sim_sub [0, 1, 2, 3] rfl (ih x1 (x2 + (1 : Int32)) (x3 + (1 : Int32)) M)
def f_X9_until (a1 : Int32) (M : mm_M) : Option (Int32 × mm_M) :=
  f_X9_until_4 mm_fu a1 (0 : Int32) (0 : Int32) M
theorem s_X9_until (a1 : Int32) (M : mm_M) : Sim sysC Y_X9_until 0 0 [(0, .ref 4), (1, .int (a1))] [] M mm_fI (f_X9_until a1 M) := by
  unfold f_X9_until
  refine sim_iconst (0 : Int32) d_X9_until_0 rfl ?_
  refine sim_istore_n (L' := [(0, .ref 4), (1, .int (a1)), (2, .int ((0 : Int32)))]) d_X9_until_1 rfl (Nat.le_of_ble_eq_true rfl) rfl ?_
  refine sim_iconst (0 : Int32) d_X9_until_2 rfl ?_
  refine sim_istore_n (L' := [(0, .ref 4), (1, .int (a1)), (2, .int ((0 : Int32))), (3, .int ((0 : Int32)))]) d_X9_until_3 rfl (Nat.le_of_ble_eq_true rfl) rfl ?_
  exact sim_sub [0, 1, 2, 3] rfl (s_X9_until_4 mm_fu a1 (0 : Int32) (0 : Int32) M)
theorem ct_X9_until (a1 : Int32) (M : mm_M) : Ct sysC Y_X9_until 0 [.ref 4, .int (a1)] M mm_fI (f_X9_until a1 M) :=
  ct_of_sim (by decide) rfl (Nat.le_of_ble_eq_true rfl) (s_X9_until a1 M)
def f_X10_stepOf (a1 : Int32) (a2 : Int32) (M : mm_M) : Option (Int32 × mm_M) :=
  mm_bi (f_X6_ownerOn a1 a2 M) (fun r1 M1 =>
  if 0 ≤ r1 then
    mm_ck r1 240 (
    some (mI M1 24 r1.toNatClampNeg, M1))
  else
    some ((0 : Int32), M1))
theorem s_X10_stepOf (a1 : Int32) (a2 : Int32) (M : mm_M) : Sim sysC Y_X10_stepOf 2 0 [(0, .ref 1), (1, .int (a1)), (2, .int (a2))] [] M mm_fI (f_X10_stepOf a1 a2 M) := by
  unfold f_X10_stepOf
  refine sim_aload_n 0 d_X10_stepOf_0 rfl rfl ?_
  refine sim_geta d_X10_stepOf_1 fl_X10_12 ob_C_1 rfl ?_
  refine sim_iload_n 1 d_X10_stepOf_4 rfl rfl ?_
  refine sim_iload_n 2 d_X10_stepOf_5 rfl rfl ?_
  refine sim_callVi Y_X6_ownerOn 1 [.int (a1), .int (a2)] [] d_X10_stepOf_6 lk_X10_135 cv_X6_ownerOn ob_C_2 rfl (by omega) (Nat.le_of_ble_eq_true rfl) (ct_X6_ownerOn a1 a2 M) (fun r1 M1 => ?_)
  refine sim_istore_n (L' := [(0, .ref 1), (1, .int (a1)), (2, .int (a2)), (3, .int (r1))]) d_X10_stepOf_9 rfl (Nat.le_of_ble_eq_true rfl) rfl ?_
  refine sim_iload_n 3 d_X10_stepOf_10 rfl rfl ?_
  refine sim_if_ge d_X10_stepOf_11 ?_ ?_
  ·
    refine sim_aload_n 0 d_X10_stepOf_18 rfl rfl ?_
    refine sim_geta d_X10_stepOf_19 fl_X10_62 ob_C_1 rfl ?_
    refine sim_iload_n 3 d_X10_stepOf_22 rfl rfl ?_
    refine sim_iald d_X10_stepOf_23 ar_C_24 ?_
    exact sim_iret d_X10_stepOf_24 rfl
  ·
    refine sim_iconst (0 : Int32) d_X10_stepOf_14 rfl ?_
    refine sim_goto d_X10_stepOf_15 ?_
    exact sim_iret d_X10_stepOf_24 rfl
theorem ct_X10_stepOf (a1 : Int32) (a2 : Int32) (M : mm_M) : Ct sysC Y_X10_stepOf 2 [.ref 1, .int (a1), .int (a2)] M mm_fI (f_X10_stepOf a1 a2 M) :=
  ct_of_sim (by decide) rfl (Nat.le_of_ble_eq_true rfl) (s_X10_stepOf a1 a2 M)

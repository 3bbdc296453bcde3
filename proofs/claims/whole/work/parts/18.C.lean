def f_X11_clerk_92 (M : mm_M) : Option (Int32 × mm_M) :=
  mm_bi (f_X11_refuse (-6 : Int32) M) (fun r1 M1 =>
  some (r1, M1))
theorem s_X11_clerk_92 (M : mm_M) : Sim sysC Y_X11_clerk 1 92 [(0, .ref 0)] [] M mm_fI (f_X11_clerk_92 M) := by
  unfold f_X11_clerk_92
  refine sim_aload_n 0 d_X11_clerk_92 rfl rfl ?_
  refine sim_bipush (-6 : Int32) d_X11_clerk_93 rfl ?_
  refine sim_callVi Y_X11_refuse 0 [.int ((-6 : Int32))] [] d_X11_clerk_95 lk_X11_108 cv_X11_refuse ob_C_0 rfl (by omega) (Nat.le_of_ble_eq_true rfl) (ct_X11_refuse (-6 : Int32) M) (fun r1 M1 => ?_)
  exact sim_iret d_X11_clerk_98 rfl
def f_X11_clerk_52 (M : mm_M) : Option (Int32 × mm_M) :=
  mm_bi (f_X11_refuse (-4 : Int32) M) (fun r1 M1 =>
  some (r1, M1))
theorem s_X11_clerk_52 (M : mm_M) : Sim sysC Y_X11_clerk 1 52 [(0, .ref 0)] [] M mm_fI (f_X11_clerk_52 M) := by
  unfold f_X11_clerk_52
  refine sim_aload_n 0 d_X11_clerk_52 rfl rfl ?_
  refine sim_bipush (-4 : Int32) d_X11_clerk_53 rfl ?_
  refine sim_callVi Y_X11_refuse 0 [.int ((-4 : Int32))] [] d_X11_clerk_55 lk_X11_108 cv_X11_refuse ob_C_0 rfl (by omega) (Nat.le_of_ble_eq_true rfl) (ct_X11_refuse (-4 : Int32) M) (fun r1 M1 => ?_)
  exact sim_iret d_X11_clerk_58 rfl
def f_X11_clerk_21 (M : mm_M) : Option (Int32 × mm_M) :=
  mm_bi (f_X11_refuse (-1 : Int32) M) (fun r1 M1 =>
  some (r1, M1))
theorem s_X11_clerk_21 (M : mm_M) : Sim sysC Y_X11_clerk 1 21 [(0, .ref 0)] [] M mm_fI (f_X11_clerk_21 M) := by
  unfold f_X11_clerk_21
  refine sim_aload_n 0 d_X11_clerk_21 rfl rfl ?_
  refine sim_iconst (-1 : Int32) d_X11_clerk_22 rfl ?_
  refine sim_callVi Y_X11_refuse 0 [.int ((-1 : Int32))] [] d_X11_clerk_23 lk_X11_108 cv_X11_refuse ob_C_0 rfl (by omega) (Nat.le_of_ble_eq_true rfl) (ct_X11_refuse (-1 : Int32) M) (fun r1 M1 => ?_)
  exact sim_iret d_X11_clerk_26 rfl
def f_X11_clerk (a1 : Int32) (a2 : Int32) (a3 : Int32) (a4 : Int32) (a5 : Int32) (M : mm_M) : Option (Int32 × mm_M) :=
  if a1 < 0 then
    f_X11_clerk_21 M
  else
    if (10 : Int32) ≤ a1 then
      f_X11_clerk_21 M
    else
      mm_bi (f_X6_has a2 M) (fun r1 M1 =>
      if r1 = 0 then
        f_X11_clerk_21 M1
      else
        if a3 < 0 then
          f_X11_clerk_52 M1
        else
          if a4 < (1 : Int32) then
            f_X11_clerk_52 M1
          else
            if a4 ≤ a3 then
              f_X11_clerk_52 M1
            else
              if (mI M1 0 16) ≤ a5 then
                if (24 : Int32) ≤ a3 then
                  f_X11_clerk_92 M1
                else
                  if (24 : Int32) < a4 then
                    f_X11_clerk_92 M1
                  else
                    if (2000 : Int32) < a5 then
                      f_X11_clerk_92 M1
                    else
                      if (mI M1 13 7) < (40 : Int32) then
                        mm_bi (f_X1_add a1 a2 a3 a4 a5 M1) (fun r2 M2 =>
                        some (r2, M2))
                      else
                        f_X11_clerk_92 M1
              else
                f_X11_clerk_52 M1)
theorem s_X11_clerk (a1 : Int32) (a2 : Int32) (a3 : Int32) (a4 : Int32) (a5 : Int32) (M : mm_M) : Sim sysC Y_X11_clerk 1 0 [(0, .ref 0), (1, .int (a1)), (2, .int (a2)), (3, .int (a3)), (4, .int (a4)), (5, .int (a5))] [] M mm_fI (f_X11_clerk a1 a2 a3 a4 a5 M) := by
  unfold f_X11_clerk
  refine sim_iload_n 1 d_X11_clerk_0 rfl rfl ?_
  refine sim_if_lt d_X11_clerk_1 ?_ ?_
  ·
    exact sim_sub [0] rfl (s_X11_clerk_21 M)
  ·
    refine sim_iload_n 1 d_X11_clerk_4 rfl rfl ?_
    refine sim_bipush (10 : Int32) d_X11_clerk_5 rfl ?_
    refine sim_icmp_ge d_X11_clerk_7 ?_ ?_
    ·
      exact sim_sub [0] rfl (s_X11_clerk_21 M)
    ·
      refine sim_aload_n 0 d_X11_clerk_10 rfl rfl ?_
      refine sim_geta d_X11_clerk_11 fl_X11_20 ob_C_0 rfl ?_
      refine sim_iload_n 2 d_X11_clerk_14 rfl rfl ?_
      refine sim_callVi Y_X6_has 0 [.int (a2)] [] d_X11_clerk_15 lk_X11_128 cv_X6_has ob_C_2 rfl (by omega) (Nat.le_of_ble_eq_true rfl) (ct_X6_has a2 M) (fun r1 M1 => ?_)
      refine sim_if_ne d_X11_clerk_18 ?_ ?_
      ·
        refine sim_iload_n 3 d_X11_clerk_27 rfl rfl ?_
        refine sim_if_lt d_X11_clerk_28 ?_ ?_
        ·
          exact sim_sub [0] rfl (s_X11_clerk_52 M1)
        ·
          refine sim_iload 4 d_X11_clerk_31 rfl ?_
          refine sim_iconst (1 : Int32) d_X11_clerk_33 rfl ?_
          refine sim_icmp_lt d_X11_clerk_34 ?_ ?_
          ·
            exact sim_sub [0] rfl (s_X11_clerk_52 M1)
          ·
            refine sim_iload 4 d_X11_clerk_37 rfl ?_
            refine sim_iload_n 3 d_X11_clerk_39 rfl rfl ?_
            refine sim_icmp_le d_X11_clerk_40 ?_ ?_
            ·
              exact sim_sub [0] rfl (s_X11_clerk_52 M1)
            ·
              refine sim_iload 5 d_X11_clerk_43 rfl ?_
              refine sim_aload_n 0 d_X11_clerk_45 rfl rfl ?_
              refine sim_geti d_X11_clerk_46 fl_X11_102 ob_C_0 rfl ?_
              refine sim_icmp_ge d_X11_clerk_49 ?_ ?_
              ·
                refine sim_iload_n 3 d_X11_clerk_59 rfl rfl ?_
                refine sim_bipush (24 : Int32) d_X11_clerk_60 rfl ?_
                refine sim_icmp_ge d_X11_clerk_62 ?_ ?_
                ·
                  exact sim_sub [0] rfl (s_X11_clerk_92 M1)
                ·
                  refine sim_iload 4 d_X11_clerk_65 rfl ?_
                  refine sim_bipush (24 : Int32) d_X11_clerk_67 rfl ?_
                  refine sim_icmp_gt d_X11_clerk_69 ?_ ?_
                  ·
                    exact sim_sub [0] rfl (s_X11_clerk_92 M1)
                  ·
                    refine sim_iload 5 d_X11_clerk_72 rfl ?_
                    refine sim_sipush (2000 : Int32) d_X11_clerk_74 rfl ?_
                    refine sim_icmp_gt d_X11_clerk_77 ?_ ?_
                    ·
                      exact sim_sub [0] rfl (s_X11_clerk_92 M1)
                    ·
                      refine sim_aload_n 0 d_X11_clerk_80 rfl rfl ?_
                      refine sim_geta d_X11_clerk_81 fl_X11_77 ob_C_0 rfl ?_
                      refine sim_geti d_X11_clerk_84 fl_X11_342 ob_C_13 rfl ?_
                      refine sim_bipush (40 : Int32) d_X11_clerk_87 rfl ?_
                      refine sim_icmp_lt d_X11_clerk_89 ?_ ?_
                      ·
                        refine sim_aload_n 0 d_X11_clerk_99 rfl rfl ?_
                        refine sim_geta d_X11_clerk_100 fl_X11_77 ob_C_0 rfl ?_
                        refine sim_iload_n 1 d_X11_clerk_103 rfl rfl ?_
                        refine sim_iload_n 2 d_X11_clerk_104 rfl rfl ?_
                        refine sim_iload_n 3 d_X11_clerk_105 rfl rfl ?_
                        refine sim_iload 4 d_X11_clerk_106 rfl ?_
                        refine sim_iload 5 d_X11_clerk_108 rfl ?_
                        refine sim_callVi Y_X1_add 0 [.int (a1), .int (a2), .int (a3), .int (a4), .int (a5)] [] d_X11_clerk_110 lk_X11_343 cv_X1_add ob_C_13 rfl (by omega) (Nat.le_of_ble_eq_true rfl) (ct_X1_add a1 a2 a3 a4 a5 M1) (fun r2 M2 => ?_)
                        exact sim_iret d_X11_clerk_113 rfl
                      ·
                        exact sim_sub [0] rfl (s_X11_clerk_92 M1)
              ·
                exact sim_sub [0] rfl (s_X11_clerk_52 M1)
      ·
        exact sim_sub [0] rfl (s_X11_clerk_21 M1)
theorem ct_X11_clerk (a1 : Int32) (a2 : Int32) (a3 : Int32) (a4 : Int32) (a5 : Int32) (M : mm_M) : Ct sysC Y_X11_clerk 1 [.ref 0, .int (a1), .int (a2), .int (a3), .int (a4), .int (a5)] M mm_fI (f_X11_clerk a1 a2 a3 a4 a5 M) :=
  ct_of_sim (by decide) rfl (Nat.le_of_ble_eq_true rfl) (s_X11_clerk a1 a2 a3 a4 a5 M)
def f_X1_standing_69 (k7 : Int32 → Int32 → Int32 → Int32 → Int32 → mm_M → Option (Int32 × mm_M)) (x1 : Int32) (x2 : Int32) (x3 : Int32) (x4 : Int32) (x5 : Int32) (M : mm_M) : Option (Int32 × mm_M) :=
  k7 x1 x2 x3 x4 (x5 + (1 : Int32)) M
theorem s_X1_standing_69 (k7 : Int32 → Int32 → Int32 → Int32 → Int32 → mm_M → Option (Int32 × mm_M)) (hk7 : ∀ (x1 : Int32) (x2 : Int32) (x3 : Int32) (x4 : Int32) (x5 : Int32) (M : mm_M), Sim sysC Y_X1_standing 0 7 [(0, .ref 13), (1, .int (x1)), (2, .int (x2)), (3, .int (x3)), (4, .int (x4)), (5, .int (x5))] [] M mm_fI (k7 x1 x2 x3 x4 x5 M)) (x1 : Int32) (x2 : Int32) (x3 : Int32) (x4 : Int32) (x5 : Int32) (M : mm_M) : Sim sysC Y_X1_standing 0 69 [(0, .ref 13), (1, .int (x1)), (2, .int (x2)), (3, .int (x3)), (4, .int (x4)), (5, .int (x5))] [] M mm_fI (f_X1_standing_69 k7 x1 x2 x3 x4 x5 M) := by
  unfold f_X1_standing_69
  refine sim_iinc (v := x5 + (1 : Int32)) (L' := [(0, .ref 13), (1, .int (x1)), (2, .int (x2)), (3, .int (x3)), (4, .int (x4)), (5, .int (x5 + (1 : Int32)))]) 5 d_X1_standing_69 (Nat.le_of_ble_eq_true rfl) rfl rfl rfl ?_
  refine sim_goto d_X1_standing_72 ?_
  exact sim_sub [0, 1, 2, 3, 4, 5] rfl (hk7 x1 x2 x3 x4 (x5 + (1 : Int32)) M)
def f_X1_standing_7 : Nat → Int32 → Int32 → Int32 → Int32 → Int32 → mm_M → Option (Int32 × mm_M)
  | 0, _, _, _, _, _, _ => none
  | n + 1, x1, x2, x3, x4, x5, M =>
  if (mI M 13 7) ≤ x5 then
    some (x4, M)
  else
    mm_ck x5 40 (
    if (mI M 69 x5.toNatClampNeg) = x1 then
      mm_ck x5 40 (
      if x2 < (mI M 70 x5.toNatClampNeg) then
        f_X1_standing_69 (f_X1_standing_7 n) x1 x2 x3 x4 x5 M
      else
        mm_ck x5 40 (
        if (mI M 71 x5.toNatClampNeg) ≤ x2 then
          f_X1_standing_69 (f_X1_standing_7 n) x1 x2 x3 x4 x5 M
        else
          mm_ck x5 40 (
          if x3 < (mI M 72 x5.toNatClampNeg) then
            f_X1_standing_69 (f_X1_standing_7 n) x1 x2 x3 x4 x5 M
          else
            mm_ck x5 40 (
            mm_let (mI M 68 x5.toNatClampNeg) (fun v1 =>
            f_X1_standing_69 (f_X1_standing_7 n) x1 x2 x3 v1 x5 M)))))
    else
      f_X1_standing_69 (f_X1_standing_7 n) x1 x2 x3 x4 x5 M)
theorem s_X1_standing_7 (n : Nat) : ∀ (x1 : Int32) (x2 : Int32) (x3 : Int32) (x4 : Int32) (x5 : Int32) (M : mm_M), Sim sysC Y_X1_standing 0 7 [(0, .ref 13), (1, .int (x1)), (2, .int (x2)), (3, .int (x3)), (4, .int (x4)), (5, .int (x5))] [] M mm_fI (f_X1_standing_7 n x1 x2 x3 x4 x5 M) := by
  induction n with
  | zero => intros; exact sim_none
  | succ n ih =>
    intro x1 x2 x3 x4 x5 M
    rw [f_X1_standing_7]
    refine sim_iload 5 d_X1_standing_7 rfl ?_
    refine sim_aload_n 0 d_X1_standing_9 rfl rfl ?_
    refine sim_geti d_X1_standing_10 fl_X1_33 ob_C_13 rfl ?_
    refine sim_icmp_ge d_X1_standing_13 ?_ ?_
    ·
      refine sim_iload 4 d_X1_standing_75 rfl ?_
      exact sim_iret d_X1_standing_77 rfl
    ·
      refine sim_aload_n 0 d_X1_standing_16 rfl rfl ?_
      refine sim_geta d_X1_standing_17 fl_X1_15 ob_C_13 rfl ?_
      refine sim_iload 5 d_X1_standing_20 rfl ?_
      refine sim_iald d_X1_standing_22 ar_C_69 ?_
      refine sim_iload_n 1 d_X1_standing_23 rfl rfl ?_
      refine sim_icmp_ne d_X1_standing_24 ?_ ?_
      ·
        exact sim_sub [0, 1, 2, 3, 4, 5] rfl (s_X1_standing_69 (f_X1_standing_7 n) ih x1 x2 x3 x4 x5 M)
      ·
        refine sim_aload_n 0 d_X1_standing_27 rfl rfl ?_
        refine sim_geta d_X1_standing_28 fl_X1_18 ob_C_13 rfl ?_
        refine sim_iload 5 d_X1_standing_31 rfl ?_
        refine sim_iald d_X1_standing_33 ar_C_70 ?_
        refine sim_iload_n 2 d_X1_standing_34 rfl rfl ?_
        refine sim_icmp_gt d_X1_standing_35 ?_ ?_
        ·
          exact sim_sub [0, 1, 2, 3, 4, 5] rfl (s_X1_standing_69 (f_X1_standing_7 n) ih x1 x2 x3 x4 x5 M)
        ·
          refine sim_iload_n 2 d_X1_standing_38 rfl rfl ?_
          refine sim_aload_n 0 d_X1_standing_39 rfl rfl ?_
          refine sim_geta d_X1_standing_40 fl_X1_21 ob_C_13 rfl ?_
          refine sim_iload 5 d_X1_standing_43 rfl ?_
          refine sim_iald d_X1_standing_45 ar_C_71 ?_
          refine sim_icmp_ge d_X1_standing_46 ?_ ?_
          ·
            exact sim_sub [0, 1, 2, 3, 4, 5] rfl (s_X1_standing_69 (f_X1_standing_7 n) ih x1 x2 x3 x4 x5 M)
          ·
            refine sim_aload_n 0 d_X1_standing_49 rfl rfl ?_
            refine sim_geta d_X1_standing_50 fl_X1_24 ob_C_13 rfl ?_
            refine sim_iload 5 d_X1_standing_53 rfl ?_
            refine sim_iald d_X1_standing_55 ar_C_72 ?_
            refine sim_iload_n 3 d_X1_standing_56 rfl rfl ?_
            refine sim_icmp_gt d_X1_standing_57 ?_ ?_
            ·
              exact sim_sub [0, 1, 2, 3, 4, 5] rfl (s_X1_standing_69 (f_X1_standing_7 n) ih x1 x2 x3 x4 x5 M)
            ·
              refine sim_aload_n 0 d_X1_standing_60 rfl rfl ?_
              refine sim_geta d_X1_standing_61 fl_X1_9 ob_C_13 rfl ?_
              refine sim_iload 5 d_X1_standing_64 rfl ?_
              refine sim_iald d_X1_standing_66 ar_C_68 ?_
              refine sim_nmi (fun v1 => ?_)
              refine sim_istore (L' := [(0, .ref 13), (1, .int (x1)), (2, .int (x2)), (3, .int (x3)), (5, .int (x5)), (4, .int (v1))]) d_X1_standing_67 (Nat.le_of_ble_eq_true rfl) rfl ?_
              exact sim_sub [0, 1, 2, 3, 5, 4] rfl (s_X1_standing_69 (f_X1_standing_7 n) ih x1 x2 x3 v1 x5 M)
def f_X1_standing (a1 : Int32) (a2 : Int32) (a3 : Int32) (M : mm_M) : Option (Int32 × mm_M) :=
  f_X1_standing_7 mm_fu a1 a2 a3 (-9 : Int32) (0 : Int32) M
theorem s_X1_standing (a1 : Int32) (a2 : Int32) (a3 : Int32) (M : mm_M) : Sim sysC Y_X1_standing 0 0 [(0, .ref 13), (1, .int (a1)), (2, .int (a2)), (3, .int (a3))] [] M mm_fI (f_X1_standing a1 a2 a3 M) := by
  unfold f_X1_standing
  refine sim_bipush (-9 : Int32) d_X1_standing_0 rfl ?_
  refine sim_istore (L' := [(0, .ref 13), (1, .int (a1)), (2, .int (a2)), (3, .int (a3)), (4, .int ((-9 : Int32)))]) d_X1_standing_2 (Nat.le_of_ble_eq_true rfl) rfl ?_
  refine sim_iconst (0 : Int32) d_X1_standing_4 rfl ?_
  refine sim_istore (L' := [(0, .ref 13), (1, .int (a1)), (2, .int (a2)), (3, .int (a3)), (4, .int ((-9 : Int32))), (5, .int ((0 : Int32)))]) d_X1_standing_5 (Nat.le_of_ble_eq_true rfl) rfl ?_
  exact sim_sub [0, 1, 2, 3, 4, 5] rfl (s_X1_standing_7 mm_fu a1 a2 a3 (-9 : Int32) (0 : Int32) M)
theorem ct_X1_standing (a1 : Int32) (a2 : Int32) (a3 : Int32) (M : mm_M) : Ct sysC Y_X1_standing 0 [.ref 13, .int (a1), .int (a2), .int (a3)] M mm_fI (f_X1_standing a1 a2 a3 M) :=
  ct_of_sim (by decide) rfl (Nat.le_of_ble_eq_true rfl) (s_X1_standing a1 a2 a3 M)
def f_X1_addToTally (a1 : Int32) (a2 : Int32) (M : mm_M) : Option (mm_M) :=
  if a1 < 0 then
    some M
  else
    if a1 < (10 : Int32) then
      mm_ck a1 10 (
      mm_ck a1 10 (
      mm_let (sI M 73 a1.toNatClampNeg ((mI M 73 a1.toNatClampNeg) + (1 : Int32))) (fun M1 =>
      if a2 = 0 then
        some M1
      else
        mm_ck a1 10 (
        mm_ck a1 10 (
        mm_let (sI M1 74 a1.toNatClampNeg ((mI M1 74 a1.toNatClampNeg) + (1 : Int32))) (fun M2 =>
        some M2))))))
    else
      some M
theorem s_X1_addToTally (a1 : Int32) (a2 : Int32) (M : mm_M) : Sim sysC Y_X1_addToTally 0 0 [(0, .ref 13), (1, .int (a1)), (2, .int (a2))] [] M mm_fV (f_X1_addToTally a1 a2 M) := by
  unfold f_X1_addToTally
  refine sim_iload_n 1 d_X1_addToTally_0 rfl rfl ?_
  refine sim_if_lt d_X1_addToTally_1 ?_ ?_
  ·
    exact sim_vret d_X1_addToTally_10 rfl
  ·
    refine sim_iload_n 1 d_X1_addToTally_4 rfl rfl ?_
    refine sim_bipush (10 : Int32) d_X1_addToTally_5 rfl ?_
    refine sim_icmp_lt d_X1_addToTally_7 ?_ ?_
    ·
      refine sim_aload_n 0 d_X1_addToTally_11 rfl rfl ?_
      refine sim_geta d_X1_addToTally_12 fl_X1_27 ob_C_13 rfl ?_
      refine sim_iload_n 1 d_X1_addToTally_15 rfl rfl ?_
      refine sim_dup2_11 d_X1_addToTally_16 rfl rfl ?_
      refine sim_iald d_X1_addToTally_17 ar_C_73 ?_
      refine sim_iconst (1 : Int32) d_X1_addToTally_18 rfl ?_
      refine sim_iadd d_X1_addToTally_19 ?_
      refine sim_iast d_X1_addToTally_20 ar_C_73 ?_
      refine sim_nmM (fun M1 => ?_)
      refine sim_iload_n 2 d_X1_addToTally_21 rfl rfl ?_
      refine sim_if_eq d_X1_addToTally_22 ?_ ?_
      ·
        exact sim_vret d_X1_addToTally_35 rfl
      ·
        refine sim_aload_n 0 d_X1_addToTally_25 rfl rfl ?_
        refine sim_geta d_X1_addToTally_26 fl_X1_30 ob_C_13 rfl ?_
        refine sim_iload_n 1 d_X1_addToTally_29 rfl rfl ?_
        refine sim_dup2_11 d_X1_addToTally_30 rfl rfl ?_
        refine sim_iald d_X1_addToTally_31 ar_C_74 ?_
        refine sim_iconst (1 : Int32) d_X1_addToTally_32 rfl ?_
        refine sim_iadd d_X1_addToTally_33 ?_
        refine sim_iast d_X1_addToTally_34 ar_C_74 ?_
        refine sim_nmM (fun M2 => ?_)
        exact sim_vret d_X1_addToTally_35 rfl
    ·
      exact sim_vret d_X1_addToTally_10 rfl
theorem ct_X1_addToTally (a1 : Int32) (a2 : Int32) (M : mm_M) : Ct sysC Y_X1_addToTally 0 [.ref 13, .int (a1), .int (a2)] M mm_fV (f_X1_addToTally a1 a2 M) :=
  ct_of_sim (by decide) rfl (Nat.le_of_ble_eq_true rfl) (s_X1_addToTally a1 a2 M)
def f_J7_fill_53178_73_5 : Nat → Int32 → Int32 → Int32 → mm_M → Option (mm_M)
  | 0, _, _, _, _ => none
  | n + 1, x1, x2, x3, M =>
  if x3 ≤ x2 then
    some M
  else
    mm_ck x2 10 (
    mm_let (sI M 73 x2.toNatClampNeg x1) (fun M1 =>
    f_J7_fill_53178_73_5 n x1 (x2 + (1 : Int32)) x3 M1))
theorem s_J7_fill_53178_73_5 (n : Nat) : ∀ (x1 : Int32) (x2 : Int32) (x3 : Int32) (M : mm_M), Sim sysC Y_J7_fill_53178 0 5 [(0, .ref 73), (1, .int (x1)), (2, .int (x2)), (3, .int (x3))] [] M mm_fV (f_J7_fill_53178_73_5 n x1 x2 x3 M) := by
  induction n with
  | zero => intros; exact sim_none
  | succ n ih =>
    intro x1 x2 x3 M
    rw [f_J7_fill_53178_73_5]
    refine sim_iload_n 2 d_J7_fill_53178_5 rfl rfl ?_
    refine sim_iload_n 3 d_J7_fill_53178_6 rfl rfl ?_
    refine sim_icmp_ge d_J7_fill_53178_7 ?_ ?_
    ·
      exact sim_vret d_J7_fill_53178_20 rfl
    ·
      refine sim_aload_n 0 d_J7_fill_53178_10 rfl rfl ?_
      refine sim_iload_n 2 d_J7_fill_53178_11 rfl rfl ?_
      refine sim_iload_n 1 d_J7_fill_53178_12 rfl rfl ?_
      refine sim_iast d_J7_fill_53178_13 ar_C_73 ?_
      refine sim_nmM (fun M1 => ?_)
      refine sim_iinc (v := x2 + (1 : Int32)) (L' := [(0, .ref 73), (1, .int (x1)), (3, .int (x3)), (2, .int (x2 + (1 : Int32)))]) 2 d_J7_fill_53178_14 (Nat.le_of_ble_eq_true rfl) rfl rfl rfl ?_
      refine sim_goto d_J7_fill_53178_17 ?_
      exact sim_sub [0, 1, 3, 2] rfl (ih x1 (x2 + (1 : Int32)) x3 M1)
def f_J7_fill_53178_73 (a2 : Int32) (M : mm_M) : Option (mm_M) :=
  f_J7_fill_53178_73_5 mm_fu a2 (0 : Int32) (10 : Int32) M
theorem s_J7_fill_53178_73 (a2 : Int32) (M : mm_M) : Sim sysC Y_J7_fill_53178 0 0 [(0, .ref 73), (1, .int (a2))] [] M mm_fV (f_J7_fill_53178_73 a2 M) := by
  unfold f_J7_fill_53178_73
  refine sim_iconst (0 : Int32) d_J7_fill_53178_0 rfl ?_
  refine sim_istore_n (L' := [(0, .ref 73), (1, .int (a2)), (2, .int ((0 : Int32)))]) d_J7_fill_53178_1 rfl (Nat.le_of_ble_eq_true rfl) rfl ?_
  refine sim_aload_n 0 d_J7_fill_53178_2 rfl rfl ?_
  refine sim_alen (10 : Int32) d_J7_fill_53178_3 ar_C_73 (Or.inl rfl) rfl ?_
  refine sim_istore_n (L' := [(0, .ref 73), (1, .int (a2)), (2, .int ((0 : Int32))), (3, .int ((10 : Int32)))]) d_J7_fill_53178_4 rfl (Nat.le_of_ble_eq_true rfl) rfl ?_
  exact sim_sub [0, 1, 2, 3] rfl (s_J7_fill_53178_73_5 mm_fu a2 (0 : Int32) (10 : Int32) M)
theorem ct_J7_fill_53178_73 (a2 : Int32) (M : mm_M) : Ct sysC Y_J7_fill_53178 0 [.ref 73, .int (a2)] M mm_fV (f_J7_fill_53178_73 a2 M) :=
  ct_of_sim (by decide) rfl (Nat.le_of_ble_eq_true rfl) (s_J7_fill_53178_73 a2 M)
def f_J7_fill_53178_74_5 : Nat → Int32 → Int32 → Int32 → mm_M → Option (mm_M)
  | 0, _, _, _, _ => none
  | n + 1, x1, x2, x3, M =>
  if x3 ≤ x2 then
    some M
  else
    mm_ck x2 10 (
    mm_let (sI M 74 x2.toNatClampNeg x1) (fun M1 =>
    f_J7_fill_53178_74_5 n x1 (x2 + (1 : Int32)) x3 M1))
theorem s_J7_fill_53178_74_5 (n : Nat) : ∀ (x1 : Int32) (x2 : Int32) (x3 : Int32) (M : mm_M), Sim sysC Y_J7_fill_53178 0 5 [(0, .ref 74), (1, .int (x1)), (2, .int (x2)), (3, .int (x3))] [] M mm_fV (f_J7_fill_53178_74_5 n x1 x2 x3 M) := by
  induction n with
  | zero => intros; exact sim_none
  | succ n ih =>
    intro x1 x2 x3 M
    rw [f_J7_fill_53178_74_5]
    refine sim_iload_n 2 d_J7_fill_53178_5 rfl rfl ?_
    refine sim_iload_n 3 d_J7_fill_53178_6 rfl rfl ?_
    refine sim_icmp_ge d_J7_fill_53178_7 ?_ ?_
    ·
      exact sim_vret d_J7_fill_53178_20 rfl
    ·
      refine sim_aload_n 0 d_J7_fill_53178_10 rfl rfl ?_
      refine sim_iload_n 2 d_J7_fill_53178_11 rfl rfl ?_
      refine sim_iload_n 1 d_J7_fill_53178_12 rfl rfl ?_
      refine sim_iast d_J7_fill_53178_13 ar_C_74 ?_
      refine sim_nmM (fun M1 => ?_)
      refine sim_iinc (v := x2 + (1 : Int32)) (L' := [(0, .ref 74), (1, .int (x1)), (3, .int (x3)), (2, .int (x2 + (1 : Int32)))]) 2 d_J7_fill_53178_14 (Nat.le_of_ble_eq_true rfl) rfl rfl rfl ?_
      refine sim_goto d_J7_fill_53178_17 ?_
      exact sim_sub [0, 1, 3, 2] rfl (ih x1 (x2 + (1 : Int32)) x3 M1)
def f_J7_fill_53178_74 (a2 : Int32) (M : mm_M) : Option (mm_M) :=
  f_J7_fill_53178_74_5 mm_fu a2 (0 : Int32) (10 : Int32) M
theorem s_J7_fill_53178_74 (a2 : Int32) (M : mm_M) : Sim sysC Y_J7_fill_53178 0 0 [(0, .ref 74), (1, .int (a2))] [] M mm_fV (f_J7_fill_53178_74 a2 M) := by
  unfold f_J7_fill_53178_74
  refine sim_iconst (0 : Int32) d_J7_fill_53178_0 rfl ?_
  refine sim_istore_n (L' := [(0, .ref 74), (1, .int (a2)), (2, .int ((0 : Int32)))]) d_J7_fill_53178_1 rfl (Nat.le_of_ble_eq_true rfl) rfl ?_
  refine sim_aload_n 0 d_J7_fill_53178_2 rfl rfl ?_
  refine sim_alen (10 : Int32) d_J7_fill_53178_3 ar_C_74 (Or.inl rfl) rfl ?_
  refine sim_istore_n (L' := [(0, .ref 74), (1, .int (a2)), (2, .int ((0 : Int32))), (3, .int ((10 : Int32)))]) d_J7_fill_53178_4 rfl (Nat.le_of_ble_eq_true rfl) rfl ?_
  exact sim_sub [0, 1, 2, 3] rfl (s_J7_fill_53178_74_5 mm_fu a2 (0 : Int32) (10 : Int32) M)
theorem ct_J7_fill_53178_74 (a2 : Int32) (M : mm_M) : Ct sysC Y_J7_fill_53178 0 [.ref 74, .int (a2)] M mm_fV (f_J7_fill_53178_74 a2 M) :=
  ct_of_sim (by decide) rfl (Nat.le_of_ble_eq_true rfl) (s_J7_fill_53178_74 a2 M)
def f_X1_clearTally (M : mm_M) : Option (mm_M) :=
  mm_bv (f_J7_fill_53178_73 (0 : Int32) M) (fun M1 =>
  mm_bv (f_J7_fill_53178_74 (0 : Int32) M1) (fun M2 =>
  some M2))
theorem s_X1_clearTally (M : mm_M) : Sim sysC Y_X1_clearTally 1 0 [(0, .ref 13)] [] M mm_fV (f_X1_clearTally M) := by
  unfold f_X1_clearTally
  refine sim_aload_n 0 d_X1_clearTally_0 rfl rfl ?_
  refine sim_geta d_X1_clearTally_1 fl_X1_27 ob_C_13 rfl ?_
  refine sim_iconst (0 : Int32) d_X1_clearTally_4 rfl ?_
  refine sim_callSv Y_J7_fill_53178 0 [.ref 73, .int ((0 : Int32))] [] d_X1_clearTally_5 lk_X1_37 cs_J7_fill_53178 rfl (by omega) (Nat.le_of_ble_eq_true rfl) (ct_J7_fill_53178_73 (0 : Int32) M) (fun M1 => ?_)
  refine sim_aload_n 0 d_X1_clearTally_8 rfl rfl ?_
  refine sim_geta d_X1_clearTally_9 fl_X1_30 ob_C_13 rfl ?_
  refine sim_iconst (0 : Int32) d_X1_clearTally_12 rfl ?_
  refine sim_callSv Y_J7_fill_53178 0 [.ref 74, .int ((0 : Int32))] [] d_X1_clearTally_13 lk_X1_37 cs_J7_fill_53178 rfl (by omega) (Nat.le_of_ble_eq_true rfl) (ct_J7_fill_53178_74 (0 : Int32) M1) (fun M2 => ?_)
  exact sim_vret d_X1_clearTally_16 rfl
theorem ct_X1_clearTally (M : mm_M) : Ct sysC Y_X1_clearTally 1 [.ref 13] M mm_fV (f_X1_clearTally M) :=
  ct_of_sim (by decide) rfl (Nat.le_of_ble_eq_true rfl) (s_X1_clearTally M)
def f_X11_tallyClerks_101 (k27 : Int32 → mm_M → Option (mm_M)) (x1 : Int32) (M : mm_M) : Option (mm_M) :=
  k27 (x1 + (1 : Int32)) M
theorem s_X11_tallyClerks_101 (k27 : Int32 → mm_M → Option (mm_M)) (hk27 : ∀ (x1 : Int32) (M : mm_M), Sim sysC Y_X11_tallyClerks 5 27 [(0, .ref 0), (1, .int (x1))] [] M mm_fV (k27 x1 M)) (x1 : Int32) (M : mm_M) : Sim sysC Y_X11_tallyClerks 5 101 [(0, .ref 0), (1, .int (x1))] [] M mm_fV (f_X11_tallyClerks_101 k27 x1 M) := by
  unfold f_X11_tallyClerks_101
  refine sim_iinc (v := x1 + (1 : Int32)) (L' := [(0, .ref 0), (1, .int (x1 + (1 : Int32)))]) 1 d_X11_tallyClerks_101 (Nat.le_of_ble_eq_true rfl) rfl rfl rfl ?_
  refine sim_goto d_X11_tallyClerks_104 ?_
  exact sim_sub [0, 1] rfl (hk27 (x1 + (1 : Int32)) M)
def f_X11_tallyClerks_27 : Nat → Int32 → mm_M → Option (mm_M)
  | 0, _, _ => none
  | n + 1, x1, M =>
  if (mI M 4 7) ≤ x1 then
    some M
  else
    mm_ck x1 100 (
    if (mI M 17 x1.toNatClampNeg) = 0 then
      f_X11_tallyClerks_101 (f_X11_tallyClerks_27 n) x1 M
    else
      mm_ck x1 100 (
      mm_ck x1 100 (
      mm_ck x1 100 (
      mm_bi (f_X1_standing (mI M 39 x1.toNatClampNeg) (mI M 42 x1.toNatClampNeg) (mI M 41 x1.toNatClampNeg) M) (fun r1 M1 =>
      mm_bi (f_X9_isSold x1 M1) (fun r2 M2 =>
      mm_bv (f_X1_addToTally r1 r2 M2) (fun M3 =>
      f_X11_tallyClerks_101 (f_X11_tallyClerks_27 n) x1 M3)))))))
theorem s_X11_tallyClerks_27 (n : Nat) : ∀ (x1 : Int32) (M : mm_M), Sim sysC Y_X11_tallyClerks 5 27 [(0, .ref 0), (1, .int (x1))] [] M mm_fV (f_X11_tallyClerks_27 n x1 M) := by
  induction n with
  | zero => intros; exact sim_none
  | succ n ih =>
    intro x1 M
    rw [f_X11_tallyClerks_27]
    refine sim_iload_n 1 d_X11_tallyClerks_27 rfl rfl ?_
    refine sim_aload_n 0 d_X11_tallyClerks_28 rfl rfl ?_
    refine sim_geta d_X11_tallyClerks_29 fl_X11_30 ob_C_0 rfl ?_
    refine sim_geti d_X11_tallyClerks_32 fl_X11_258 ob_C_4 rfl ?_
    refine sim_icmp_ge d_X11_tallyClerks_35 ?_ ?_
    ·
      exact sim_vret d_X11_tallyClerks_107 rfl
    ·
      refine sim_aload_n 0 d_X11_tallyClerks_38 rfl rfl ?_
      refine sim_geta d_X11_tallyClerks_39 fl_X11_10 ob_C_0 rfl ?_
      refine sim_geta d_X11_tallyClerks_42 fl_X11_278 ob_C_1 rfl ?_
      refine sim_iload_n 1 d_X11_tallyClerks_45 rfl rfl ?_
      refine sim_zald d_X11_tallyClerks_46 ar_C_17 ?_
      refine sim_if_eq d_X11_tallyClerks_47 ?_ ?_
      ·
        exact sim_sub [0, 1] rfl (s_X11_tallyClerks_101 (f_X11_tallyClerks_27 n) ih x1 M)
      ·
        refine sim_aload_n 0 d_X11_tallyClerks_50 rfl rfl ?_
        refine sim_geta d_X11_tallyClerks_51 fl_X11_77 ob_C_0 rfl ?_
        refine sim_aload_n 0 d_X11_tallyClerks_54 rfl rfl ?_
        refine sim_geta d_X11_tallyClerks_55 fl_X11_30 ob_C_0 rfl ?_
        refine sim_geta d_X11_tallyClerks_58 fl_X11_415 ob_C_4 rfl ?_
        refine sim_iload_n 1 d_X11_tallyClerks_61 rfl rfl ?_
        refine sim_iald d_X11_tallyClerks_62 ar_C_39 ?_
        refine sim_aload_n 0 d_X11_tallyClerks_63 rfl rfl ?_
        refine sim_geta d_X11_tallyClerks_64 fl_X11_30 ob_C_0 rfl ?_
        refine sim_geta d_X11_tallyClerks_67 fl_X11_418 ob_C_4 rfl ?_
        refine sim_iload_n 1 d_X11_tallyClerks_70 rfl rfl ?_
        refine sim_iald d_X11_tallyClerks_71 ar_C_42 ?_
        refine sim_aload_n 0 d_X11_tallyClerks_72 rfl rfl ?_
        refine sim_geta d_X11_tallyClerks_73 fl_X11_30 ob_C_0 rfl ?_
        refine sim_geta d_X11_tallyClerks_76 fl_X11_421 ob_C_4 rfl ?_
        refine sim_iload_n 1 d_X11_tallyClerks_79 rfl rfl ?_
        refine sim_iald d_X11_tallyClerks_80 ar_C_41 ?_
        refine sim_callVi Y_X1_standing 0 [.int (mI M 39 x1.toNatClampNeg), .int (mI M 42 x1.toNatClampNeg), .int (mI M 41 x1.toNatClampNeg)] [] d_X11_tallyClerks_81 lk_X11_424 cv_X1_standing ob_C_13 rfl (by omega) (Nat.le_of_ble_eq_true rfl) (ct_X1_standing (mI M 39 x1.toNatClampNeg) (mI M 42 x1.toNatClampNeg) (mI M 41 x1.toNatClampNeg) M) (fun r1 M1 => ?_)
        refine sim_istore_n (L' := [(0, .ref 0), (1, .int (x1)), (2, .int (r1))]) d_X11_tallyClerks_84 rfl (Nat.le_of_ble_eq_true rfl) rfl ?_
        refine sim_aload_n 0 d_X11_tallyClerks_85 rfl rfl ?_
        refine sim_geta d_X11_tallyClerks_86 fl_X11_77 ob_C_0 rfl ?_
        refine sim_iload_n 2 d_X11_tallyClerks_89 rfl rfl ?_
        refine sim_aload_n 0 d_X11_tallyClerks_90 rfl rfl ?_
        refine sim_geta d_X11_tallyClerks_91 fl_X11_30 ob_C_0 rfl ?_
        refine sim_iload_n 1 d_X11_tallyClerks_94 rfl rfl ?_
        refine sim_callVi Y_X9_isSold 1 [.int (x1)] [.int (r1), .ref 13] d_X11_tallyClerks_95 lk_X11_405 cv_X9_isSold ob_C_4 rfl (by omega) (Nat.le_of_ble_eq_true rfl) (ct_X9_isSold x1 M1) (fun r2 M2 => ?_)
        refine sim_callVv Y_X1_addToTally 0 [.int (r1), .int (r2)] [] d_X11_tallyClerks_98 lk_X11_427 cv_X1_addToTally ob_C_13 rfl (by omega) (Nat.le_of_ble_eq_true rfl) (ct_X1_addToTally r1 r2 M2) (fun M3 => ?_)
        exact sim_sub [0, 1] rfl (s_X11_tallyClerks_101 (f_X11_tallyClerks_27 n) ih x1 M3)
def f_X11_tallyClerks (M : mm_M) : Option (mm_M) :=
  mm_bv (f_X10_weigh (mI M 0 16) (mI M 4 7) M) (fun M1 =>
  mm_bv (f_X1_clearTally M1) (fun M2 =>
  f_X11_tallyClerks_27 mm_fu (0 : Int32) M2))
theorem s_X11_tallyClerks (M : mm_M) : Sim sysC Y_X11_tallyClerks 5 0 [(0, .ref 0)] [] M mm_fV (f_X11_tallyClerks M) := by
  unfold f_X11_tallyClerks
  refine sim_aload_n 0 d_X11_tallyClerks_0 rfl rfl ?_
  refine sim_geta d_X11_tallyClerks_1 fl_X11_10 ob_C_0 rfl ?_
  refine sim_aload_n 0 d_X11_tallyClerks_4 rfl rfl ?_
  refine sim_geti d_X11_tallyClerks_5 fl_X11_102 ob_C_0 rfl ?_
  refine sim_aload_n 0 d_X11_tallyClerks_8 rfl rfl ?_
  refine sim_geta d_X11_tallyClerks_9 fl_X11_30 ob_C_0 rfl ?_
  refine sim_geti d_X11_tallyClerks_12 fl_X11_258 ob_C_4 rfl ?_
  refine sim_callVv Y_X10_weigh 4 [.int (mI M 0 16), .int (mI M 4 7)] [] d_X11_tallyClerks_15 lk_X11_274 cv_X10_weigh ob_C_1 rfl (by omega) (Nat.le_of_ble_eq_true rfl) (ct_X10_weigh (mI M 0 16) (mI M 4 7) M) (fun M1 => ?_)
  refine sim_aload_n 0 d_X11_tallyClerks_18 rfl rfl ?_
  refine sim_geta d_X11_tallyClerks_19 fl_X11_77 ob_C_0 rfl ?_
  refine sim_callVv Y_X1_clearTally 1 [] [] d_X11_tallyClerks_22 lk_X11_412 cv_X1_clearTally ob_C_13 rfl (by omega) (Nat.le_of_ble_eq_true rfl) (ct_X1_clearTally M1) (fun M2 => ?_)
  refine sim_iconst (0 : Int32) d_X11_tallyClerks_25 rfl ?_
  refine sim_istore_n (L' := [(0, .ref 0), (1, .int ((0 : Int32)))]) d_X11_tallyClerks_26 rfl (Nat.le_of_ble_eq_true rfl) rfl ?_
  exact sim_sub [0, 1] rfl (s_X11_tallyClerks_27 mm_fu (0 : Int32) M2)
theorem ct_X11_tallyClerks (M : mm_M) : Ct sysC Y_X11_tallyClerks 5 [.ref 0] M mm_fV (f_X11_tallyClerks M) :=
  ct_of_sim (by decide) rfl (Nat.le_of_ble_eq_true rfl) (s_X11_tallyClerks M)
def f_X11_tally_32 (x1 : Int32) (x2 : Int32) (M : mm_M) : Option (Int32 × mm_M) :=
  mm_bv (f_X11_tallyClerks M) (fun M1 =>
  if x2 = 0 then
    mm_ck x1 10 (
    some (mI M1 73 x1.toNatClampNeg, M1))
  else
    mm_ck x1 10 (
    some (mI M1 74 x1.toNatClampNeg, M1)))
theorem s_X11_tally_32 (x1 : Int32) (x2 : Int32) (M : mm_M) : Sim sysC Y_X11_tally 6 32 [(0, .ref 0), (1, .int (x1)), (2, .int (x2))] [] M mm_fI (f_X11_tally_32 x1 x2 M) := by
  unfold f_X11_tally_32
  refine sim_aload_n 0 d_X11_tally_32 rfl rfl ?_
  refine sim_callVv Y_X11_tallyClerks 5 [] [] d_X11_tally_33 lk_X11_344 cv_X11_tallyClerks ob_C_0 rfl (by omega) (Nat.le_of_ble_eq_true rfl) (ct_X11_tallyClerks M) (fun M1 => ?_)
  refine sim_iload_n 2 d_X11_tally_36 rfl rfl ?_
  refine sim_if_ne d_X11_tally_37 ?_ ?_
  ·
    refine sim_aload_n 0 d_X11_tally_52 rfl rfl ?_
    refine sim_geta d_X11_tally_53 fl_X11_77 ob_C_0 rfl ?_
    refine sim_geta d_X11_tally_56 fl_X11_350 ob_C_13 rfl ?_
    refine sim_iload_n 1 d_X11_tally_59 rfl rfl ?_
    refine sim_iald d_X11_tally_60 ar_C_74 ?_
    exact sim_iret d_X11_tally_61 rfl
  ·
    refine sim_aload_n 0 d_X11_tally_40 rfl rfl ?_
    refine sim_geta d_X11_tally_41 fl_X11_77 ob_C_0 rfl ?_
    refine sim_geta d_X11_tally_44 fl_X11_347 ob_C_13 rfl ?_
    refine sim_iload_n 1 d_X11_tally_47 rfl rfl ?_
    refine sim_iald d_X11_tally_48 ar_C_73 ?_
    refine sim_goto d_X11_tally_49 ?_
    exact sim_iret d_X11_tally_61 rfl
def f_X11_tally_10 (M : mm_M) : Option (Int32 × mm_M) :=
  mm_bi (f_X11_refuse (-1 : Int32) M) (fun r1 M1 =>
  some (r1, M1))
theorem s_X11_tally_10 (M : mm_M) : Sim sysC Y_X11_tally 6 10 [(0, .ref 0)] [] M mm_fI (f_X11_tally_10 M) := by
  unfold f_X11_tally_10
  refine sim_aload_n 0 d_X11_tally_10 rfl rfl ?_
  refine sim_iconst (-1 : Int32) d_X11_tally_11 rfl ?_
  refine sim_callVi Y_X11_refuse 0 [.int ((-1 : Int32))] [] d_X11_tally_12 lk_X11_108 cv_X11_refuse ob_C_0 rfl (by omega) (Nat.le_of_ble_eq_true rfl) (ct_X11_refuse (-1 : Int32) M) (fun r1 M1 => ?_)
  exact sim_iret d_X11_tally_15 rfl
def f_X11_tally (a1 : Int32) (a2 : Int32) (M : mm_M) : Option (Int32 × mm_M) :=
  if a1 < 0 then
    f_X11_tally_10 M
  else
    if a1 < (10 : Int32) then
      if a2 = 0 then
        f_X11_tally_32 a1 a2 M
      else
        if a2 = (1 : Int32) then
          f_X11_tally_32 a1 a2 M
        else
          mm_bi (f_X11_refuse (-2 : Int32) M) (fun r1 M1 =>
          some (r1, M1))
    else
      f_X11_tally_10 M
theorem s_X11_tally (a1 : Int32) (a2 : Int32) (M : mm_M) : Sim sysC Y_X11_tally 6 0 [(0, .ref 0), (1, .int (a1)), (2, .int (a2))] [] M mm_fI (f_X11_tally a1 a2 M) := by
  unfold f_X11_tally
  refine sim_iload_n 1 d_X11_tally_0 rfl rfl ?_
  refine sim_if_lt d_X11_tally_1 ?_ ?_
  ·
    exact sim_sub [0] rfl (s_X11_tally_10 M)
  ·
    refine sim_iload_n 1 d_X11_tally_4 rfl rfl ?_
    refine sim_bipush (10 : Int32) d_X11_tally_5 rfl ?_
    refine sim_icmp_lt d_X11_tally_7 ?_ ?_
    ·
      refine sim_iload_n 2 d_X11_tally_16 rfl rfl ?_
      refine sim_if_eq d_X11_tally_17 ?_ ?_
      ·
        exact sim_sub [0, 1, 2] rfl (s_X11_tally_32 a1 a2 M)
      ·
        refine sim_iload_n 2 d_X11_tally_20 rfl rfl ?_
        refine sim_iconst (1 : Int32) d_X11_tally_21 rfl ?_
        refine sim_icmp_eq d_X11_tally_22 ?_ ?_
        ·
          exact sim_sub [0, 1, 2] rfl (s_X11_tally_32 a1 a2 M)
        ·
          refine sim_aload_n 0 d_X11_tally_25 rfl rfl ?_
          refine sim_bipush (-2 : Int32) d_X11_tally_26 rfl ?_
          refine sim_callVi Y_X11_refuse 0 [.int ((-2 : Int32))] [] d_X11_tally_28 lk_X11_108 cv_X11_refuse ob_C_0 rfl (by omega) (Nat.le_of_ble_eq_true rfl) (ct_X11_refuse (-2 : Int32) M) (fun r1 M1 => ?_)
          exact sim_iret d_X11_tally_31 rfl
    ·
      exact sim_sub [0] rfl (s_X11_tally_10 M)
theorem ct_X11_tally (a1 : Int32) (a2 : Int32) (M : mm_M) : Ct sysC Y_X11_tally 6 [.ref 0, .int (a1), .int (a2)] M mm_fI (f_X11_tally a1 a2 M) :=
  ct_of_sim (by decide) rfl (Nat.le_of_ble_eq_true rfl) (s_X11_tally a1 a2 M)
def f_X1_worstOne_56 (k5 : Int32 → Int32 → mm_M → Option (Int32 × mm_M)) (x1 : Int32) (x2 : Int32) (M : mm_M) : Option (Int32 × mm_M) :=
  k5 x1 (x2 + (1 : Int32)) M
theorem s_X1_worstOne_56 (k5 : Int32 → Int32 → mm_M → Option (Int32 × mm_M)) (hk5 : ∀ (x1 : Int32) (x2 : Int32) (M : mm_M), Sim sysC Y_X1_worstOne 0 5 [(0, .ref 13), (1, .int (x1)), (2, .int (x2))] [] M mm_fI (k5 x1 x2 M)) (x1 : Int32) (x2 : Int32) (M : mm_M) : Sim sysC Y_X1_worstOne 0 56 [(0, .ref 13), (1, .int (x1)), (2, .int (x2))] [] M mm_fI (f_X1_worstOne_56 k5 x1 x2 M) := by
  unfold f_X1_worstOne_56
  refine sim_iinc (v := x2 + (1 : Int32)) (L' := [(0, .ref 13), (1, .int (x1)), (2, .int (x2 + (1 : Int32)))]) 2 d_X1_worstOne_56 (Nat.le_of_ble_eq_true rfl) rfl rfl rfl ?_
  refine sim_goto d_X1_worstOne_59 ?_
  exact sim_sub [0, 1, 2] rfl (hk5 x1 (x2 + (1 : Int32)) M)
def f_X1_worstOne_54 (k5 : Int32 → Int32 → mm_M → Option (Int32 × mm_M)) (x2 : Int32) (M : mm_M) : Option (Int32 × mm_M) :=
  f_X1_worstOne_56 k5 x2 x2 M
theorem s_X1_worstOne_54 (k5 : Int32 → Int32 → mm_M → Option (Int32 × mm_M)) (hk5 : ∀ (x1 : Int32) (x2 : Int32) (M : mm_M), Sim sysC Y_X1_worstOne 0 5 [(0, .ref 13), (1, .int (x1)), (2, .int (x2))] [] M mm_fI (k5 x1 x2 M)) (x2 : Int32) (M : mm_M) : Sim sysC Y_X1_worstOne 0 54 [(0, .ref 13), (2, .int (x2))] [] M mm_fI (f_X1_worstOne_54 k5 x2 M) := by
  unfold f_X1_worstOne_54
  refine sim_iload_n 1 d_X1_worstOne_54 rfl rfl ?_
  refine sim_istore_n (L' := [(0, .ref 13), (2, .int (x2)), (1, .int (x2))]) d_X1_worstOne_55 rfl (Nat.le_of_ble_eq_true rfl) rfl ?_
  exact sim_sub [0, 2, 1] rfl (s_X1_worstOne_56 k5 hk5 x2 x2 M)
def f_X1_worstOne_5 : Nat → Int32 → Int32 → mm_M → Option (Int32 × mm_M)
  | 0, _, _, _ => none
  | n + 1, x1, x2, M =>
  if (10 : Int32) ≤ x2 then
    some (x1, M)
  else
    mm_ck x2 10 (
    if (mI M 73 x2.toNatClampNeg) < (2 : Int32) then
      f_X1_worstOne_56 (f_X1_worstOne_5 n) x1 x2 M
    else
      if x1 < 0 then
        f_X1_worstOne_54 (f_X1_worstOne_5 n) x2 M
      else
        mm_ck x2 10 (
        mm_ck x1 10 (
        mm_ck x1 10 (
        mm_ck x2 10 (
        if ((mI M 74 x2.toNatClampNeg) * (mI M 73 x1.toNatClampNeg)) ≤ ((mI M 74 x1.toNatClampNeg) * (mI M 73 x2.toNatClampNeg)) then
          f_X1_worstOne_56 (f_X1_worstOne_5 n) x1 x2 M
        else
          f_X1_worstOne_54 (f_X1_worstOne_5 n) x2 M)))))
theorem s_X1_worstOne_5 (n : Nat) : ∀ (x1 : Int32) (x2 : Int32) (M : mm_M), Sim sysC Y_X1_worstOne 0 5 [(0, .ref 13), (1, .int (x1)), (2, .int (x2))] [] M mm_fI (f_X1_worstOne_5 n x1 x2 M) := by
  induction n with
  | zero => intros; exact sim_none
  | succ n ih =>
    intro x1 x2 M
    rw [f_X1_worstOne_5]
    refine sim_iload_n 2 d_X1_worstOne_5 rfl rfl ?_
    refine sim_bipush (10 : Int32) d_X1_worstOne_6 rfl ?_
    refine sim_icmp_ge d_X1_worstOne_8 ?_ ?_
    ·
      refine sim_iload_n 1 d_X1_worstOne_62 rfl rfl ?_
      exact sim_iret d_X1_worstOne_63 rfl
    ·
      refine sim_aload_n 0 d_X1_worstOne_11 rfl rfl ?_
      refine sim_geta d_X1_worstOne_12 fl_X1_27 ob_C_13 rfl ?_
      refine sim_iload_n 2 d_X1_worstOne_15 rfl rfl ?_
      refine sim_iald d_X1_worstOne_16 ar_C_73 ?_
      refine sim_iconst (2 : Int32) d_X1_worstOne_17 rfl ?_
      refine sim_icmp_lt d_X1_worstOne_18 ?_ ?_
      ·
        exact sim_sub [0, 1, 2] rfl (s_X1_worstOne_56 (f_X1_worstOne_5 n) ih x1 x2 M)
      ·
        refine sim_iload_n 1 d_X1_worstOne_21 rfl rfl ?_
        refine sim_if_lt d_X1_worstOne_22 ?_ ?_
        ·
          exact sim_sub [0, 2] rfl (s_X1_worstOne_54 (f_X1_worstOne_5 n) ih x2 M)
        ·
          refine sim_aload_n 0 d_X1_worstOne_25 rfl rfl ?_
          refine sim_geta d_X1_worstOne_26 fl_X1_30 ob_C_13 rfl ?_
          refine sim_iload_n 2 d_X1_worstOne_29 rfl rfl ?_
          refine sim_iald d_X1_worstOne_30 ar_C_74 ?_
          refine sim_aload_n 0 d_X1_worstOne_31 rfl rfl ?_
          refine sim_geta d_X1_worstOne_32 fl_X1_27 ob_C_13 rfl ?_
          refine sim_iload_n 1 d_X1_worstOne_35 rfl rfl ?_
          refine sim_iald d_X1_worstOne_36 ar_C_73 ?_
          refine sim_imul d_X1_worstOne_37 ?_
          refine sim_aload_n 0 d_X1_worstOne_38 rfl rfl ?_
          refine sim_geta d_X1_worstOne_39 fl_X1_30 ob_C_13 rfl ?_
          refine sim_iload_n 1 d_X1_worstOne_42 rfl rfl ?_
          refine sim_iald d_X1_worstOne_43 ar_C_74 ?_
          refine sim_aload_n 0 d_X1_worstOne_44 rfl rfl ?_
          refine sim_geta d_X1_worstOne_45 fl_X1_27 ob_C_13 rfl ?_
          refine sim_iload_n 2 d_X1_worstOne_48 rfl rfl ?_
          refine sim_iald d_X1_worstOne_49 ar_C_73 ?_
          refine sim_imul d_X1_worstOne_50 ?_
          refine sim_icmp_le d_X1_worstOne_51 ?_ ?_
          ·
            exact sim_sub [0, 1, 2] rfl (s_X1_worstOne_56 (f_X1_worstOne_5 n) ih x1 x2 M)
          ·
            exact sim_sub [0, 2] rfl (s_X1_worstOne_54 (f_X1_worstOne_5 n) ih x2 M)
def f_X1_worstOne (M : mm_M) : Option (Int32 × mm_M) :=
  f_X1_worstOne_5 mm_fu (-9 : Int32) (0 : Int32) M
theorem s_X1_worstOne (M : mm_M) : Sim sysC Y_X1_worstOne 0 0 [(0, .ref 13)] [] M mm_fI (f_X1_worstOne M) := by
  unfold f_X1_worstOne
  refine sim_bipush (-9 : Int32) d_X1_worstOne_0 rfl ?_
  refine sim_istore_n (L' := [(0, .ref 13), (1, .int ((-9 : Int32)))]) d_X1_worstOne_2 rfl (Nat.le_of_ble_eq_true rfl) rfl ?_
  refine sim_iconst (0 : Int32) d_X1_worstOne_3 rfl ?_
  refine sim_istore_n (L' := [(0, .ref 13), (1, .int ((-9 : Int32))), (2, .int ((0 : Int32)))]) d_X1_worstOne_4 rfl (Nat.le_of_ble_eq_true rfl) rfl ?_
  exact sim_sub [0, 1, 2] rfl (s_X1_worstOne_5 mm_fu (-9 : Int32) (0 : Int32) M)
theorem ct_X1_worstOne (M : mm_M) : Ct sysC Y_X1_worstOne 0 [.ref 13] M mm_fI (f_X1_worstOne M) :=
  ct_of_sim (by decide) rfl (Nat.le_of_ble_eq_true rfl) (s_X1_worstOne M)
def f_X11_worst (M : mm_M) : Option (Int32 × mm_M) :=
  mm_bv (f_X11_tallyClerks M) (fun M1 =>
  mm_bi (f_X1_worstOne M1) (fun r1 M2 =>
  some (r1, M2)))
theorem s_X11_worst (M : mm_M) : Sim sysC Y_X11_worst 6 0 [(0, .ref 0)] [] M mm_fI (f_X11_worst M) := by
  unfold f_X11_worst
  refine sim_aload_n 0 d_X11_worst_0 rfl rfl ?_
  refine sim_callVv Y_X11_tallyClerks 5 [] [] d_X11_worst_1 lk_X11_344 cv_X11_tallyClerks ob_C_0 rfl (by omega) (Nat.le_of_ble_eq_true rfl) (ct_X11_tallyClerks M) (fun M1 => ?_)
  refine sim_aload_n 0 d_X11_worst_4 rfl rfl ?_
  refine sim_geta d_X11_worst_5 fl_X11_77 ob_C_0 rfl ?_
  refine sim_callVi Y_X1_worstOne 0 [] [] d_X11_worst_8 lk_X11_353 cv_X1_worstOne ob_C_13 rfl (by omega) (Nat.le_of_ble_eq_true rfl) (ct_X1_worstOne M1) (fun r1 M2 => ?_)
  exact sim_iret d_X11_worst_11 rfl
theorem ct_X11_worst (M : mm_M) : Ct sysC Y_X11_worst 6 [.ref 0] M mm_fI (f_X11_worst M) :=
  ct_of_sim (by decide) rfl (Nat.le_of_ble_eq_true rfl) (s_X11_worst M)
def f_X11_cost (a1 : Int32) (a2 : Int32) (M : mm_M) : Option (Int32 × mm_M) :=
  mm_bi (f_X11_isKind a1 M) (fun r1 M1 =>
  if r1 = 0 then
    mm_bi (f_X11_refuse (-2 : Int32) M1) (fun r4 M5 =>
    some (r4, M5))
  else
    mm_bi (f_X11_outside a2 (0 : Int32) (500 : Int32) M1) (fun r2 M2 =>
    if r2 = 0 then
      mm_ck a1 5 (
      mm_let (mI M2 15 a1.toNatClampNeg) (fun v1 =>
      mm_ck a1 5 (
      mm_let (sI M2 15 a1.toNatClampNeg a2) (fun M3 =>
      some (v1, M3)))))
    else
      mm_bi (f_X11_refuse r2 M2) (fun r3 M4 =>
      some (r3, M4))))
theorem s_X11_cost (a1 : Int32) (a2 : Int32) (M : mm_M) : Sim sysC Y_X11_cost 1 0 [(0, .ref 0), (1, .int (a1)), (2, .int (a2))] [] M mm_fI (f_X11_cost a1 a2 M) := by
  unfold f_X11_cost
  refine sim_iload_n 1 d_X11_cost_0 rfl rfl ?_
  refine sim_callSi Y_X11_isKind 0 [.int (a1)] [] d_X11_cost_1 lk_X11_112 cs_X11_isKind rfl (by omega) (Nat.le_of_ble_eq_true rfl) (ct_X11_isKind a1 M) (fun r1 M1 => ?_)
  refine sim_if_ne d_X11_cost_4 ?_ ?_
  ·
    refine sim_iload_n 2 d_X11_cost_14 rfl rfl ?_
    refine sim_iconst (0 : Int32) d_X11_cost_15 rfl ?_
    refine sim_sipush (500 : Int32) d_X11_cost_16 rfl ?_
    refine sim_callSi Y_X11_outside 0 [.int (a2), .int ((0 : Int32)), .int ((500 : Int32))] [] d_X11_cost_19 lk_X11_131 cs_X11_outside rfl (by omega) (Nat.le_of_ble_eq_true rfl) (ct_X11_outside a2 (0 : Int32) (500 : Int32) M1) (fun r2 M2 => ?_)
    refine sim_istore_n (L' := [(0, .ref 0), (1, .int (a1)), (2, .int (a2)), (3, .int (r2))]) d_X11_cost_22 rfl (Nat.le_of_ble_eq_true rfl) rfl ?_
    refine sim_iload_n 3 d_X11_cost_23 rfl rfl ?_
    refine sim_if_eq d_X11_cost_24 ?_ ?_
    ·
      refine sim_aload_n 0 d_X11_cost_33 rfl rfl ?_
      refine sim_geta d_X11_cost_34 fl_X11_85 ob_C_0 rfl ?_
      refine sim_iload_n 1 d_X11_cost_37 rfl rfl ?_
      refine sim_iald d_X11_cost_38 ar_C_15 ?_
      refine sim_nmi (fun v1 => ?_)
      refine sim_istore (L' := [(0, .ref 0), (1, .int (a1)), (2, .int (a2)), (3, .int (r2)), (4, .int (v1))]) d_X11_cost_39 (Nat.le_of_ble_eq_true rfl) rfl ?_
      refine sim_aload_n 0 d_X11_cost_41 rfl rfl ?_
      refine sim_geta d_X11_cost_42 fl_X11_85 ob_C_0 rfl ?_
      refine sim_iload_n 1 d_X11_cost_45 rfl rfl ?_
      refine sim_iload_n 2 d_X11_cost_46 rfl rfl ?_
      refine sim_iast d_X11_cost_47 ar_C_15 ?_
      refine sim_nmM (fun M3 => ?_)
      refine sim_iload 4 d_X11_cost_48 rfl ?_
      exact sim_iret d_X11_cost_50 rfl
    ·
      refine sim_aload_n 0 d_X11_cost_27 rfl rfl ?_
      refine sim_iload_n 3 d_X11_cost_28 rfl rfl ?_
      refine sim_callVi Y_X11_refuse 0 [.int (r2)] [] d_X11_cost_29 lk_X11_108 cv_X11_refuse ob_C_0 rfl (by omega) (Nat.le_of_ble_eq_true rfl) (ct_X11_refuse r2 M2) (fun r3 M4 => ?_)
      exact sim_iret d_X11_cost_32 rfl
  ·
    refine sim_aload_n 0 d_X11_cost_7 rfl rfl ?_
    refine sim_bipush (-2 : Int32) d_X11_cost_8 rfl ?_
    refine sim_callVi Y_X11_refuse 0 [.int ((-2 : Int32))] [] d_X11_cost_10 lk_X11_108 cv_X11_refuse ob_C_0 rfl (by omega) (Nat.le_of_ble_eq_true rfl) (ct_X11_refuse (-2 : Int32) M1) (fun r4 M5 => ?_)
    exact sim_iret d_X11_cost_13 rfl
theorem ct_X11_cost (a1 : Int32) (a2 : Int32) (M : mm_M) : Ct sysC Y_X11_cost 1 [.ref 0, .int (a1), .int (a2)] M mm_fI (f_X11_cost a1 a2 M) :=
  ct_of_sim (by decide) rfl (Nat.le_of_ble_eq_true rfl) (s_X11_cost a1 a2 M)
def f_X2_isOther_7 (a1 : Int32) (M : mm_M) : Option (Int32 × mm_M) :=
  mm_ck a1 40 (
  if (mI M 56 a1.toNatClampNeg) = 0 then
    some ((0 : Int32), M)
  else
    mm_ck a1 40 (
    if (mI M 57 a1.toNatClampNeg) = 0 then
      some ((1 : Int32), M)
    else
      some ((0 : Int32), M)))
theorem s_X2_isOther_7 (a1 : Int32) (M : mm_M) : Sim sysC Y_X2_isOther 0 0 [(0, .ref 7), (1, .int (a1))] [] M mm_fI (f_X2_isOther_7 a1 M) := by
  unfold f_X2_isOther_7
  refine sim_aload_n 0 d_X2_isOther_0 rfl rfl ?_
  refine sim_geta d_X2_isOther_1 fl_X2_15 ob_C_7 rfl ?_
  refine sim_iload_n 1 d_X2_isOther_4 rfl rfl ?_
  refine sim_zald d_X2_isOther_5 ar_C_56 ?_
  refine sim_if_eq d_X2_isOther_6 ?_ ?_
  ·
    refine sim_iconst (0 : Int32) d_X2_isOther_22 rfl ?_
    exact sim_zret d_X2_isOther_23 rfl rfl
  ·
    refine sim_aload_n 0 d_X2_isOther_9 rfl rfl ?_
    refine sim_geta d_X2_isOther_10 fl_X2_18 ob_C_7 rfl ?_
    refine sim_iload_n 1 d_X2_isOther_13 rfl rfl ?_
    refine sim_zald d_X2_isOther_14 ar_C_57 ?_
    refine sim_if_ne d_X2_isOther_15 ?_ ?_
    ·
      refine sim_iconst (0 : Int32) d_X2_isOther_22 rfl ?_
      exact sim_zret d_X2_isOther_23 rfl rfl
    ·
      refine sim_iconst (1 : Int32) d_X2_isOther_18 rfl ?_
      refine sim_goto d_X2_isOther_19 ?_
      exact sim_zret d_X2_isOther_23 rfl rfl
theorem ct_X2_isOther_7 (a1 : Int32) (M : mm_M) : Ct sysC Y_X2_isOther 0 [.ref 7, .int (a1)] M mm_fI (f_X2_isOther_7 a1 M) :=
  ct_of_sim (by decide) rfl (Nat.le_of_ble_eq_true rfl) (s_X2_isOther_7 a1 M)
def f_X2_makeSure_7_80 (k15 : Int32 → Int32 → Int32 → Int32 → mm_M → Option (Int32 × mm_M)) (x1 : Int32) (x2 : Int32) (x3 : Int32) (x4 : Int32) (M : mm_M) : Option (Int32 × mm_M) :=
  k15 x1 x2 x3 (x4 + (1 : Int32)) M
theorem s_X2_makeSure_7_80 (k15 : Int32 → Int32 → Int32 → Int32 → mm_M → Option (Int32 × mm_M)) (hk15 : ∀ (x1 : Int32) (x2 : Int32) (x3 : Int32) (x4 : Int32) (M : mm_M), Sim sysC Y_X2_makeSure 1 15 [(0, .ref 7), (1, .int (x1)), (2, .int (x2)), (3, .int (x3)), (4, .int (x4))] [] M mm_fI (k15 x1 x2 x3 x4 M)) (x1 : Int32) (x2 : Int32) (x3 : Int32) (x4 : Int32) (M : mm_M) : Sim sysC Y_X2_makeSure 1 80 [(0, .ref 7), (1, .int (x1)), (2, .int (x2)), (3, .int (x3)), (4, .int (x4))] [] M mm_fI (f_X2_makeSure_7_80 k15 x1 x2 x3 x4 M) := by
  unfold f_X2_makeSure_7_80
  refine sim_iinc (v := x4 + (1 : Int32)) (L' := [(0, .ref 7), (1, .int (x1)), (2, .int (x2)), (3, .int (x3)), (4, .int (x4 + (1 : Int32)))]) 4 d_X2_makeSure_80 (Nat.le_of_ble_eq_true rfl) rfl rfl rfl ?_
  refine sim_goto d_X2_makeSure_83 ?_
  exact sim_sub [0, 1, 2, 3, 4] rfl (hk15 x1 x2 x3 (x4 + (1 : Int32)) M)
def f_X2_makeSure_7_15 : Nat → Int32 → Int32 → Int32 → Int32 → mm_M → Option (Int32 × mm_M)
  | 0, _, _, _, _, _ => none
  | n + 1, x1, x2, x3, x4, M =>
  if (40 : Int32) ≤ x4 then
    mm_bz x3 (some (x3, M))
  else
    mm_bi (f_X2_isOther_7 x4 M) (fun r1 M1 =>
    if r1 = 0 then
      f_X2_makeSure_7_80 (f_X2_makeSure_7_15 n) x1 x2 x3 x4 M1
    else
      mm_ck x4 40 (
      if (x1 * (mI M1 58 x4.toNatClampNeg)) < x2 then
        f_X2_makeSure_7_80 (f_X2_makeSure_7_15 n) x1 x2 x3 x4 M1
      else
        mm_ck x4 40 (
        mm_let (sI M1 57 x4.toNatClampNeg ((1 : Int32) &&& 1)) (fun M2 =>
        mm_let (sI M2 7 4 ((mI M2 7 4) - (1 : Int32))) (fun M3 =>
        mm_ck x4 40 (
        mm_let (sI M3 7 5 ((mI M3 7 5) - (mI M3 58 x4.toNatClampNeg))) (fun M4 =>
        f_X2_makeSure_7_80 (f_X2_makeSure_7_15 n) x1 x2 (1 : Int32) x4 M4)))))))
theorem s_X2_makeSure_7_15 (n : Nat) : ∀ (x1 : Int32) (x2 : Int32) (x3 : Int32) (x4 : Int32) (M : mm_M), Sim sysC Y_X2_makeSure 1 15 [(0, .ref 7), (1, .int (x1)), (2, .int (x2)), (3, .int (x3)), (4, .int (x4))] [] M mm_fI (f_X2_makeSure_7_15 n x1 x2 x3 x4 M) := by
  induction n with
  | zero => intros; exact sim_none
  | succ n ih =>
    intro x1 x2 x3 x4 M
    rw [f_X2_makeSure_7_15]
    refine sim_iload 4 d_X2_makeSure_15 rfl ?_
    refine sim_bipush (40 : Int32) d_X2_makeSure_17 rfl ?_
    refine sim_icmp_ge d_X2_makeSure_19 ?_ ?_
    ·
      refine sim_iload_n 3 d_X2_makeSure_86 rfl rfl ?_
      exact sim_zretb d_X2_makeSure_87 rfl
    ·
      refine sim_aload_n 0 d_X2_makeSure_22 rfl rfl ?_
      refine sim_iload 4 d_X2_makeSure_23 rfl ?_
      refine sim_callVi Y_X2_isOther 0 [.int (x4)] [] d_X2_makeSure_25 lk_X2_49 cv_X2_isOther ob_C_7 rfl (by omega) (Nat.le_of_ble_eq_true rfl) (ct_X2_isOther_7 x4 M) (fun r1 M1 => ?_)
      refine sim_if_eq d_X2_makeSure_28 ?_ ?_
      ·
        exact sim_sub [0, 1, 2, 3, 4] rfl (s_X2_makeSure_7_80 (f_X2_makeSure_7_15 n) ih x1 x2 x3 x4 M1)
      ·
        refine sim_iload_n 1 d_X2_makeSure_31 rfl rfl ?_
        refine sim_aload_n 0 d_X2_makeSure_32 rfl rfl ?_
        refine sim_geta d_X2_makeSure_33 fl_X2_21 ob_C_7 rfl ?_
        refine sim_iload 4 d_X2_makeSure_36 rfl ?_
        refine sim_iald d_X2_makeSure_38 ar_C_58 ?_
        refine sim_imul d_X2_makeSure_39 ?_
        refine sim_iload_n 2 d_X2_makeSure_40 rfl rfl ?_
        refine sim_icmp_lt d_X2_makeSure_41 ?_ ?_
        ·
          exact sim_sub [0, 1, 2, 3, 4] rfl (s_X2_makeSure_7_80 (f_X2_makeSure_7_15 n) ih x1 x2 x3 x4 M1)
        ·
          refine sim_aload_n 0 d_X2_makeSure_44 rfl rfl ?_
          refine sim_geta d_X2_makeSure_45 fl_X2_18 ob_C_7 rfl ?_
          refine sim_iload 4 d_X2_makeSure_48 rfl ?_
          refine sim_iconst (1 : Int32) d_X2_makeSure_50 rfl ?_
          refine sim_zast d_X2_makeSure_51 ar_C_57 ?_
          refine sim_nmM (fun M2 => ?_)
          refine sim_aload_n 0 d_X2_makeSure_52 rfl rfl ?_
          refine sim_dup d_X2_makeSure_53 rfl ?_
          refine sim_geti d_X2_makeSure_54 fl_X2_25 ob_C_7 rfl ?_
          refine sim_iconst (1 : Int32) d_X2_makeSure_57 rfl ?_
          refine sim_isub d_X2_makeSure_58 ?_
          refine sim_puti d_X2_makeSure_59 fl_X2_25 ob_C_7 rfl ?_
          refine sim_nmM (fun M3 => ?_)
          refine sim_aload_n 0 d_X2_makeSure_62 rfl rfl ?_
          refine sim_dup d_X2_makeSure_63 rfl ?_
          refine sim_geti d_X2_makeSure_64 fl_X2_29 ob_C_7 rfl ?_
          refine sim_aload_n 0 d_X2_makeSure_67 rfl rfl ?_
          refine sim_geta d_X2_makeSure_68 fl_X2_21 ob_C_7 rfl ?_
          refine sim_iload 4 d_X2_makeSure_71 rfl ?_
          refine sim_iald d_X2_makeSure_73 ar_C_58 ?_
          refine sim_isub d_X2_makeSure_74 ?_
          refine sim_puti d_X2_makeSure_75 fl_X2_29 ob_C_7 rfl ?_
          refine sim_nmM (fun M4 => ?_)
          refine sim_iconst (1 : Int32) d_X2_makeSure_78 rfl ?_
          refine sim_istore_n (L' := [(0, .ref 7), (1, .int (x1)), (2, .int (x2)), (4, .int (x4)), (3, .int ((1 : Int32)))]) d_X2_makeSure_79 rfl (Nat.le_of_ble_eq_true rfl) rfl ?_
          exact sim_sub [0, 1, 2, 4, 3] rfl (s_X2_makeSure_7_80 (f_X2_makeSure_7_15 n) ih x1 x2 (1 : Int32) x4 M4)
def f_X2_makeSure_7 (M : mm_M) : Option (Int32 × mm_M) :=
  mm_let (mI M 7 4) (fun v1 =>
  mm_let (mI M 7 5) (fun v2 =>
  f_X2_makeSure_7_15 mm_fu v1 v2 (0 : Int32) (0 : Int32) M))
theorem s_X2_makeSure_7 (M : mm_M) : Sim sysC Y_X2_makeSure 1 0 [(0, .ref 7)] [] M mm_fI (f_X2_makeSure_7 M) := by
  unfold f_X2_makeSure_7
  refine sim_aload_n 0 d_X2_makeSure_0 rfl rfl ?_
  refine sim_geti d_X2_makeSure_1 fl_X2_25 ob_C_7 rfl ?_
  refine sim_nmi (fun v1 => ?_)
  refine sim_istore_n (L' := [(0, .ref 7), (1, .int (v1))]) d_X2_makeSure_4 rfl (Nat.le_of_ble_eq_true rfl) rfl ?_
  refine sim_aload_n 0 d_X2_makeSure_5 rfl rfl ?_
  refine sim_geti d_X2_makeSure_6 fl_X2_29 ob_C_7 rfl ?_
  refine sim_nmi (fun v2 => ?_)
  refine sim_istore_n (L' := [(0, .ref 7), (1, .int (v1)), (2, .int (v2))]) d_X2_makeSure_9 rfl (Nat.le_of_ble_eq_true rfl) rfl ?_
  refine sim_iconst (0 : Int32) d_X2_makeSure_10 rfl ?_
  refine sim_istore_n (L' := [(0, .ref 7), (1, .int (v1)), (2, .int (v2)), (3, .int ((0 : Int32)))]) d_X2_makeSure_11 rfl (Nat.le_of_ble_eq_true rfl) rfl ?_
  refine sim_iconst (0 : Int32) d_X2_makeSure_12 rfl ?_
  refine sim_istore (L' := [(0, .ref 7), (1, .int (v1)), (2, .int (v2)), (3, .int ((0 : Int32))), (4, .int ((0 : Int32)))]) d_X2_makeSure_13 (Nat.le_of_ble_eq_true rfl) rfl ?_
  exact sim_sub [0, 1, 2, 3, 4] rfl (s_X2_makeSure_7_15 mm_fu v1 v2 (0 : Int32) (0 : Int32) M)
theorem ct_X2_makeSure_7 (M : mm_M) : Ct sysC Y_X2_makeSure 1 [.ref 7] M mm_fI (f_X2_makeSure_7 M) :=
  ct_of_sim (by decide) rfl (Nat.le_of_ble_eq_true rfl) (s_X2_makeSure_7 M)
def f_X2_reckon_7_77 (k12 : Int32 → mm_M → Option (mm_M)) (x3 : Int32) (t1 : Int32) (t2 : Int32) (M : mm_M) : Option (mm_M) :=
  mm_ck t1 40 (
  mm_let (sI M 58 t1.toNatClampNeg t2) (fun M1 =>
  mm_ck x3 40 (
  mm_let (sI M1 7 5 ((mI M1 7 5) + (mI M1 58 x3.toNatClampNeg))) (fun M2 =>
  k12 (x3 + (1 : Int32)) M2))))
theorem s_X2_reckon_7_77 (k12 : Int32 → mm_M → Option (mm_M)) (hk12 : ∀ (x3 : Int32) (M : mm_M), Sim sysC Y_X2_reckon 2 12 [(0, .ref 7), (1, .ref 2), (3, .int (x3))] [] M mm_fV (k12 x3 M)) (x3 : Int32) (t1 : Int32) (t2 : Int32) (M : mm_M) : Sim sysC Y_X2_reckon 2 77 [(0, .ref 7), (1, .ref 2), (3, .int (x3))] [.int (t2), .int (t1), .ref 58] M mm_fV (f_X2_reckon_7_77 k12 x3 t1 t2 M) := by
  unfold f_X2_reckon_7_77
  refine sim_iast d_X2_reckon_77 ar_C_58 ?_
  refine sim_nmM (fun M1 => ?_)
  refine sim_aload_n 0 d_X2_reckon_78 rfl rfl ?_
  refine sim_dup d_X2_reckon_79 rfl ?_
  refine sim_geti d_X2_reckon_80 fl_X2_29 ob_C_7 rfl ?_
  refine sim_aload_n 0 d_X2_reckon_83 rfl rfl ?_
  refine sim_geta d_X2_reckon_84 fl_X2_21 ob_C_7 rfl ?_
  refine sim_iload_n 2 d_X2_reckon_87 rfl rfl ?_
  refine sim_iald d_X2_reckon_88 ar_C_58 ?_
  refine sim_iadd d_X2_reckon_89 ?_
  refine sim_puti d_X2_reckon_90 fl_X2_29 ob_C_7 rfl ?_
  refine sim_nmM (fun M2 => ?_)
  refine sim_iinc (v := x3 + (1 : Int32)) (L' := [(0, .ref 7), (1, .ref 2), (3, .int (x3 + (1 : Int32)))]) 2 d_X2_reckon_93 (Nat.le_of_ble_eq_true rfl) rfl rfl rfl ?_
  refine sim_goto d_X2_reckon_96 ?_
  exact sim_sub [0, 1, 2] rfl (hk12 (x3 + (1 : Int32)) M2)
def f_X2_reckon_7_45 (k12 : Int32 → mm_M → Option (mm_M)) (x3 : Int32) (t1 : Int32) (t2 : Int32) (M : mm_M) : Option (mm_M) :=
  mm_ck t1 40 (
  mm_let (sI M 56 t1.toNatClampNeg (t2 &&& 1)) (fun M1 =>
  mm_ck x3 40 (
  mm_let (sI M1 57 x3.toNatClampNeg ((0 : Int32) &&& 1)) (fun M2 =>
  mm_ck x3 40 (
  if (mI M2 56 x3.toNatClampNeg) = 0 then
    f_X2_reckon_7_77 k12 x3 x3 (0 : Int32) M2
  else
    mm_ck x3 40 (
    f_X2_reckon_7_77 k12 x3 x3 (mI M2 30 x3.toNatClampNeg) M2))))))
theorem s_X2_reckon_7_45 (k12 : Int32 → mm_M → Option (mm_M)) (hk12 : ∀ (x3 : Int32) (M : mm_M), Sim sysC Y_X2_reckon 2 12 [(0, .ref 7), (1, .ref 2), (3, .int (x3))] [] M mm_fV (k12 x3 M)) (x3 : Int32) (t1 : Int32) (t2 : Int32) (M : mm_M) : Sim sysC Y_X2_reckon 2 45 [(0, .ref 7), (1, .ref 2), (3, .int (x3))] [.int (t2), .int (t1), .ref 56] M mm_fV (f_X2_reckon_7_45 k12 x3 t1 t2 M) := by
  unfold f_X2_reckon_7_45
  refine sim_zast d_X2_reckon_45 ar_C_56 ?_
  refine sim_nmM (fun M1 => ?_)
  refine sim_aload_n 0 d_X2_reckon_46 rfl rfl ?_
  refine sim_geta d_X2_reckon_47 fl_X2_18 ob_C_7 rfl ?_
  refine sim_iload_n 2 d_X2_reckon_50 rfl rfl ?_
  refine sim_iconst (0 : Int32) d_X2_reckon_51 rfl ?_
  refine sim_zast d_X2_reckon_52 ar_C_57 ?_
  refine sim_nmM (fun M2 => ?_)
  refine sim_aload_n 0 d_X2_reckon_53 rfl rfl ?_
  refine sim_geta d_X2_reckon_54 fl_X2_21 ob_C_7 rfl ?_
  refine sim_iload_n 2 d_X2_reckon_57 rfl rfl ?_
  refine sim_aload_n 0 d_X2_reckon_58 rfl rfl ?_
  refine sim_geta d_X2_reckon_59 fl_X2_15 ob_C_7 rfl ?_
  refine sim_iload_n 2 d_X2_reckon_62 rfl rfl ?_
  refine sim_zald d_X2_reckon_63 ar_C_56 ?_
  refine sim_if_eq d_X2_reckon_64 ?_ ?_
  ·
    refine sim_iconst (0 : Int32) d_X2_reckon_76 rfl ?_
    exact sim_sub [0, 1, 2] rfl (s_X2_reckon_7_77 k12 hk12 x3 x3 (0 : Int32) M2)
  ·
    refine sim_aload_n 1 d_X2_reckon_67 rfl rfl ?_
    refine sim_geta d_X2_reckon_68 fl_X2_44 ob_C_2 rfl ?_
    refine sim_iload_n 2 d_X2_reckon_71 rfl rfl ?_
    refine sim_iald d_X2_reckon_72 ar_C_30 ?_
    refine sim_goto d_X2_reckon_73 ?_
    exact sim_sub [0, 1, 2] rfl (s_X2_reckon_7_77 k12 hk12 x3 x3 (mI M2 30 x3.toNatClampNeg) M2)
def f_X2_reckon_7_44 (k12 : Int32 → mm_M → Option (mm_M)) (x3 : Int32) (t1 : Int32) (M : mm_M) : Option (mm_M) :=
  f_X2_reckon_7_45 k12 x3 t1 (0 : Int32) M
theorem s_X2_reckon_7_44 (k12 : Int32 → mm_M → Option (mm_M)) (hk12 : ∀ (x3 : Int32) (M : mm_M), Sim sysC Y_X2_reckon 2 12 [(0, .ref 7), (1, .ref 2), (3, .int (x3))] [] M mm_fV (k12 x3 M)) (x3 : Int32) (t1 : Int32) (M : mm_M) : Sim sysC Y_X2_reckon 2 44 [(0, .ref 7), (1, .ref 2), (3, .int (x3))] [.int (t1), .ref 56] M mm_fV (f_X2_reckon_7_44 k12 x3 t1 M) := by
  unfold f_X2_reckon_7_44
  refine sim_iconst (0 : Int32) d_X2_reckon_44 rfl ?_
  exact sim_sub [0, 1, 2] rfl (s_X2_reckon_7_45 k12 hk12 x3 t1 (0 : Int32) M)
def f_X2_reckon_7_12 (k99 : mm_M → Option (mm_M)) : Nat → Int32 → mm_M → Option (mm_M)
  | 0, _, _ => none
  | n + 1, x3, M =>
  if (40 : Int32) ≤ x3 then
    k99 M
  else
    mm_bi (f_X6_has x3 M) (fun r1 M1 =>
    if r1 = 0 then
      f_X2_reckon_7_44 (f_X2_reckon_7_12 k99 n) x3 x3 M1
    else
      mm_ck x3 40 (
      if (mI M1 31 x3.toNatClampNeg) = 0 then
        f_X2_reckon_7_44 (f_X2_reckon_7_12 k99 n) x3 x3 M1
      else
        f_X2_reckon_7_45 (f_X2_reckon_7_12 k99 n) x3 x3 (1 : Int32) M1))
theorem s_X2_reckon_7_12 (k99 : mm_M → Option (mm_M)) (hk99 : ∀  (M : mm_M), Sim sysC Y_X2_reckon 2 99 [(0, .ref 7)] [] M mm_fV (k99 M)) (n : Nat) : ∀ (x3 : Int32) (M : mm_M), Sim sysC Y_X2_reckon 2 12 [(0, .ref 7), (1, .ref 2), (3, .int (x3))] [] M mm_fV (f_X2_reckon_7_12 k99 n x3 M) := by
  induction n with
  | zero => intros; exact sim_none
  | succ n ih =>
    intro x3 M
    rw [f_X2_reckon_7_12]
    refine sim_iload_n 2 d_X2_reckon_12 rfl rfl ?_
    refine sim_bipush (40 : Int32) d_X2_reckon_13 rfl ?_
    refine sim_icmp_ge d_X2_reckon_15 ?_ ?_
    ·
      exact sim_sub [0] rfl (hk99 M)
    ·
      refine sim_aload_n 0 d_X2_reckon_18 rfl rfl ?_
      refine sim_geta d_X2_reckon_19 fl_X2_15 ob_C_7 rfl ?_
      refine sim_iload_n 2 d_X2_reckon_22 rfl rfl ?_
      refine sim_aload_n 1 d_X2_reckon_23 rfl rfl ?_
      refine sim_iload_n 2 d_X2_reckon_24 rfl rfl ?_
      refine sim_callVi Y_X6_has 0 [.int (x3)] [.int (x3), .ref 56] d_X2_reckon_25 lk_X2_35 cv_X6_has ob_C_2 rfl (by omega) (Nat.le_of_ble_eq_true rfl) (ct_X6_has x3 M) (fun r1 M1 => ?_)
      refine sim_if_eq d_X2_reckon_28 ?_ ?_
      ·
        exact sim_sub [0, 1, 2] rfl (s_X2_reckon_7_44 (f_X2_reckon_7_12 k99 n) ih x3 x3 M1)
      ·
        refine sim_aload_n 1 d_X2_reckon_31 rfl rfl ?_
        refine sim_geta d_X2_reckon_32 fl_X2_41 ob_C_2 rfl ?_
        refine sim_iload_n 2 d_X2_reckon_35 rfl rfl ?_
        refine sim_zald d_X2_reckon_36 ar_C_31 ?_
        refine sim_if_eq d_X2_reckon_37 ?_ ?_
        ·
          exact sim_sub [0, 1, 2] rfl (s_X2_reckon_7_44 (f_X2_reckon_7_12 k99 n) ih x3 x3 M1)
        ·
          refine sim_iconst (1 : Int32) d_X2_reckon_40 rfl ?_
          refine sim_goto d_X2_reckon_41 ?_
          exact sim_sub [0, 1, 2] rfl (s_X2_reckon_7_45 (f_X2_reckon_7_12 k99 n) ih x3 x3 (1 : Int32) M1)
def f_X2_reckon_7_101 : Nat → Int32 → mm_M → Option (mm_M)
  | 0, _, _ => none
  | n + 1, x3, M =>
  if (40 : Int32) ≤ x3 then
    some M
  else
    mm_bi (f_X2_makeSure_7 M) (fun r1 M1 =>
    if r1 = 0 then
      some M1
    else
      f_X2_reckon_7_101 n (x3 + (1 : Int32)) M1)
theorem s_X2_reckon_7_101 (n : Nat) : ∀ (x3 : Int32) (M : mm_M), Sim sysC Y_X2_reckon 2 101 [(0, .ref 7), (3, .int (x3))] [] M mm_fV (f_X2_reckon_7_101 n x3 M) := by
  induction n with
  | zero => intros; exact sim_none
  | succ n ih =>
    intro x3 M
    rw [f_X2_reckon_7_101]
    refine sim_iload_n 1 d_X2_reckon_101 rfl rfl ?_
    refine sim_bipush (40 : Int32) d_X2_reckon_102 rfl ?_
    refine sim_icmp_ge d_X2_reckon_104 ?_ ?_
    ·
      exact sim_vret d_X2_reckon_123 rfl
    ·
      refine sim_aload_n 0 d_X2_reckon_107 rfl rfl ?_
      refine sim_callVi Y_X2_makeSure 1 [] [] d_X2_reckon_108 lk_X2_45 cv_X2_makeSure ob_C_7 rfl (by omega) (Nat.le_of_ble_eq_true rfl) (ct_X2_makeSure_7 M) (fun r1 M1 => ?_)
      refine sim_if_ne d_X2_reckon_111 ?_ ?_
      ·
        refine sim_iinc (v := x3 + (1 : Int32)) (L' := [(0, .ref 7), (3, .int (x3 + (1 : Int32)))]) 1 d_X2_reckon_117 (Nat.le_of_ble_eq_true rfl) rfl rfl rfl ?_
        refine sim_goto d_X2_reckon_120 ?_
        exact sim_sub [0, 1] rfl (ih (x3 + (1 : Int32)) M1)
      ·
        refine sim_goto d_X2_reckon_114 ?_
        exact sim_vret d_X2_reckon_123 rfl
def f_X2_reckon_7_99 (M : mm_M) : Option (mm_M) :=
  f_X2_reckon_7_101 mm_fu (0 : Int32) M
theorem s_X2_reckon_7_99 (M : mm_M) : Sim sysC Y_X2_reckon 2 99 [(0, .ref 7)] [] M mm_fV (f_X2_reckon_7_99 M) := by
  unfold f_X2_reckon_7_99
  refine sim_iconst (0 : Int32) d_X2_reckon_99 rfl ?_
  refine sim_istore_n (L' := [(0, .ref 7), (3, .int ((0 : Int32)))]) d_X2_reckon_100 rfl (Nat.le_of_ble_eq_true rfl) rfl ?_
  exact sim_sub [0, 1] rfl (s_X2_reckon_7_101 mm_fu (0 : Int32) M)
def f_X2_reckon_7 (a2 : Int32) (M : mm_M) : Option (mm_M) :=
  mm_let (sI M 7 4 a2) (fun M1 =>
  mm_let (sI M1 7 5 (0 : Int32)) (fun M2 =>
  f_X2_reckon_7_12 f_X2_reckon_7_99 mm_fu (0 : Int32) M2))
theorem s_X2_reckon_7 (a2 : Int32) (M : mm_M) : Sim sysC Y_X2_reckon 2 0 [(0, .ref 7), (1, .ref 2), (2, .int (a2))] [] M mm_fV (f_X2_reckon_7 a2 M) := by
  unfold f_X2_reckon_7
  refine sim_aload_n 0 d_X2_reckon_0 rfl rfl ?_
  refine sim_iload_n 2 d_X2_reckon_1 rfl rfl ?_
  refine sim_puti d_X2_reckon_2 fl_X2_25 ob_C_7 rfl ?_
  refine sim_nmM (fun M1 => ?_)
  refine sim_aload_n 0 d_X2_reckon_5 rfl rfl ?_
  refine sim_iconst (0 : Int32) d_X2_reckon_6 rfl ?_
  refine sim_puti d_X2_reckon_7 fl_X2_29 ob_C_7 rfl ?_
  refine sim_nmM (fun M2 => ?_)
  refine sim_iconst (0 : Int32) d_X2_reckon_10 rfl ?_
  refine sim_istore_n (L' := [(0, .ref 7), (1, .ref 2), (2, .int (a2)), (3, .int ((0 : Int32)))]) d_X2_reckon_11 rfl (Nat.le_of_ble_eq_true rfl) rfl ?_
  exact sim_sub [0, 1, 3] rfl (s_X2_reckon_7_12 f_X2_reckon_7_99 s_X2_reckon_7_99 mm_fu (0 : Int32) M2)
theorem ct_X2_reckon_7 (a2 : Int32) (M : mm_M) : Ct sysC Y_X2_reckon 2 [.ref 7, .ref 2, .int (a2)] M mm_fV (f_X2_reckon_7 a2 M) :=
  ct_of_sim (by decide) rfl (Nat.le_of_ble_eq_true rfl) (s_X2_reckon_7 a2 M)
def f_X2_costsAtMost_7_89 (k9 : Int32 → Int32 → Int32 → Int32 → mm_M → Option (Int32 × mm_M)) (x1 : Int32) (x4 : Int32) (x5 : Int32) (x6 : Int32) (M : mm_M) : Option (Int32 × mm_M) :=
  k9 x1 x4 x5 (x6 + (1 : Int32)) M
theorem s_X2_costsAtMost_7_89 (k9 : Int32 → Int32 → Int32 → Int32 → mm_M → Option (Int32 × mm_M)) (hk9 : ∀ (x1 : Int32) (x4 : Int32) (x5 : Int32) (x6 : Int32) (M : mm_M), Sim sysC Y_X2_costsAtMost 0 9 [(0, .ref 7), (1, .int (x1)), (2, .ref 2), (3, .ref 15), (4, .int (x4)), (5, .int (x5)), (6, .int (x6))] [] M mm_fI (k9 x1 x4 x5 x6 M)) (x1 : Int32) (x4 : Int32) (x5 : Int32) (x6 : Int32) (M : mm_M) : Sim sysC Y_X2_costsAtMost 0 89 [(0, .ref 7), (1, .int (x1)), (2, .ref 2), (3, .ref 15), (4, .int (x4)), (5, .int (x5)), (6, .int (x6))] [] M mm_fI (f_X2_costsAtMost_7_89 k9 x1 x4 x5 x6 M) := by
  unfold f_X2_costsAtMost_7_89
  refine sim_iinc (v := x6 + (1 : Int32)) (L' := [(0, .ref 7), (1, .int (x1)), (2, .ref 2), (3, .ref 15), (4, .int (x4)), (5, .int (x5)), (6, .int (x6 + (1 : Int32)))]) 6 d_X2_costsAtMost_89 (Nat.le_of_ble_eq_true rfl) rfl rfl rfl ?_
  refine sim_goto d_X2_costsAtMost_92 ?_
  exact sim_sub [0, 1, 2, 3, 4, 5, 6] rfl (hk9 x1 x4 x5 (x6 + (1 : Int32)) M)
def f_X2_costsAtMost_7_9 (k95 : Int32 → Int32 → Int32 → mm_M → Option (Int32 × mm_M)) : Nat → Int32 → Int32 → Int32 → Int32 → mm_M → Option (Int32 × mm_M)
  | 0, _, _, _, _, _ => none
  | n + 1, x1, x4, x5, x6, M =>
  if (40 : Int32) ≤ x6 then
    k95 x1 x4 x5 M
  else
    mm_ck x6 40 (
    mm_let (mI M 26 x6.toNatClampNeg) (fun v1 =>
    mm_ck x6 40 (
    if (mI M 56 x6.toNatClampNeg) = 0 then
      f_X2_costsAtMost_7_89 (f_X2_costsAtMost_7_9 k95 n) x1 x4 x5 x6 M
    else
      if v1 < 0 then
        f_X2_costsAtMost_7_89 (f_X2_costsAtMost_7_9 k95 n) x1 x4 x5 x6 M
      else
        if v1 < (5 : Int32) then
          mm_ck x6 40 (
          if (mI M 57 x6.toNatClampNeg) = 0 then
            mm_ck x6 40 (
            mm_ck v1 5 (
            mm_let (x5 + ((mI M 58 x6.toNatClampNeg) * (mI M 15 v1.toNatClampNeg))) (fun v2 =>
            f_X2_costsAtMost_7_89 (f_X2_costsAtMost_7_9 k95 n) x1 x4 v2 x6 M)))
          else
            mm_ck v1 5 (
            mm_let (x4 + (mI M 15 v1.toNatClampNeg)) (fun v3 =>
            f_X2_costsAtMost_7_89 (f_X2_costsAtMost_7_9 k95 n) x1 v3 x5 x6 M)))
        else
          f_X2_costsAtMost_7_89 (f_X2_costsAtMost_7_9 k95 n) x1 x4 x5 x6 M)))
theorem s_X2_costsAtMost_7_9 (k95 : Int32 → Int32 → Int32 → mm_M → Option (Int32 × mm_M)) (hk95 : ∀ (x1 : Int32) (x4 : Int32) (x5 : Int32) (M : mm_M), Sim sysC Y_X2_costsAtMost 0 95 [(0, .ref 7), (1, .int (x1)), (4, .int (x4)), (5, .int (x5))] [] M mm_fI (k95 x1 x4 x5 M)) (n : Nat) : ∀ (x1 : Int32) (x4 : Int32) (x5 : Int32) (x6 : Int32) (M : mm_M), Sim sysC Y_X2_costsAtMost 0 9 [(0, .ref 7), (1, .int (x1)), (2, .ref 2), (3, .ref 15), (4, .int (x4)), (5, .int (x5)), (6, .int (x6))] [] M mm_fI (f_X2_costsAtMost_7_9 k95 n x1 x4 x5 x6 M) := by
  induction n with
  | zero => intros; exact sim_none
  | succ n ih =>
    intro x1 x4 x5 x6 M
    rw [f_X2_costsAtMost_7_9]
    refine sim_iload 6 d_X2_costsAtMost_9 rfl ?_
    refine sim_bipush (40 : Int32) d_X2_costsAtMost_11 rfl ?_
    refine sim_icmp_ge d_X2_costsAtMost_13 ?_ ?_
    ·
      exact sim_sub [0, 1, 4, 5] rfl (hk95 x1 x4 x5 M)
    ·
      refine sim_aload_n 2 d_X2_costsAtMost_16 rfl rfl ?_
      refine sim_geta d_X2_costsAtMost_17 fl_X2_52 ob_C_2 rfl ?_
      refine sim_iload 6 d_X2_costsAtMost_20 rfl ?_
      refine sim_iald d_X2_costsAtMost_22 ar_C_26 ?_
      refine sim_nmi (fun v1 => ?_)
      refine sim_istore (L' := [(0, .ref 7), (1, .int (x1)), (2, .ref 2), (3, .ref 15), (4, .int (x4)), (5, .int (x5)), (6, .int (x6)), (7, .int (v1))]) d_X2_costsAtMost_23 (Nat.le_of_ble_eq_true rfl) rfl ?_
      refine sim_aload_n 0 d_X2_costsAtMost_25 rfl rfl ?_
      refine sim_geta d_X2_costsAtMost_26 fl_X2_15 ob_C_7 rfl ?_
      refine sim_iload 6 d_X2_costsAtMost_29 rfl ?_
      refine sim_zald d_X2_costsAtMost_31 ar_C_56 ?_
      refine sim_if_eq d_X2_costsAtMost_32 ?_ ?_
      ·
        exact sim_sub [0, 1, 2, 3, 4, 5, 6] rfl (s_X2_costsAtMost_7_89 (f_X2_costsAtMost_7_9 k95 n) ih x1 x4 x5 x6 M)
      ·
        refine sim_iload 7 d_X2_costsAtMost_35 rfl ?_
        refine sim_if_lt d_X2_costsAtMost_37 ?_ ?_
        ·
          exact sim_sub [0, 1, 2, 3, 4, 5, 6] rfl (s_X2_costsAtMost_7_89 (f_X2_costsAtMost_7_9 k95 n) ih x1 x4 x5 x6 M)
        ·
          refine sim_iload 7 d_X2_costsAtMost_40 rfl ?_
          refine sim_aload_n 3 d_X2_costsAtMost_42 rfl rfl ?_
          refine sim_alen (5 : Int32) d_X2_costsAtMost_43 ar_C_15 (Or.inl rfl) rfl ?_
          refine sim_icmp_lt d_X2_costsAtMost_44 ?_ ?_
          ·
            refine sim_aload_n 0 d_X2_costsAtMost_50 rfl rfl ?_
            refine sim_geta d_X2_costsAtMost_51 fl_X2_18 ob_C_7 rfl ?_
            refine sim_iload 6 d_X2_costsAtMost_54 rfl ?_
            refine sim_zald d_X2_costsAtMost_56 ar_C_57 ?_
            refine sim_if_eq d_X2_costsAtMost_57 ?_ ?_
            ·
              refine sim_iload 5 d_X2_costsAtMost_72 rfl ?_
              refine sim_aload_n 0 d_X2_costsAtMost_74 rfl rfl ?_
              refine sim_geta d_X2_costsAtMost_75 fl_X2_21 ob_C_7 rfl ?_
              refine sim_iload 6 d_X2_costsAtMost_78 rfl ?_
              refine sim_iald d_X2_costsAtMost_80 ar_C_58 ?_
              refine sim_aload_n 3 d_X2_costsAtMost_81 rfl rfl ?_
              refine sim_iload 7 d_X2_costsAtMost_82 rfl ?_
              refine sim_iald d_X2_costsAtMost_84 ar_C_15 ?_
              refine sim_imul d_X2_costsAtMost_85 ?_
              refine sim_iadd d_X2_costsAtMost_86 ?_
              refine sim_nmi (fun v2 => ?_)
              refine sim_istore (L' := [(0, .ref 7), (1, .int (x1)), (2, .ref 2), (3, .ref 15), (4, .int (x4)), (6, .int (x6)), (7, .int (v1)), (5, .int (v2))]) d_X2_costsAtMost_87 (Nat.le_of_ble_eq_true rfl) rfl ?_
              exact sim_sub [0, 1, 2, 3, 4, 7, 5] rfl (s_X2_costsAtMost_7_89 (f_X2_costsAtMost_7_9 k95 n) ih x1 x4 v2 x6 M)
            ·
              refine sim_iload 4 d_X2_costsAtMost_60 rfl ?_
              refine sim_aload_n 3 d_X2_costsAtMost_62 rfl rfl ?_
              refine sim_iload 7 d_X2_costsAtMost_63 rfl ?_
              refine sim_iald d_X2_costsAtMost_65 ar_C_15 ?_
              refine sim_iadd d_X2_costsAtMost_66 ?_
              refine sim_nmi (fun v3 => ?_)
              refine sim_istore (L' := [(0, .ref 7), (1, .int (x1)), (2, .ref 2), (3, .ref 15), (5, .int (x5)), (6, .int (x6)), (7, .int (v1)), (4, .int (v3))]) d_X2_costsAtMost_67 (Nat.le_of_ble_eq_true rfl) rfl ?_
              refine sim_goto d_X2_costsAtMost_69 ?_
              exact sim_sub [0, 1, 2, 3, 7, 4, 5] rfl (s_X2_costsAtMost_7_89 (f_X2_costsAtMost_7_9 k95 n) ih x1 v3 x5 x6 M)
          ·
            refine sim_goto d_X2_costsAtMost_47 ?_
            exact sim_sub [0, 1, 2, 3, 4, 5, 6] rfl (s_X2_costsAtMost_7_89 (f_X2_costsAtMost_7_9 k95 n) ih x1 x4 x5 x6 M)
def f_X2_costsAtMost_7_110 (x1 : Int32) (x4 : Int32) (x5 : Int32) (t0 : Int32) (M : mm_M) : Option (Int32 × mm_M) :=
  if (x1 * t0) < ((x4 * t0) + ((mI M 7 4) * x5)) then
    some ((0 : Int32), M)
  else
    some ((1 : Int32), M)
theorem s_X2_costsAtMost_7_110 (x1 : Int32) (x4 : Int32) (x5 : Int32) (t0 : Int32) (M : mm_M) : Sim sysC Y_X2_costsAtMost 0 110 [(0, .ref 7), (1, .int (x1)), (4, .int (x4)), (5, .int (x5))] [.int (t0)] M mm_fI (f_X2_costsAtMost_7_110 x1 x4 x5 t0 M) := by
  unfold f_X2_costsAtMost_7_110
  refine sim_istore (L' := [(0, .ref 7), (1, .int (x1)), (4, .int (x4)), (5, .int (x5)), (6, .int (t0))]) d_X2_costsAtMost_110 (Nat.le_of_ble_eq_true rfl) rfl ?_
  refine sim_iload 2 d_X2_costsAtMost_112 rfl ?_
  refine sim_iload 4 d_X2_costsAtMost_114 rfl ?_
  refine sim_imul d_X2_costsAtMost_116 ?_
  refine sim_aload_n 0 d_X2_costsAtMost_117 rfl rfl ?_
  refine sim_geti d_X2_costsAtMost_118 fl_X2_25 ob_C_7 rfl ?_
  refine sim_iload 3 d_X2_costsAtMost_121 rfl ?_
  refine sim_imul d_X2_costsAtMost_123 ?_
  refine sim_iadd d_X2_costsAtMost_124 ?_
  refine sim_iload_n 1 d_X2_costsAtMost_125 rfl rfl ?_
  refine sim_iload 4 d_X2_costsAtMost_126 rfl ?_
  refine sim_imul d_X2_costsAtMost_128 ?_
  refine sim_icmp_gt d_X2_costsAtMost_129 ?_ ?_
  ·
    refine sim_iconst (0 : Int32) d_X2_costsAtMost_136 rfl ?_
    exact sim_zret d_X2_costsAtMost_137 rfl rfl
  ·
    refine sim_iconst (1 : Int32) d_X2_costsAtMost_132 rfl ?_
    refine sim_goto d_X2_costsAtMost_133 ?_
    exact sim_zret d_X2_costsAtMost_137 rfl rfl
def f_X2_costsAtMost_7_95 (x1 : Int32) (x4 : Int32) (x5 : Int32) (M : mm_M) : Option (Int32 × mm_M) :=
  if (mI M 7 5) ≤ 0 then
    f_X2_costsAtMost_7_110 x1 x4 x5 (1 : Int32) M
  else
    f_X2_costsAtMost_7_110 x1 x4 x5 (mI M 7 5) M
theorem s_X2_costsAtMost_7_95 (x1 : Int32) (x4 : Int32) (x5 : Int32) (M : mm_M) : Sim sysC Y_X2_costsAtMost 0 95 [(0, .ref 7), (1, .int (x1)), (4, .int (x4)), (5, .int (x5))] [] M mm_fI (f_X2_costsAtMost_7_95 x1 x4 x5 M) := by
  unfold f_X2_costsAtMost_7_95
  refine sim_aload_n 0 d_X2_costsAtMost_95 rfl rfl ?_
  refine sim_geti d_X2_costsAtMost_96 fl_X2_29 ob_C_7 rfl ?_
  refine sim_if_le d_X2_costsAtMost_99 ?_ ?_
  ·
    refine sim_iconst (1 : Int32) d_X2_costsAtMost_109 rfl ?_
    exact sim_sub [0, 1, 2, 3] rfl (s_X2_costsAtMost_7_110 x1 x4 x5 (1 : Int32) M)
  ·
    refine sim_aload_n 0 d_X2_costsAtMost_102 rfl rfl ?_
    refine sim_geti d_X2_costsAtMost_103 fl_X2_29 ob_C_7 rfl ?_
    refine sim_goto d_X2_costsAtMost_106 ?_
    exact sim_sub [0, 1, 2, 3] rfl (s_X2_costsAtMost_7_110 x1 x4 x5 (mI M 7 5) M)
def f_X2_costsAtMost_7 (a1 : Int32) (M : mm_M) : Option (Int32 × mm_M) :=
  f_X2_costsAtMost_7_9 f_X2_costsAtMost_7_95 mm_fu a1 (0 : Int32) (0 : Int32) (0 : Int32) M
theorem s_X2_costsAtMost_7 (a1 : Int32) (M : mm_M) : Sim sysC Y_X2_costsAtMost 0 0 [(0, .ref 7), (1, .int (a1)), (2, .ref 2), (3, .ref 15)] [] M mm_fI (f_X2_costsAtMost_7 a1 M) := by
  unfold f_X2_costsAtMost_7
  refine sim_iconst (0 : Int32) d_X2_costsAtMost_0 rfl ?_
  refine sim_istore (L' := [(0, .ref 7), (1, .int (a1)), (2, .ref 2), (3, .ref 15), (4, .int ((0 : Int32)))]) d_X2_costsAtMost_1 (Nat.le_of_ble_eq_true rfl) rfl ?_
  refine sim_iconst (0 : Int32) d_X2_costsAtMost_3 rfl ?_
  refine sim_istore (L' := [(0, .ref 7), (1, .int (a1)), (2, .ref 2), (3, .ref 15), (4, .int ((0 : Int32))), (5, .int ((0 : Int32)))]) d_X2_costsAtMost_4 (Nat.le_of_ble_eq_true rfl) rfl ?_
  refine sim_iconst (0 : Int32) d_X2_costsAtMost_6 rfl ?_
  refine sim_istore (L' := [(0, .ref 7), (1, .int (a1)), (2, .ref 2), (3, .ref 15), (4, .int ((0 : Int32))), (5, .int ((0 : Int32))), (6, .int ((0 : Int32)))]) d_X2_costsAtMost_7 (Nat.le_of_ble_eq_true rfl) rfl ?_
  exact sim_sub [0, 1, 2, 3, 4, 5, 6] rfl (s_X2_costsAtMost_7_9 f_X2_costsAtMost_7_95 s_X2_costsAtMost_7_95 mm_fu a1 (0 : Int32) (0 : Int32) (0 : Int32) M)
theorem ct_X2_costsAtMost_7 (a1 : Int32) (M : mm_M) : Ct sysC Y_X2_costsAtMost 0 [.ref 7, .int (a1), .ref 2, .ref 15] M mm_fI (f_X2_costsAtMost_7 a1 M) :=
  ct_of_sim (by decide) rfl (Nat.le_of_ble_eq_true rfl) (s_X2_costsAtMost_7 a1 M)
def f_X11_most_39 : Nat → Int32 → Int32 → mm_M → Option (Int32 × mm_M)
  | 0, _, _, _ => none
  | n + 1, x1, x3, M =>
  if x3 < (1 : Int32) then
    some ((0 : Int32), M)
  else
    mm_bv (f_X2_reckon_7 x3 M) (fun M1 =>
    mm_bi (f_X2_costsAtMost_7 x1 M1) (fun r1 M2 =>
    if r1 = 0 then
      f_X11_most_39 n x1 (x3 + (-1 : Int32)) M2
    else
      some (x3, M2)))
theorem s_X11_most_39 (n : Nat) : ∀ (x1 : Int32) (x3 : Int32) (M : mm_M), Sim sysC Y_X11_most 3 39 [(0, .ref 0), (1, .int (x1)), (3, .int (x3))] [] M mm_fI (f_X11_most_39 n x1 x3 M) := by
  induction n with
  | zero => intros; exact sim_none
  | succ n ih =>
    intro x1 x3 M
    rw [f_X11_most_39]
    refine sim_iload_n 2 d_X11_most_39 rfl rfl ?_
    refine sim_iconst (1 : Int32) d_X11_most_40 rfl ?_
    refine sim_icmp_lt d_X11_most_41 ?_ ?_
    ·
      refine sim_iconst (0 : Int32) d_X11_most_83 rfl ?_
      exact sim_iret d_X11_most_84 rfl
    ·
      refine sim_aload_n 0 d_X11_most_44 rfl rfl ?_
      refine sim_geta d_X11_most_45 fl_X11_43 ob_C_0 rfl ?_
      refine sim_aload_n 0 d_X11_most_48 rfl rfl ?_
      refine sim_geta d_X11_most_49 fl_X11_20 ob_C_0 rfl ?_
      refine sim_iload_n 2 d_X11_most_52 rfl rfl ?_
      refine sim_callVv Y_X2_reckon 2 [.ref 2, .int (x3)] [] d_X11_most_53 lk_X11_184 cv_X2_reckon ob_C_7 rfl (by omega) (Nat.le_of_ble_eq_true rfl) (ct_X2_reckon_7 x3 M) (fun M1 => ?_)
      refine sim_aload_n 0 d_X11_most_56 rfl rfl ?_
      refine sim_geta d_X11_most_57 fl_X11_43 ob_C_0 rfl ?_
      refine sim_iload_n 1 d_X11_most_60 rfl rfl ?_
      refine sim_aload_n 0 d_X11_most_61 rfl rfl ?_
      refine sim_geta d_X11_most_62 fl_X11_20 ob_C_0 rfl ?_
      refine sim_aload_n 0 d_X11_most_65 rfl rfl ?_
      refine sim_geta d_X11_most_66 fl_X11_85 ob_C_0 rfl ?_
      refine sim_callVi Y_X2_costsAtMost 0 [.int (x1), .ref 2, .ref 15] [] d_X11_most_69 lk_X11_356 cv_X2_costsAtMost ob_C_7 rfl (by omega) (Nat.le_of_ble_eq_true rfl) (ct_X2_costsAtMost_7 x1 M1) (fun r1 M2 => ?_)
      refine sim_if_eq d_X11_most_72 ?_ ?_
      ·
        refine sim_iinc (v := x3 + (-1 : Int32)) (L' := [(0, .ref 0), (1, .int (x1)), (3, .int (x3 + (-1 : Int32)))]) 2 d_X11_most_77 (Nat.le_of_ble_eq_true rfl) rfl rfl rfl ?_
        refine sim_goto d_X11_most_80 ?_
        exact sim_sub [0, 1, 2] rfl (ih x1 (x3 + (-1 : Int32)) M2)
      ·
        refine sim_iload_n 2 d_X11_most_75 rfl rfl ?_
        exact sim_iret d_X11_most_76 rfl
def f_X11_most (a1 : Int32) (M : mm_M) : Option (Int32 × mm_M) :=
  mm_bi (f_X6_openOnes M) (fun r1 M1 =>
  if r1 = 0 then
    mm_bi (f_X11_refuse (-3 : Int32) M1) (fun r4 M4 =>
    some (r4, M4))
  else
    mm_bi (f_X11_outside a1 (0 : Int32) (20000 : Int32) M1) (fun r2 M2 =>
    if r2 = 0 then
      f_X11_most_39 mm_fu a1 (40 : Int32) M2
    else
      mm_bi (f_X11_refuse r2 M2) (fun r3 M3 =>
      some (r3, M3))))
theorem s_X11_most (a1 : Int32) (M : mm_M) : Sim sysC Y_X11_most 3 0 [(0, .ref 0), (1, .int (a1))] [] M mm_fI (f_X11_most a1 M) := by
  unfold f_X11_most
  refine sim_aload_n 0 d_X11_most_0 rfl rfl ?_
  refine sim_geta d_X11_most_1 fl_X11_20 ob_C_0 rfl ?_
  refine sim_callVi Y_X6_openOnes 0 [] [] d_X11_most_4 lk_X11_177 cv_X6_openOnes ob_C_2 rfl (by omega) (Nat.le_of_ble_eq_true rfl) (ct_X6_openOnes M) (fun r1 M1 => ?_)
  refine sim_if_ne d_X11_most_7 ?_ ?_
  ·
    refine sim_iload_n 1 d_X11_most_17 rfl rfl ?_
    refine sim_iconst (0 : Int32) d_X11_most_18 rfl ?_
    refine sim_sipush (20000 : Int32) d_X11_most_19 rfl ?_
    refine sim_callSi Y_X11_outside 0 [.int (a1), .int ((0 : Int32)), .int ((20000 : Int32))] [] d_X11_most_22 lk_X11_131 cs_X11_outside rfl (by omega) (Nat.le_of_ble_eq_true rfl) (ct_X11_outside a1 (0 : Int32) (20000 : Int32) M1) (fun r2 M2 => ?_)
    refine sim_istore_n (L' := [(0, .ref 0), (1, .int (a1)), (2, .int (r2))]) d_X11_most_25 rfl (Nat.le_of_ble_eq_true rfl) rfl ?_
    refine sim_iload_n 2 d_X11_most_26 rfl rfl ?_
    refine sim_if_eq d_X11_most_27 ?_ ?_
    ·
      refine sim_bipush (40 : Int32) d_X11_most_36 rfl ?_
      refine sim_istore_n (L' := [(0, .ref 0), (1, .int (a1)), (2, .int (r2)), (3, .int ((40 : Int32)))]) d_X11_most_38 rfl (Nat.le_of_ble_eq_true rfl) rfl ?_
      exact sim_sub [0, 1, 3] rfl (s_X11_most_39 mm_fu a1 (40 : Int32) M2)
    ·
      refine sim_aload_n 0 d_X11_most_30 rfl rfl ?_
      refine sim_iload_n 2 d_X11_most_31 rfl rfl ?_
      refine sim_callVi Y_X11_refuse 0 [.int (r2)] [] d_X11_most_32 lk_X11_108 cv_X11_refuse ob_C_0 rfl (by omega) (Nat.le_of_ble_eq_true rfl) (ct_X11_refuse r2 M2) (fun r3 M3 => ?_)
      exact sim_iret d_X11_most_35 rfl
  ·
    refine sim_aload_n 0 d_X11_most_10 rfl rfl ?_
    refine sim_bipush (-3 : Int32) d_X11_most_11 rfl ?_
    refine sim_callVi Y_X11_refuse 0 [.int ((-3 : Int32))] [] d_X11_most_13 lk_X11_108 cv_X11_refuse ob_C_0 rfl (by omega) (Nat.le_of_ble_eq_true rfl) (ct_X11_refuse (-3 : Int32) M1) (fun r4 M4 => ?_)
    exact sim_iret d_X11_most_16 rfl
theorem ct_X11_most (a1 : Int32) (M : mm_M) : Ct sysC Y_X11_most 3 [.ref 0, .int (a1)] M mm_fI (f_X11_most a1 M) :=
  ct_of_sim (by decide) rfl (Nat.le_of_ble_eq_true rfl) (s_X11_most a1 M)
def f_X0_toldOnes_22 (k4 : Int32 → Int32 → mm_M → Option (Int32 × mm_M)) (x1 : Int32) (x2 : Int32) (M : mm_M) : Option (Int32 × mm_M) :=
  k4 x1 (x2 + (1 : Int32)) M
theorem s_X0_toldOnes_22 (k4 : Int32 → Int32 → mm_M → Option (Int32 × mm_M)) (hk4 : ∀ (x1 : Int32) (x2 : Int32) (M : mm_M), Sim sysC Y_X0_toldOnes 0 4 [(0, .ref 3), (1, .int (x1)), (2, .int (x2))] [] M mm_fI (k4 x1 x2 M)) (x1 : Int32) (x2 : Int32) (M : mm_M) : Sim sysC Y_X0_toldOnes 0 22 [(0, .ref 3), (1, .int (x1)), (2, .int (x2))] [] M mm_fI (f_X0_toldOnes_22 k4 x1 x2 M) := by
  unfold f_X0_toldOnes_22
  refine sim_iinc (v := x2 + (1 : Int32)) (L' := [(0, .ref 3), (1, .int (x1)), (2, .int (x2 + (1 : Int32)))]) 2 d_X0_toldOnes_22 (Nat.le_of_ble_eq_true rfl) rfl rfl rfl ?_
  refine sim_goto d_X0_toldOnes_25 ?_
  exact sim_sub [0, 1, 2] rfl (hk4 x1 (x2 + (1 : Int32)) M)
def f_X0_toldOnes_4 : Nat → Int32 → Int32 → mm_M → Option (Int32 × mm_M)
  | 0, _, _, _ => none
  | n + 1, x1, x2, M =>
  if (8 : Int32) ≤ x2 then
    some (x1, M)
  else
    mm_ck x2 8 (
    if (mI M 34 x2.toNatClampNeg) = 0 then
      f_X0_toldOnes_22 (f_X0_toldOnes_4 n) x1 x2 M
    else
      f_X0_toldOnes_22 (f_X0_toldOnes_4 n) (x1 + (1 : Int32)) x2 M)
theorem s_X0_toldOnes_4 (n : Nat) : ∀ (x1 : Int32) (x2 : Int32) (M : mm_M), Sim sysC Y_X0_toldOnes 0 4 [(0, .ref 3), (1, .int (x1)), (2, .int (x2))] [] M mm_fI (f_X0_toldOnes_4 n x1 x2 M) := by
  induction n with
  | zero => intros; exact sim_none
  | succ n ih =>
    intro x1 x2 M
    rw [f_X0_toldOnes_4]
    refine sim_iload_n 2 d_X0_toldOnes_4 rfl rfl ?_
    refine sim_bipush (8 : Int32) d_X0_toldOnes_5 rfl ?_
    refine sim_icmp_ge d_X0_toldOnes_7 ?_ ?_
    ·
      refine sim_iload_n 1 d_X0_toldOnes_28 rfl rfl ?_
      exact sim_iret d_X0_toldOnes_29 rfl
    ·
      refine sim_aload_n 0 d_X0_toldOnes_10 rfl rfl ?_
      refine sim_geta d_X0_toldOnes_11 fl_X0_9 ob_C_3 rfl ?_
      refine sim_iload_n 2 d_X0_toldOnes_14 rfl rfl ?_
      refine sim_zald d_X0_toldOnes_15 ar_C_34 ?_
      refine sim_if_eq d_X0_toldOnes_16 ?_ ?_
      ·
        exact sim_sub [0, 1, 2] rfl (s_X0_toldOnes_22 (f_X0_toldOnes_4 n) ih x1 x2 M)
      ·
        refine sim_iinc (v := x1 + (1 : Int32)) (L' := [(0, .ref 3), (2, .int (x2)), (1, .int (x1 + (1 : Int32)))]) 1 d_X0_toldOnes_19 (Nat.le_of_ble_eq_true rfl) rfl rfl rfl ?_
        exact sim_sub [0, 2, 1] rfl (s_X0_toldOnes_22 (f_X0_toldOnes_4 n) ih (x1 + (1 : Int32)) x2 M)
def f_X0_toldOnes (M : mm_M) : Option (Int32 × mm_M) :=
  f_X0_toldOnes_4 mm_fu (0 : Int32) (0 : Int32) M
theorem s_X0_toldOnes (M : mm_M) : Sim sysC Y_X0_toldOnes 0 0 [(0, .ref 3)] [] M mm_fI (f_X0_toldOnes M) := by
  unfold f_X0_toldOnes
  refine sim_iconst (0 : Int32) d_X0_toldOnes_0 rfl ?_
  refine sim_istore_n (L' := [(0, .ref 3), (1, .int ((0 : Int32)))]) d_X0_toldOnes_1 rfl (Nat.le_of_ble_eq_true rfl) rfl ?_
  refine sim_iconst (0 : Int32) d_X0_toldOnes_2 rfl ?_
  refine sim_istore_n (L' := [(0, .ref 3), (1, .int ((0 : Int32))), (2, .int ((0 : Int32)))]) d_X0_toldOnes_3 rfl (Nat.le_of_ble_eq_true rfl) rfl ?_
  exact sim_sub [0, 1, 2] rfl (s_X0_toldOnes_4 mm_fu (0 : Int32) (0 : Int32) M)
theorem ct_X0_toldOnes (M : mm_M) : Ct sysC Y_X0_toldOnes 0 [.ref 3] M mm_fI (f_X0_toldOnes M) :=
  ct_of_sim (by decide) rfl (Nat.le_of_ble_eq_true rfl) (s_X0_toldOnes M)
def f_X9_voidedOnes_23 (k4 : Int32 → Int32 → mm_M → Option (Int32 × mm_M)) (x1 : Int32) (x2 : Int32) (M : mm_M) : Option (Int32 × mm_M) :=
  k4 x1 (x2 + (1 : Int32)) M
theorem s_X9_voidedOnes_23 (k4 : Int32 → Int32 → mm_M → Option (Int32 × mm_M)) (hk4 : ∀ (x1 : Int32) (x2 : Int32) (M : mm_M), Sim sysC Y_X9_voidedOnes 2 4 [(0, .ref 4), (1, .int (x1)), (2, .int (x2))] [] M mm_fI (k4 x1 x2 M)) (x1 : Int32) (x2 : Int32) (M : mm_M) : Sim sysC Y_X9_voidedOnes 2 23 [(0, .ref 4), (1, .int (x1)), (2, .int (x2))] [] M mm_fI (f_X9_voidedOnes_23 k4 x1 x2 M) := by
  unfold f_X9_voidedOnes_23
  refine sim_iinc (v := x2 + (1 : Int32)) (L' := [(0, .ref 4), (1, .int (x1)), (2, .int (x2 + (1 : Int32)))]) 2 d_X9_voidedOnes_23 (Nat.le_of_ble_eq_true rfl) rfl rfl rfl ?_
  refine sim_goto d_X9_voidedOnes_26 ?_
  exact sim_sub [0, 1, 2] rfl (hk4 x1 (x2 + (1 : Int32)) M)
def f_X9_voidedOnes_4 : Nat → Int32 → Int32 → mm_M → Option (Int32 × mm_M)
  | 0, _, _, _ => none
  | n + 1, x1, x2, M =>
  if (mI M 4 7) ≤ x2 then
    some (x1, M)
  else
    mm_bi (f_X9_isVoided x2 M) (fun r1 M1 =>
    if r1 = 0 then
      f_X9_voidedOnes_23 (f_X9_voidedOnes_4 n) x1 x2 M1
    else
      f_X9_voidedOnes_23 (f_X9_voidedOnes_4 n) (x1 + (1 : Int32)) x2 M1)
theorem s_X9_voidedOnes_4 (n : Nat) : ∀ (x1 : Int32) (x2 : Int32) (M : mm_M), Sim sysC Y_X9_voidedOnes 2 4 [(0, .ref 4), (1, .int (x1)), (2, .int (x2))] [] M mm_fI (f_X9_voidedOnes_4 n x1 x2 M) := by
  induction n with
  | zero => intros; exact sim_none
  | succ n ih =>
    intro x1 x2 M
    rw [f_X9_voidedOnes_4]
    refine sim_iload_n 2 d_X9_voidedOnes_4 rfl rfl ?_
    refine sim_aload_n 0 d_X9_voidedOnes_5 rfl rfl ?_
    refine sim_geti d_X9_voidedOnes_6 fl_X9_33 ob_C_4 rfl ?_
    refine sim_icmp_ge d_X9_voidedOnes_9 ?_ ?_
    ·
      refine sim_iload_n 1 d_X9_voidedOnes_29 rfl rfl ?_
      exact sim_iret d_X9_voidedOnes_30 rfl
    ·
      refine sim_aload_n 0 d_X9_voidedOnes_12 rfl rfl ?_
      refine sim_iload_n 2 d_X9_voidedOnes_13 rfl rfl ?_
      refine sim_callVi Y_X9_isVoided 1 [.int (x2)] [] d_X9_voidedOnes_14 lk_X9_41 cv_X9_isVoided ob_C_4 rfl (by omega) (Nat.le_of_ble_eq_true rfl) (ct_X9_isVoided x2 M) (fun r1 M1 => ?_)
      refine sim_if_eq d_X9_voidedOnes_17 ?_ ?_
      ·
        exact sim_sub [0, 1, 2] rfl (s_X9_voidedOnes_23 (f_X9_voidedOnes_4 n) ih x1 x2 M1)
      ·
        refine sim_iinc (v := x1 + (1 : Int32)) (L' := [(0, .ref 4), (2, .int (x2)), (1, .int (x1 + (1 : Int32)))]) 1 d_X9_voidedOnes_20 (Nat.le_of_ble_eq_true rfl) rfl rfl rfl ?_
        exact sim_sub [0, 2, 1] rfl (s_X9_voidedOnes_23 (f_X9_voidedOnes_4 n) ih (x1 + (1 : Int32)) x2 M1)
def f_X9_voidedOnes (M : mm_M) : Option (Int32 × mm_M) :=
  f_X9_voidedOnes_4 mm_fu (0 : Int32) (0 : Int32) M
theorem s_X9_voidedOnes (M : mm_M) : Sim sysC Y_X9_voidedOnes 2 0 [(0, .ref 4)] [] M mm_fI (f_X9_voidedOnes M) := by
  unfold f_X9_voidedOnes
  refine sim_iconst (0 : Int32) d_X9_voidedOnes_0 rfl ?_
  refine sim_istore_n (L' := [(0, .ref 4), (1, .int ((0 : Int32)))]) d_X9_voidedOnes_1 rfl (Nat.le_of_ble_eq_true rfl) rfl ?_
  refine sim_iconst (0 : Int32) d_X9_voidedOnes_2 rfl ?_
  refine sim_istore_n (L' := [(0, .ref 4), (1, .int ((0 : Int32))), (2, .int ((0 : Int32)))]) d_X9_voidedOnes_3 rfl (Nat.le_of_ble_eq_true rfl) rfl ?_
  exact sim_sub [0, 1, 2] rfl (s_X9_voidedOnes_4 mm_fu (0 : Int32) (0 : Int32) M)
theorem ct_X9_voidedOnes (M : mm_M) : Ct sysC Y_X9_voidedOnes 2 [.ref 4] M mm_fI (f_X9_voidedOnes M) :=
  ct_of_sim (by decide) rfl (Nat.le_of_ble_eq_true rfl) (s_X9_voidedOnes M)
def f_X11_goodNow_63 (k22 : Int32 → Int32 → Int32 → mm_M → Option (Int32 × mm_M)) (x1 : Int32) (x2 : Int32) (x3 : Int32) (M : mm_M) : Option (Int32 × mm_M) :=
  k22 x1 x2 (x3 + (1 : Int32)) M
theorem s_X11_goodNow_63 (k22 : Int32 → Int32 → Int32 → mm_M → Option (Int32 × mm_M)) (hk22 : ∀ (x1 : Int32) (x2 : Int32) (x3 : Int32) (M : mm_M), Sim sysC Y_X11_goodNow 5 22 [(0, .ref 0), (1, .int (x1)), (2, .int (x2)), (3, .int (x3))] [] M mm_fI (k22 x1 x2 x3 M)) (x1 : Int32) (x2 : Int32) (x3 : Int32) (M : mm_M) : Sim sysC Y_X11_goodNow 5 63 [(0, .ref 0), (1, .int (x1)), (2, .int (x2)), (3, .int (x3))] [] M mm_fI (f_X11_goodNow_63 k22 x1 x2 x3 M) := by
  unfold f_X11_goodNow_63
  refine sim_iinc (v := x3 + (1 : Int32)) (L' := [(0, .ref 0), (1, .int (x1)), (2, .int (x2)), (3, .int (x3 + (1 : Int32)))]) 3 d_X11_goodNow_63 (Nat.le_of_ble_eq_true rfl) rfl rfl rfl ?_
  refine sim_goto d_X11_goodNow_66 ?_
  exact sim_sub [0, 1, 2, 3] rfl (hk22 x1 x2 (x3 + (1 : Int32)) M)
def f_X11_goodNow_60 (k22 : Int32 → Int32 → Int32 → mm_M → Option (Int32 × mm_M)) (x1 : Int32) (x2 : Int32) (x3 : Int32) (M : mm_M) : Option (Int32 × mm_M) :=
  f_X11_goodNow_63 k22 x1 (x2 + (1 : Int32)) x3 M
theorem s_X11_goodNow_60 (k22 : Int32 → Int32 → Int32 → mm_M → Option (Int32 × mm_M)) (hk22 : ∀ (x1 : Int32) (x2 : Int32) (x3 : Int32) (M : mm_M), Sim sysC Y_X11_goodNow 5 22 [(0, .ref 0), (1, .int (x1)), (2, .int (x2)), (3, .int (x3))] [] M mm_fI (k22 x1 x2 x3 M)) (x1 : Int32) (x2 : Int32) (x3 : Int32) (M : mm_M) : Sim sysC Y_X11_goodNow 5 60 [(0, .ref 0), (1, .int (x1)), (2, .int (x2)), (3, .int (x3))] [] M mm_fI (f_X11_goodNow_60 k22 x1 x2 x3 M) := by
  unfold f_X11_goodNow_60
  refine sim_iinc (v := x2 + (1 : Int32)) (L' := [(0, .ref 0), (1, .int (x1)), (3, .int (x3)), (2, .int (x2 + (1 : Int32)))]) 2 d_X11_goodNow_60 (Nat.le_of_ble_eq_true rfl) rfl rfl rfl ?_
  exact sim_sub [0, 1, 3, 2] rfl (s_X11_goodNow_63 k22 hk22 x1 (x2 + (1 : Int32)) x3 M)
def f_X11_goodNow_22 : Nat → Int32 → Int32 → Int32 → mm_M → Option (Int32 × mm_M)
  | 0, _, _, _, _ => none
  | n + 1, x1, x2, x3, M =>
  if (mI M 4 7) ≤ x3 then
    some (x2, M)
  else
    mm_ck x3 100 (
    if (mI M 17 x3.toNatClampNeg) = 0 then
      f_X11_goodNow_63 (f_X11_goodNow_22 n) x1 x2 x3 M
    else
      if x1 = 0 then
        f_X11_goodNow_60 (f_X11_goodNow_22 n) x1 x2 x3 M
      else
        mm_bi (f_X9_isSold x3 M) (fun r1 M1 =>
        if r1 = 0 then
          f_X11_goodNow_63 (f_X11_goodNow_22 n) x1 x2 x3 M1
        else
          f_X11_goodNow_60 (f_X11_goodNow_22 n) x1 x2 x3 M1))
theorem s_X11_goodNow_22 (n : Nat) : ∀ (x1 : Int32) (x2 : Int32) (x3 : Int32) (M : mm_M), Sim sysC Y_X11_goodNow 5 22 [(0, .ref 0), (1, .int (x1)), (2, .int (x2)), (3, .int (x3))] [] M mm_fI (f_X11_goodNow_22 n x1 x2 x3 M) := by
  induction n with
  | zero => intros; exact sim_none
  | succ n ih =>
    intro x1 x2 x3 M
    rw [f_X11_goodNow_22]
    refine sim_iload_n 3 d_X11_goodNow_22 rfl rfl ?_
    refine sim_aload_n 0 d_X11_goodNow_23 rfl rfl ?_
    refine sim_geta d_X11_goodNow_24 fl_X11_30 ob_C_0 rfl ?_
    refine sim_geti d_X11_goodNow_27 fl_X11_258 ob_C_4 rfl ?_
    refine sim_icmp_ge d_X11_goodNow_30 ?_ ?_
    ·
      refine sim_iload_n 2 d_X11_goodNow_69 rfl rfl ?_
      exact sim_iret d_X11_goodNow_70 rfl
    ·
      refine sim_aload_n 0 d_X11_goodNow_33 rfl rfl ?_
      refine sim_geta d_X11_goodNow_34 fl_X11_10 ob_C_0 rfl ?_
      refine sim_geta d_X11_goodNow_37 fl_X11_278 ob_C_1 rfl ?_
      refine sim_iload_n 3 d_X11_goodNow_40 rfl rfl ?_
      refine sim_zald d_X11_goodNow_41 ar_C_17 ?_
      refine sim_if_eq d_X11_goodNow_42 ?_ ?_
      ·
        exact sim_sub [0, 1, 2, 3] rfl (s_X11_goodNow_63 (f_X11_goodNow_22 n) ih x1 x2 x3 M)
      ·
        refine sim_iload_n 1 d_X11_goodNow_45 rfl rfl ?_
        refine sim_if_eq d_X11_goodNow_46 ?_ ?_
        ·
          exact sim_sub [0, 1, 2, 3] rfl (s_X11_goodNow_60 (f_X11_goodNow_22 n) ih x1 x2 x3 M)
        ·
          refine sim_aload_n 0 d_X11_goodNow_49 rfl rfl ?_
          refine sim_geta d_X11_goodNow_50 fl_X11_30 ob_C_0 rfl ?_
          refine sim_iload_n 3 d_X11_goodNow_53 rfl rfl ?_
          refine sim_callVi Y_X9_isSold 1 [.int (x3)] [] d_X11_goodNow_54 lk_X11_405 cv_X9_isSold ob_C_4 rfl (by omega) (Nat.le_of_ble_eq_true rfl) (ct_X9_isSold x3 M) (fun r1 M1 => ?_)
          refine sim_if_eq d_X11_goodNow_57 ?_ ?_
          ·
            exact sim_sub [0, 1, 2, 3] rfl (s_X11_goodNow_63 (f_X11_goodNow_22 n) ih x1 x2 x3 M1)
          ·
            exact sim_sub [0, 1, 2, 3] rfl (s_X11_goodNow_60 (f_X11_goodNow_22 n) ih x1 x2 x3 M1)
def f_X11_goodNow (a1 : Int32) (M : mm_M) : Option (Int32 × mm_M) :=
  mm_bv (f_X10_weigh (mI M 0 16) (mI M 4 7) M) (fun M1 =>
  f_X11_goodNow_22 mm_fu a1 (0 : Int32) (0 : Int32) M1)
theorem s_X11_goodNow (a1 : Int32) (M : mm_M) : Sim sysC Y_X11_goodNow 5 0 [(0, .ref 0), (1, .int (a1))] [] M mm_fI (f_X11_goodNow a1 M) := by
  unfold f_X11_goodNow
  refine sim_aload_n 0 d_X11_goodNow_0 rfl rfl ?_
  refine sim_geta d_X11_goodNow_1 fl_X11_10 ob_C_0 rfl ?_
  refine sim_aload_n 0 d_X11_goodNow_4 rfl rfl ?_
  refine sim_geti d_X11_goodNow_5 fl_X11_102 ob_C_0 rfl ?_
  refine sim_aload_n 0 d_X11_goodNow_8 rfl rfl ?_
  refine sim_geta d_X11_goodNow_9 fl_X11_30 ob_C_0 rfl ?_
  refine sim_geti d_X11_goodNow_12 fl_X11_258 ob_C_4 rfl ?_
  refine sim_callVv Y_X10_weigh 4 [.int (mI M 0 16), .int (mI M 4 7)] [] d_X11_goodNow_15 lk_X11_274 cv_X10_weigh ob_C_1 rfl (by omega) (Nat.le_of_ble_eq_true rfl) (ct_X10_weigh (mI M 0 16) (mI M 4 7) M) (fun M1 => ?_)
  refine sim_iconst (0 : Int32) d_X11_goodNow_18 rfl ?_
  refine sim_istore_n (L' := [(0, .ref 0), (1, .int (a1)), (2, .int ((0 : Int32)))]) d_X11_goodNow_19 rfl (Nat.le_of_ble_eq_true rfl) rfl ?_
  refine sim_iconst (0 : Int32) d_X11_goodNow_20 rfl ?_
  refine sim_istore_n (L' := [(0, .ref 0), (1, .int (a1)), (2, .int ((0 : Int32))), (3, .int ((0 : Int32)))]) d_X11_goodNow_21 rfl (Nat.le_of_ble_eq_true rfl) rfl ?_
  exact sim_sub [0, 1, 2, 3] rfl (s_X11_goodNow_22 mm_fu a1 (0 : Int32) (0 : Int32) M1)
theorem ct_X11_goodNow (a1 : Int32) (M : mm_M) : Ct sysC Y_X11_goodNow 5 [.ref 0, .int (a1)] M mm_fI (f_X11_goodNow a1 M) :=
  ct_of_sim (by decide) rfl (Nat.le_of_ble_eq_true rfl) (s_X11_goodNow a1 M)
def f_X11_count_22 (x1 : Int32) (M : mm_M) : Option (Int32 × mm_M) :=
  mm_case x1 [0, 1, 2, 3, 4, 5, 6, 7, 8, 9, 10, 17] [
    some (mI M 0 16, M),
    some (mI M 2 8, M),
    mm_bi (f_X6_openOnes M) (fun r1 M1 =>
    some (r1, M1)),
    mm_bi (f_X0_toldOnes M) (fun r2 M2 =>
    some (r2, M2)),
    some (mI M 5 5, M),
    some (mI M 4 7, M),
    mm_bi (f_X9_voidedOnes M) (fun r3 M3 =>
    some (r3, M3)),
    mm_bi (f_X11_goodNow (0 : Int32) M) (fun r4 M4 =>
    some (r4, M4)),
    mm_bi (f_X11_goodNow (1 : Int32) M) (fun r5 M5 =>
    some (r5, M5)),
    some (mI M 6 6, M),
    some (mI M 0 15, M),
    some (mI M 9 2, M)]
  (
    some ((-9 : Int32), M))
theorem s_X11_count_22 (x1 : Int32) (M : mm_M) : Sim sysC Y_X11_count 6 22 [(0, .ref 0), (1, .int (x1))] [] M mm_fI (f_X11_count_22 x1 M) := by
  unfold f_X11_count_22
  refine sim_iload_n 1 d_X11_count_22 rfl rfl ?_
  refine sim_tsw (td := 194) [108, 113, 121, 129, 137, 145, 153, 161, 167, 173, 181, 186] d_X11_count_23 (by decide +kernel) ⟨?_, ?_, ?_, ?_, ?_, ?_, ?_, ?_, ?_, ?_, ?_, ?_, trivial⟩ ?_
  ·
    refine sim_aload_n 0 d_X11_count_108 rfl rfl ?_
    refine sim_geti d_X11_count_109 fl_X11_102 ob_C_0 rfl ?_
    exact sim_iret d_X11_count_112 rfl
  ·
    refine sim_aload_n 0 d_X11_count_113 rfl rfl ?_
    refine sim_geta d_X11_count_114 fl_X11_20 ob_C_0 rfl ?_
    refine sim_geti d_X11_count_117 fl_X11_119 ob_C_2 rfl ?_
    exact sim_iret d_X11_count_120 rfl
  ·
    refine sim_aload_n 0 d_X11_count_121 rfl rfl ?_
    refine sim_geta d_X11_count_122 fl_X11_20 ob_C_0 rfl ?_
    refine sim_callVi Y_X6_openOnes 0 [] [] d_X11_count_125 lk_X11_177 cv_X6_openOnes ob_C_2 rfl (by omega) (Nat.le_of_ble_eq_true rfl) (ct_X6_openOnes M) (fun r1 M1 => ?_)
    exact sim_iret d_X11_count_128 rfl
  ·
    refine sim_aload_n 0 d_X11_count_129 rfl rfl ?_
    refine sim_geta d_X11_count_130 fl_X11_25 ob_C_0 rfl ?_
    refine sim_callVi Y_X0_toldOnes 0 [] [] d_X11_count_133 lk_X11_360 cv_X0_toldOnes ob_C_3 rfl (by omega) (Nat.le_of_ble_eq_true rfl) (ct_X0_toldOnes M) (fun r2 M2 => ?_)
    exact sim_iret d_X11_count_136 rfl
  ·
    refine sim_aload_n 0 d_X11_count_137 rfl rfl ?_
    refine sim_geta d_X11_count_138 fl_X11_35 ob_C_0 rfl ?_
    refine sim_geti d_X11_count_141 fl_X11_237 ob_C_5 rfl ?_
    exact sim_iret d_X11_count_144 rfl
  ·
    refine sim_aload_n 0 d_X11_count_145 rfl rfl ?_
    refine sim_geta d_X11_count_146 fl_X11_30 ob_C_0 rfl ?_
    refine sim_geti d_X11_count_149 fl_X11_258 ob_C_4 rfl ?_
    exact sim_iret d_X11_count_152 rfl
  ·
    refine sim_aload_n 0 d_X11_count_153 rfl rfl ?_
    refine sim_geta d_X11_count_154 fl_X11_30 ob_C_0 rfl ?_
    refine sim_callVi Y_X9_voidedOnes 2 [] [] d_X11_count_157 lk_X11_363 cv_X9_voidedOnes ob_C_4 rfl (by omega) (Nat.le_of_ble_eq_true rfl) (ct_X9_voidedOnes M) (fun r3 M3 => ?_)
    exact sim_iret d_X11_count_160 rfl
  ·
    refine sim_aload_n 0 d_X11_count_161 rfl rfl ?_
    refine sim_iconst (0 : Int32) d_X11_count_162 rfl ?_
    refine sim_callVi Y_X11_goodNow 5 [.int ((0 : Int32))] [] d_X11_count_163 lk_X11_366 cv_X11_goodNow ob_C_0 rfl (by omega) (Nat.le_of_ble_eq_true rfl) (ct_X11_goodNow (0 : Int32) M) (fun r4 M4 => ?_)
    exact sim_iret d_X11_count_166 rfl
  ·
    refine sim_aload_n 0 d_X11_count_167 rfl rfl ?_
    refine sim_iconst (1 : Int32) d_X11_count_168 rfl ?_
    refine sim_callVi Y_X11_goodNow 5 [.int ((1 : Int32))] [] d_X11_count_169 lk_X11_366 cv_X11_goodNow ob_C_0 rfl (by omega) (Nat.le_of_ble_eq_true rfl) (ct_X11_goodNow (1 : Int32) M) (fun r5 M5 => ?_)
    exact sim_iret d_X11_count_172 rfl
  ·
    refine sim_aload_n 0 d_X11_count_173 rfl rfl ?_
    refine sim_geta d_X11_count_174 fl_X11_39 ob_C_0 rfl ?_
    refine sim_geti d_X11_count_177 fl_X11_191 ob_C_6 rfl ?_
    exact sim_iret d_X11_count_180 rfl
  ·
    refine sim_aload_n 0 d_X11_count_181 rfl rfl ?_
    refine sim_geti d_X11_count_182 fl_X11_98 ob_C_0 rfl ?_
    exact sim_iret d_X11_count_185 rfl
  ·
    refine sim_aload_n 0 d_X11_count_186 rfl rfl ?_
    refine sim_geta d_X11_count_187 fl_X11_56 ob_C_0 rfl ?_
    refine sim_geti d_X11_count_190 fl_X11_229 ob_C_9 rfl ?_
    exact sim_iret d_X11_count_193 rfl
  ·
    refine sim_bipush (-9 : Int32) d_X11_count_194 rfl ?_
    exact sim_iret d_X11_count_196 rfl
def f_X11_count (a1 : Int32) (M : mm_M) : Option (Int32 × mm_M) :=
  if a1 < (11 : Int32) then
    f_X11_count_22 a1 M
  else
    if (16 : Int32) < a1 then
      f_X11_count_22 a1 M
    else
      mm_ck (a1 - (11 : Int32)) 6 (
      some (mI M 14 (a1 - (11 : Int32)).toNatClampNeg, M))
theorem s_X11_count (a1 : Int32) (M : mm_M) : Sim sysC Y_X11_count 6 0 [(0, .ref 0), (1, .int (a1))] [] M mm_fI (f_X11_count a1 M) := by
  unfold f_X11_count
  refine sim_iload_n 1 d_X11_count_0 rfl rfl ?_
  refine sim_bipush (11 : Int32) d_X11_count_1 rfl ?_
  refine sim_icmp_lt d_X11_count_3 ?_ ?_
  ·
    exact sim_sub [0, 1] rfl (s_X11_count_22 a1 M)
  ·
    refine sim_iload_n 1 d_X11_count_6 rfl rfl ?_
    refine sim_bipush (16 : Int32) d_X11_count_7 rfl ?_
    refine sim_icmp_gt d_X11_count_9 ?_ ?_
    ·
      exact sim_sub [0, 1] rfl (s_X11_count_22 a1 M)
    ·
      refine sim_aload_n 0 d_X11_count_12 rfl rfl ?_
      refine sim_geta d_X11_count_13 fl_X11_81 ob_C_0 rfl ?_
      refine sim_iload_n 1 d_X11_count_16 rfl rfl ?_
      refine sim_bipush (11 : Int32) d_X11_count_17 rfl ?_
      refine sim_isub d_X11_count_19 ?_
      refine sim_iald d_X11_count_20 ar_C_14 ?_
      exact sim_iret d_X11_count_21 rfl
theorem ct_X11_count (a1 : Int32) (M : mm_M) : Ct sysC Y_X11_count 6 [.ref 0, .int (a1)] M mm_fI (f_X11_count a1 M) :=
  ct_of_sim (by decide) rfl (Nat.le_of_ble_eq_true rfl) (s_X11_count a1 M)
def f_X3_add_8 (a1 : Int64) (a2 : Int64) (M : mm_M) : Option (mm_M) :=
  mm_bv (f_X3_become_8 (((mL M 8 0) * a2) + (a1 * (mL M 8 1))) ((mL M 8 1) * a2) M) (fun M1 =>
  some M1)
theorem s_X3_add_8 (a1 : Int64) (a2 : Int64) (M : mm_M) : Sim sysC Y_X3_add 2 0 [(0, .ref 8), (1, .long (a1)), (3, .long (a2))] [] M mm_fV (f_X3_add_8 a1 a2 M) := by
  unfold f_X3_add_8
  refine sim_aload_n 0 d_X3_add_0 rfl rfl ?_
  refine sim_aload_n 0 d_X3_add_1 rfl rfl ?_
  refine sim_getl d_X3_add_2 fl_X3_7 ob_C_8 rfl ?_
  refine sim_lload_n 2 d_X3_add_5 rfl rfl ?_
  refine sim_lmul d_X3_add_6 ?_
  refine sim_lload_n 1 d_X3_add_7 rfl rfl ?_
  refine sim_aload_n 0 d_X3_add_8 rfl rfl ?_
  refine sim_getl d_X3_add_9 fl_X3_13 ob_C_8 rfl ?_
  refine sim_lmul d_X3_add_12 ?_
  refine sim_ladd d_X3_add_13 ?_
  refine sim_aload_n 0 d_X3_add_14 rfl rfl ?_
  refine sim_getl d_X3_add_15 fl_X3_13 ob_C_8 rfl ?_
  refine sim_lload_n 2 d_X3_add_18 rfl rfl ?_
  refine sim_lmul d_X3_add_19 ?_
  refine sim_callVv Y_X3_become 1 [.long (((mL M 8 0) * a2) + (a1 * (mL M 8 1))), .long ((mL M 8 1) * a2)] [] d_X3_add_20 lk_X3_20 cv_X3_become ob_C_8 rfl (by omega) (Nat.le_of_ble_eq_true rfl) (ct_X3_become_8 (((mL M 8 0) * a2) + (a1 * (mL M 8 1))) ((mL M 8 1) * a2) M) (fun M1 => ?_)
  exact sim_vret d_X3_add_23 rfl
theorem ct_X3_add_8 (a1 : Int64) (a2 : Int64) (M : mm_M) : Ct sysC Y_X3_add 2 [.ref 8, .long (a1), .long (a2)] M mm_fV (f_X3_add_8 a1 a2 M) :=
  ct_of_sim (by decide) rfl (Nat.le_of_ble_eq_true rfl) (s_X3_add_8 a1 a2 M)
def f_X10_latestGoodSold_46 (k4 : Int32 → Int32 → Int32 → mm_M → Option (Int32 × mm_M)) (x1 : Int32) (x2 : Int32) (x3 : Int32) (M : mm_M) : Option (Int32 × mm_M) :=
  k4 x1 x2 (x3 + (1 : Int32)) M
theorem s_X10_latestGoodSold_46 (k4 : Int32 → Int32 → Int32 → mm_M → Option (Int32 × mm_M)) (hk4 : ∀ (x1 : Int32) (x2 : Int32) (x3 : Int32) (M : mm_M), Sim sysC Y_X10_latestGoodSold 2 4 [(0, .ref 1), (1, .int (x1)), (2, .int (x2)), (3, .int (x3))] [] M mm_fI (k4 x1 x2 x3 M)) (x1 : Int32) (x2 : Int32) (x3 : Int32) (M : mm_M) : Sim sysC Y_X10_latestGoodSold 2 46 [(0, .ref 1), (1, .int (x1)), (2, .int (x2)), (3, .int (x3))] [] M mm_fI (f_X10_latestGoodSold_46 k4 x1 x2 x3 M) := by
  unfold f_X10_latestGoodSold_46
  refine sim_iinc (v := x3 + (1 : Int32)) (L' := [(0, .ref 1), (1, .int (x1)), (2, .int (x2)), (3, .int (x3 + (1 : Int32)))]) 3 d_X10_latestGoodSold_46 (Nat.le_of_ble_eq_true rfl) rfl rfl rfl ?_
  refine sim_goto d_X10_latestGoodSold_49 ?_
  exact sim_sub [0, 1, 2, 3] rfl (hk4 x1 x2 (x3 + (1 : Int32)) M)
def f_X10_latestGoodSold_4 : Nat → Int32 → Int32 → Int32 → mm_M → Option (Int32 × mm_M)
  | 0, _, _, _, _ => none
  | n + 1, x1, x2, x3, M =>
  if (mI M 4 7) ≤ x3 then
    mm_bz x2 (some (x2, M))
  else
    mm_ck x3 100 (
    if (mI M 17 x3.toNatClampNeg) = 0 then
      f_X10_latestGoodSold_46 (f_X10_latestGoodSold_4 n) x1 x2 x3 M
    else
      mm_ck x3 100 (
      if (mI M 39 x3.toNatClampNeg) = x1 then
        mm_bi (f_X9_isSold x3 M) (fun r1 M1 =>
        f_X10_latestGoodSold_46 (f_X10_latestGoodSold_4 n) x1 r1 x3 M1)
      else
        f_X10_latestGoodSold_46 (f_X10_latestGoodSold_4 n) x1 x2 x3 M))
theorem s_X10_latestGoodSold_4 (n : Nat) : ∀ (x1 : Int32) (x2 : Int32) (x3 : Int32) (M : mm_M), Sim sysC Y_X10_latestGoodSold 2 4 [(0, .ref 1), (1, .int (x1)), (2, .int (x2)), (3, .int (x3))] [] M mm_fI (f_X10_latestGoodSold_4 n x1 x2 x3 M) := by
  induction n with
  | zero => intros; exact sim_none
  | succ n ih =>
    intro x1 x2 x3 M
    rw [f_X10_latestGoodSold_4]
    refine sim_iload_n 3 d_X10_latestGoodSold_4 rfl rfl ?_
    refine sim_aload_n 0 d_X10_latestGoodSold_5 rfl rfl ?_
    refine sim_geta d_X10_latestGoodSold_6 fl_X10_28 ob_C_1 rfl ?_
    refine sim_geti d_X10_latestGoodSold_9 fl_X10_71 ob_C_4 rfl ?_
    refine sim_icmp_ge d_X10_latestGoodSold_12 ?_ ?_
    ·
      refine sim_iload_n 2 d_X10_latestGoodSold_52 rfl rfl ?_
      exact sim_zretb d_X10_latestGoodSold_53 rfl
    ·
      refine sim_aload_n 0 d_X10_latestGoodSold_15 rfl rfl ?_
      refine sim_geta d_X10_latestGoodSold_16 fl_X10_39 ob_C_1 rfl ?_
      refine sim_iload_n 3 d_X10_latestGoodSold_19 rfl rfl ?_
      refine sim_zald d_X10_latestGoodSold_20 ar_C_17 ?_
      refine sim_if_eq d_X10_latestGoodSold_21 ?_ ?_
      ·
        exact sim_sub [0, 1, 2, 3] rfl (s_X10_latestGoodSold_46 (f_X10_latestGoodSold_4 n) ih x1 x2 x3 M)
      ·
        refine sim_aload_n 0 d_X10_latestGoodSold_24 rfl rfl ?_
        refine sim_geta d_X10_latestGoodSold_25 fl_X10_28 ob_C_1 rfl ?_
        refine sim_geta d_X10_latestGoodSold_28 fl_X10_118 ob_C_4 rfl ?_
        refine sim_iload_n 3 d_X10_latestGoodSold_31 rfl rfl ?_
        refine sim_iald d_X10_latestGoodSold_32 ar_C_39 ?_
        refine sim_iload_n 1 d_X10_latestGoodSold_33 rfl rfl ?_
        refine sim_icmp_ne d_X10_latestGoodSold_34 ?_ ?_
        ·
          exact sim_sub [0, 1, 2, 3] rfl (s_X10_latestGoodSold_46 (f_X10_latestGoodSold_4 n) ih x1 x2 x3 M)
        ·
          refine sim_aload_n 0 d_X10_latestGoodSold_37 rfl rfl ?_
          refine sim_geta d_X10_latestGoodSold_38 fl_X10_28 ob_C_1 rfl ?_
          refine sim_iload_n 3 d_X10_latestGoodSold_41 rfl rfl ?_
          refine sim_callVi Y_X9_isSold 1 [.int (x3)] [] d_X10_latestGoodSold_42 lk_X10_128 cv_X9_isSold ob_C_4 rfl (by omega) (Nat.le_of_ble_eq_true rfl) (ct_X9_isSold x3 M) (fun r1 M1 => ?_)
          refine sim_istore_n (L' := [(0, .ref 1), (1, .int (x1)), (3, .int (x3)), (2, .int (r1))]) d_X10_latestGoodSold_45 rfl (Nat.le_of_ble_eq_true rfl) rfl ?_
          exact sim_sub [0, 1, 3, 2] rfl (s_X10_latestGoodSold_46 (f_X10_latestGoodSold_4 n) ih x1 r1 x3 M1)
def f_X10_latestGoodSold (a1 : Int32) (M : mm_M) : Option (Int32 × mm_M) :=
  f_X10_latestGoodSold_4 mm_fu a1 (0 : Int32) (0 : Int32) M
theorem s_X10_latestGoodSold (a1 : Int32) (M : mm_M) : Sim sysC Y_X10_latestGoodSold 2 0 [(0, .ref 1), (1, .int (a1))] [] M mm_fI (f_X10_latestGoodSold a1 M) := by
  unfold f_X10_latestGoodSold
  refine sim_iconst (0 : Int32) d_X10_latestGoodSold_0 rfl ?_
  refine sim_istore_n (L' := [(0, .ref 1), (1, .int (a1)), (2, .int ((0 : Int32)))]) d_X10_latestGoodSold_1 rfl (Nat.le_of_ble_eq_true rfl) rfl ?_
  refine sim_iconst (0 : Int32) d_X10_latestGoodSold_2 rfl ?_
  refine sim_istore_n (L' := [(0, .ref 1), (1, .int (a1)), (2, .int ((0 : Int32))), (3, .int ((0 : Int32)))]) d_X10_latestGoodSold_3 rfl (Nat.le_of_ble_eq_true rfl) rfl ?_
  exact sim_sub [0, 1, 2, 3] rfl (s_X10_latestGoodSold_4 mm_fu a1 (0 : Int32) (0 : Int32) M)
theorem ct_X10_latestGoodSold (a1 : Int32) (M : mm_M) : Ct sysC Y_X10_latestGoodSold 2 [.ref 1, .int (a1)] M mm_fI (f_X10_latestGoodSold a1 M) :=
  ct_of_sim (by decide) rfl (Nat.le_of_ble_eq_true rfl) (s_X10_latestGoodSold a1 M)
def f_X11_weighBack_89 (k33 : Int32 → Int32 → mm_M → Option (mm_M)) (x1 : Int32) (x2 : Int32) (M : mm_M) : Option (mm_M) :=
  k33 x1 (x2 + (1 : Int32)) M
theorem s_X11_weighBack_89 (k33 : Int32 → Int32 → mm_M → Option (mm_M)) (hk33 : ∀ (x1 : Int32) (x2 : Int32) (M : mm_M), Sim sysC Y_X11_weighBack 5 33 [(0, .ref 0), (1, .int (x1)), (2, .int (x2))] [] M mm_fV (k33 x1 x2 M)) (x1 : Int32) (x2 : Int32) (M : mm_M) : Sim sysC Y_X11_weighBack 5 89 [(0, .ref 0), (1, .int (x1)), (2, .int (x2))] [] M mm_fV (f_X11_weighBack_89 k33 x1 x2 M) := by
  unfold f_X11_weighBack_89
  refine sim_iinc (v := x2 + (1 : Int32)) (L' := [(0, .ref 0), (1, .int (x1)), (2, .int (x2 + (1 : Int32)))]) 2 d_X11_weighBack_89 (Nat.le_of_ble_eq_true rfl) rfl rfl rfl ?_
  refine sim_goto d_X11_weighBack_92 ?_
  exact sim_sub [0, 1, 2] rfl (hk33 x1 (x2 + (1 : Int32)) M)
def f_X11_weighBack_66 (k33 : Int32 → Int32 → mm_M → Option (mm_M)) (x1 : Int32) (x2 : Int32) (M : mm_M) : Option (mm_M) :=
  mm_bi (f_X2_partsBelow_6 x2 M) (fun r1 M1 =>
  mm_bi (f_X2_partsAbove_6 x2 M1) (fun r2 M2 =>
  mm_bv (f_X3_add_8 r1 r2 M2) (fun M3 =>
  f_X11_weighBack_89 k33 x1 x2 M3)))
theorem s_X11_weighBack_66 (k33 : Int32 → Int32 → mm_M → Option (mm_M)) (hk33 : ∀ (x1 : Int32) (x2 : Int32) (M : mm_M), Sim sysC Y_X11_weighBack 5 33 [(0, .ref 0), (1, .int (x1)), (2, .int (x2))] [] M mm_fV (k33 x1 x2 M)) (x1 : Int32) (x2 : Int32) (M : mm_M) : Sim sysC Y_X11_weighBack 5 66 [(0, .ref 0), (1, .int (x1)), (2, .int (x2))] [] M mm_fV (f_X11_weighBack_66 k33 x1 x2 M) := by
  unfold f_X11_weighBack_66
  refine sim_aload_n 0 d_X11_weighBack_66 rfl rfl ?_
  refine sim_geta d_X11_weighBack_67 fl_X11_49 ob_C_0 rfl ?_
  refine sim_aload_n 0 d_X11_weighBack_70 rfl rfl ?_
  refine sim_geta d_X11_weighBack_71 fl_X11_39 ob_C_0 rfl ?_
  refine sim_iload_n 2 d_X11_weighBack_74 rfl rfl ?_
  refine sim_callVl Y_X2_partsBelow 1 [.int (x2)] [.ref 8] d_X11_weighBack_75 lk_X11_199 cv_X2_partsBelow ob_C_6 rfl (by omega) (Nat.le_of_ble_eq_true rfl) (ct_X2_partsBelow_6 x2 M) (fun r1 M1 => ?_)
  refine sim_aload_n 0 d_X11_weighBack_78 rfl rfl ?_
  refine sim_geta d_X11_weighBack_79 fl_X11_39 ob_C_0 rfl ?_
  refine sim_iload_n 2 d_X11_weighBack_82 rfl rfl ?_
  refine sim_callVl Y_X2_partsAbove 0 [.int (x2)] [.long (r1), .ref 8] d_X11_weighBack_83 lk_X11_195 cv_X2_partsAbove ob_C_6 rfl (by omega) (Nat.le_of_ble_eq_true rfl) (ct_X2_partsAbove_6 x2 M1) (fun r2 M2 => ?_)
  refine sim_callVv Y_X3_add 2 [.long (r1), .long (r2)] [] d_X11_weighBack_86 lk_X11_377 cv_X3_add ob_C_8 rfl (by omega) (Nat.le_of_ble_eq_true rfl) (ct_X3_add_8 r1 r2 M2) (fun M3 => ?_)
  exact sim_sub [0, 1, 2] rfl (s_X11_weighBack_89 k33 hk33 x1 x2 M3)
def f_X11_weighBack_33 : Nat → Int32 → Int32 → mm_M → Option (mm_M)
  | 0, _, _, _ => none
  | n + 1, x1, x2, M =>
  if (40 : Int32) ≤ x2 then
    some M
  else
    mm_ck x2 40 (
    if (mI M 51 x2.toNatClampNeg) = 0 then
      f_X11_weighBack_89 (f_X11_weighBack_33 n) x1 x2 M
    else
      if x1 = 0 then
        mm_bi (f_X10_latestGoodSold x2 M) (fun r1 M1 =>
        if r1 = 0 then
          f_X11_weighBack_89 (f_X11_weighBack_33 n) x1 x2 M1
        else
          f_X11_weighBack_66 (f_X11_weighBack_33 n) x1 x2 M1)
      else
        f_X11_weighBack_66 (f_X11_weighBack_33 n) x1 x2 M)
theorem s_X11_weighBack_33 (n : Nat) : ∀ (x1 : Int32) (x2 : Int32) (M : mm_M), Sim sysC Y_X11_weighBack 5 33 [(0, .ref 0), (1, .int (x1)), (2, .int (x2))] [] M mm_fV (f_X11_weighBack_33 n x1 x2 M) := by
  induction n with
  | zero => intros; exact sim_none
  | succ n ih =>
    intro x1 x2 M
    rw [f_X11_weighBack_33]
    refine sim_iload_n 2 d_X11_weighBack_33 rfl rfl ?_
    refine sim_bipush (40 : Int32) d_X11_weighBack_34 rfl ?_
    refine sim_icmp_ge d_X11_weighBack_36 ?_ ?_
    ·
      exact sim_vret d_X11_weighBack_95 rfl
    ·
      refine sim_aload_n 0 d_X11_weighBack_39 rfl rfl ?_
      refine sim_geta d_X11_weighBack_40 fl_X11_39 ob_C_0 rfl ?_
      refine sim_geta d_X11_weighBack_43 fl_X11_192 ob_C_6 rfl ?_
      refine sim_iload_n 2 d_X11_weighBack_46 rfl rfl ?_
      refine sim_zald d_X11_weighBack_47 ar_C_51 ?_
      refine sim_if_eq d_X11_weighBack_48 ?_ ?_
      ·
        exact sim_sub [0, 1, 2] rfl (s_X11_weighBack_89 (f_X11_weighBack_33 n) ih x1 x2 M)
      ·
        refine sim_iload_n 1 d_X11_weighBack_51 rfl rfl ?_
        refine sim_if_ne d_X11_weighBack_52 ?_ ?_
        ·
          exact sim_sub [0, 1, 2] rfl (s_X11_weighBack_66 (f_X11_weighBack_33 n) ih x1 x2 M)
        ·
          refine sim_aload_n 0 d_X11_weighBack_55 rfl rfl ?_
          refine sim_geta d_X11_weighBack_56 fl_X11_10 ob_C_0 rfl ?_
          refine sim_iload_n 2 d_X11_weighBack_59 rfl rfl ?_
          refine sim_callVi Y_X10_latestGoodSold 2 [.int (x2)] [] d_X11_weighBack_60 lk_X11_374 cv_X10_latestGoodSold ob_C_1 rfl (by omega) (Nat.le_of_ble_eq_true rfl) (ct_X10_latestGoodSold x2 M) (fun r1 M1 => ?_)
          refine sim_if_eq d_X11_weighBack_63 ?_ ?_
          ·
            exact sim_sub [0, 1, 2] rfl (s_X11_weighBack_89 (f_X11_weighBack_33 n) ih x1 x2 M1)
          ·
            exact sim_sub [0, 1, 2] rfl (s_X11_weighBack_66 (f_X11_weighBack_33 n) ih x1 x2 M1)
def f_X11_weighBack_22 (x1 : Int32) (M : mm_M) : Option (mm_M) :=
  mm_bv (f_X3_become_8 (0 : Int64) (1 : Int64) M) (fun M1 =>
  f_X11_weighBack_33 mm_fu x1 (0 : Int32) M1)
theorem s_X11_weighBack_22 (x1 : Int32) (M : mm_M) : Sim sysC Y_X11_weighBack 5 22 [(0, .ref 0), (1, .int (x1))] [] M mm_fV (f_X11_weighBack_22 x1 M) := by
  unfold f_X11_weighBack_22
  refine sim_aload_n 0 d_X11_weighBack_22 rfl rfl ?_
  refine sim_geta d_X11_weighBack_23 fl_X11_49 ob_C_0 rfl ?_
  refine sim_lconst (0 : Int64) d_X11_weighBack_26 rfl ?_
  refine sim_lconst (1 : Int64) d_X11_weighBack_27 rfl ?_
  refine sim_callVv Y_X3_become 1 [.long ((0 : Int64)), .long ((1 : Int64))] [] d_X11_weighBack_28 lk_X11_202 cv_X3_become ob_C_8 rfl (by omega) (Nat.le_of_ble_eq_true rfl) (ct_X3_become_8 (0 : Int64) (1 : Int64) M) (fun M1 => ?_)
  refine sim_iconst (0 : Int32) d_X11_weighBack_31 rfl ?_
  refine sim_istore_n (L' := [(0, .ref 0), (1, .int (x1)), (2, .int ((0 : Int32)))]) d_X11_weighBack_32 rfl (Nat.le_of_ble_eq_true rfl) rfl ?_
  exact sim_sub [0, 1, 2] rfl (s_X11_weighBack_33 mm_fu x1 (0 : Int32) M1)
def f_X11_weighBack (a1 : Int32) (M : mm_M) : Option (mm_M) :=
  if a1 = 0 then
    mm_bv (f_X10_weigh (mI M 0 16) (mI M 4 7) M) (fun M1 =>
    f_X11_weighBack_22 a1 M1)
  else
    f_X11_weighBack_22 a1 M
theorem s_X11_weighBack (a1 : Int32) (M : mm_M) : Sim sysC Y_X11_weighBack 5 0 [(0, .ref 0), (1, .int (a1))] [] M mm_fV (f_X11_weighBack a1 M) := by
  unfold f_X11_weighBack
  refine sim_iload_n 1 d_X11_weighBack_0 rfl rfl ?_
  refine sim_if_ne d_X11_weighBack_1 ?_ ?_
  ·
    exact sim_sub [0, 1] rfl (s_X11_weighBack_22 a1 M)
  ·
    refine sim_aload_n 0 d_X11_weighBack_4 rfl rfl ?_
    refine sim_geta d_X11_weighBack_5 fl_X11_10 ob_C_0 rfl ?_
    refine sim_aload_n 0 d_X11_weighBack_8 rfl rfl ?_
    refine sim_geti d_X11_weighBack_9 fl_X11_102 ob_C_0 rfl ?_
    refine sim_aload_n 0 d_X11_weighBack_12 rfl rfl ?_
    refine sim_geta d_X11_weighBack_13 fl_X11_30 ob_C_0 rfl ?_
    refine sim_geti d_X11_weighBack_16 fl_X11_258 ob_C_4 rfl ?_
    refine sim_callVv Y_X10_weigh 4 [.int (mI M 0 16), .int (mI M 4 7)] [] d_X11_weighBack_19 lk_X11_274 cv_X10_weigh ob_C_1 rfl (by omega) (Nat.le_of_ble_eq_true rfl) (ct_X10_weigh (mI M 0 16) (mI M 4 7) M) (fun M1 => ?_)
    exact sim_sub [0, 1] rfl (s_X11_weighBack_22 a1 M1)
theorem ct_X11_weighBack (a1 : Int32) (M : mm_M) : Ct sysC Y_X11_weighBack 5 [.ref 0, .int (a1)] M mm_fV (f_X11_weighBack a1 M) :=
  ct_of_sim (by decide) rfl (Nat.le_of_ble_eq_true rfl) (s_X11_weighBack a1 M)

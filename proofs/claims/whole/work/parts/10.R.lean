def f_X12_thrown (M : mm_M) : Option (Int32 × mm_M) :=
  some (mI M 0 0, M)
theorem s_X12_thrown (M : mm_M) : Sim sysR Y_X12_thrown 0 0 [(0, .ref 0)] [] M mm_fI (f_X12_thrown M) := by
  unfold f_X12_thrown
  refine sim_aload_n 0 d_X12_thrown_0 rfl rfl ?_
  refine sim_geti d_X12_thrown_1 fl_X12_177 ob_R_0 rfl ?_
  exact sim_iret d_X12_thrown_4 rfl
theorem ct_X12_thrown (M : mm_M) : Ct sysR Y_X12_thrown 0 [.ref 0] M mm_fI (f_X12_thrown M) :=
  ct_of_sim (by decide) rfl (Nat.le_of_ble_eq_true rfl) (s_X12_thrown M)
def f_X12_refuse (a1 : Int32) (M : mm_M) : Option (Int32 × mm_M) :=
  mm_ck (-a1) 7 (
  mm_ck (-a1) 7 (
  mm_let (sI M 14 (-a1).toNatClampNeg ((mI M 14 (-a1).toNatClampNeg) + (1 : Int32))) (fun M1 =>
  some (a1, M1))))
theorem s_X12_refuse (a1 : Int32) (M : mm_M) : Sim sysR Y_X12_refuse 0 0 [(0, .ref 0), (1, .int (a1))] [] M mm_fI (f_X12_refuse a1 M) := by
  unfold f_X12_refuse
  refine sim_aload_n 0 d_X12_refuse_0 rfl rfl ?_
  refine sim_geta d_X12_refuse_1 fl_X12_50 ob_R_0 rfl ?_
  refine sim_iload_n 1 d_X12_refuse_4 rfl rfl ?_
  refine sim_ineg d_X12_refuse_5 ?_
  refine sim_dup2_11 d_X12_refuse_6 rfl rfl ?_
  refine sim_iald d_X12_refuse_7 ar_R_14 ?_
  refine sim_iconst (1 : Int32) d_X12_refuse_8 rfl ?_
  refine sim_iadd d_X12_refuse_9 ?_
  refine sim_iast d_X12_refuse_10 ar_R_14 ?_
  refine sim_nmM (fun M1 => ?_)
  refine sim_iload_n 1 d_X12_refuse_11 rfl rfl ?_
  exact sim_iret d_X12_refuse_12 rfl
theorem ct_X12_refuse (a1 : Int32) (M : mm_M) : Ct sysR Y_X12_refuse 0 [.ref 0, .int (a1)] M mm_fI (f_X12_refuse a1 M) :=
  ct_of_sim (by decide) rfl (Nat.le_of_ble_eq_true rfl) (s_X12_refuse a1 M)
def f_X12_in (a1 : Int32) (a2 : Int32) (a3 : Int32) (M : mm_M) : Option (Int32 × mm_M) :=
  if a1 < a2 then
    some ((0 : Int32), M)
  else
    if a3 < a1 then
      some ((0 : Int32), M)
    else
      some ((1 : Int32), M)
theorem s_X12_in (a1 : Int32) (a2 : Int32) (a3 : Int32) (M : mm_M) : Sim sysR Y_X12_in 0 0 [(0, .int (a1)), (1, .int (a2)), (2, .int (a3))] [] M mm_fI (f_X12_in a1 a2 a3 M) := by
  unfold f_X12_in
  refine sim_iload_n 0 d_X12_in_0 rfl rfl ?_
  refine sim_iload_n 1 d_X12_in_1 rfl rfl ?_
  refine sim_icmp_lt d_X12_in_2 ?_ ?_
  ·
    refine sim_iconst (0 : Int32) d_X12_in_14 rfl ?_
    exact sim_zret d_X12_in_15 rfl rfl
  ·
    refine sim_iload_n 0 d_X12_in_5 rfl rfl ?_
    refine sim_iload_n 2 d_X12_in_6 rfl rfl ?_
    refine sim_icmp_gt d_X12_in_7 ?_ ?_
    ·
      refine sim_iconst (0 : Int32) d_X12_in_14 rfl ?_
      exact sim_zret d_X12_in_15 rfl rfl
    ·
      refine sim_iconst (1 : Int32) d_X12_in_10 rfl ?_
      refine sim_goto d_X12_in_11 ?_
      exact sim_zret d_X12_in_15 rfl rfl
theorem ct_X12_in (a1 : Int32) (a2 : Int32) (a3 : Int32) (M : mm_M) : Ct sysR Y_X12_in 0 [.int (a1), .int (a2), .int (a3)] M mm_fI (f_X12_in a1 a2 a3 M) :=
  ct_of_sim (by decide) rfl (Nat.le_of_ble_eq_true rfl) (s_X12_in a1 a2 a3 M)
def f_X12_isShop (a1 : Int32) (M : mm_M) : Option (Int32 × mm_M) :=
  mm_bi (f_X12_in a1 (0 : Int32) ((mI M 0 2) - (1 : Int32)) M) (fun r1 M1 =>
  mm_bz r1 (some (r1, M1)))
theorem s_X12_isShop (a1 : Int32) (M : mm_M) : Sim sysR Y_X12_isShop 1 0 [(0, .ref 0), (1, .int (a1))] [] M mm_fI (f_X12_isShop a1 M) := by
  unfold f_X12_isShop
  refine sim_iload_n 1 d_X12_isShop_0 rfl rfl ?_
  refine sim_iconst (0 : Int32) d_X12_isShop_1 rfl ?_
  refine sim_aload_n 0 d_X12_isShop_2 rfl rfl ?_
  refine sim_geti d_X12_isShop_3 fl_X12_180 ob_R_0 rfl ?_
  refine sim_iconst (1 : Int32) d_X12_isShop_6 rfl ?_
  refine sim_isub d_X12_isShop_7 ?_
  refine sim_callSi Y_X12_in 0 [.int (a1), .int ((0 : Int32)), .int ((mI M 0 2) - (1 : Int32))] [] d_X12_isShop_8 lk_X12_183 cs_X12_in rfl (by omega) (Nat.le_of_ble_eq_true rfl) (ct_X12_in a1 (0 : Int32) ((mI M 0 2) - (1 : Int32)) M) (fun r1 M1 => ?_)
  exact sim_zretb d_X12_isShop_11 rfl
theorem ct_X12_isShop (a1 : Int32) (M : mm_M) : Ct sysR Y_X12_isShop 1 [.ref 0, .int (a1)] M mm_fI (f_X12_isShop a1 M) :=
  ct_of_sim (by decide) rfl (Nat.le_of_ble_eq_true rfl) (s_X12_isShop a1 M)
def f_X12_days (a1 : Int32) (M : mm_M) : Option (Int32 × mm_M) :=
  mm_let (sI M 0 0 (0 : Int32)) (fun M1 =>
  if (1 : Int32) ≤ a1 then
    if a1 ≤ ((2000 : Int32) - (mI M1 0 1)) then
      mm_let (sI M1 0 1 ((mI M1 0 1) + a1)) (fun M2 =>
      some (mI M2 0 1, M2))
    else
      mm_bi (f_X12_refuse (-6 : Int32) M1) (fun r1 M3 =>
      some (r1, M3))
  else
    mm_bi (f_X12_refuse (-4 : Int32) M1) (fun r2 M4 =>
    some (r2, M4)))
theorem s_X12_days (a1 : Int32) (M : mm_M) : Sim sysR Y_X12_days 1 0 [(0, .ref 0), (1, .int (a1))] [] M mm_fI (f_X12_days a1 M) := by
  unfold f_X12_days
  refine sim_aload_n 0 d_X12_days_0 rfl rfl ?_
  refine sim_iconst (0 : Int32) d_X12_days_1 rfl ?_
  refine sim_puti d_X12_days_2 fl_X12_177 ob_R_0 rfl ?_
  refine sim_nmM (fun M1 => ?_)
  refine sim_iload_n 1 d_X12_days_5 rfl rfl ?_
  refine sim_iconst (1 : Int32) d_X12_days_6 rfl ?_
  refine sim_icmp_ge d_X12_days_7 ?_ ?_
  ·
    refine sim_iload_n 1 d_X12_days_17 rfl rfl ?_
    refine sim_sipush (2000 : Int32) d_X12_days_18 rfl ?_
    refine sim_aload_n 0 d_X12_days_21 rfl rfl ?_
    refine sim_geti d_X12_days_22 fl_X12_191 ob_R_0 rfl ?_
    refine sim_isub d_X12_days_25 ?_
    refine sim_icmp_le d_X12_days_26 ?_ ?_
    ·
      refine sim_aload_n 0 d_X12_days_36 rfl rfl ?_
      refine sim_dup d_X12_days_37 rfl ?_
      refine sim_geti d_X12_days_38 fl_X12_191 ob_R_0 rfl ?_
      refine sim_iload_n 1 d_X12_days_41 rfl rfl ?_
      refine sim_iadd d_X12_days_42 ?_
      refine sim_puti d_X12_days_43 fl_X12_191 ob_R_0 rfl ?_
      refine sim_nmM (fun M2 => ?_)
      refine sim_aload_n 0 d_X12_days_46 rfl rfl ?_
      refine sim_geti d_X12_days_47 fl_X12_191 ob_R_0 rfl ?_
      exact sim_iret d_X12_days_50 rfl
    ·
      refine sim_aload_n 0 d_X12_days_29 rfl rfl ?_
      refine sim_bipush (-6 : Int32) d_X12_days_30 rfl ?_
      refine sim_callVi Y_X12_refuse 0 [.int ((-6 : Int32))] [] d_X12_days_32 lk_X12_187 cv_X12_refuse ob_R_0 rfl (by omega) (Nat.le_of_ble_eq_true rfl) (ct_X12_refuse (-6 : Int32) M1) (fun r1 M3 => ?_)
      exact sim_iret d_X12_days_35 rfl
  ·
    refine sim_aload_n 0 d_X12_days_10 rfl rfl ?_
    refine sim_bipush (-4 : Int32) d_X12_days_11 rfl ?_
    refine sim_callVi Y_X12_refuse 0 [.int ((-4 : Int32))] [] d_X12_days_13 lk_X12_187 cv_X12_refuse ob_R_0 rfl (by omega) (Nat.le_of_ble_eq_true rfl) (ct_X12_refuse (-4 : Int32) M1) (fun r2 M4 => ?_)
    exact sim_iret d_X12_days_16 rfl
theorem ct_X12_days (a1 : Int32) (M : mm_M) : Ct sysR Y_X12_days 1 [.ref 0, .int (a1)] M mm_fI (f_X12_days a1 M) :=
  ct_of_sim (by decide) rfl (Nat.le_of_ble_eq_true rfl) (s_X12_days a1 M)
def f_X12_shop_74 (M : mm_M) : Option (Int32 × mm_M) :=
  mm_bi (f_X12_refuse (-6 : Int32) M) (fun r1 M1 =>
  some (r1, M1))
theorem s_X12_shop_74 (M : mm_M) : Sim sysR Y_X12_shop 1 74 [(0, .ref 0)] [] M mm_fI (f_X12_shop_74 M) := by
  unfold f_X12_shop_74
  refine sim_aload_n 0 d_X12_shop_74 rfl rfl ?_
  refine sim_bipush (-6 : Int32) d_X12_shop_75 rfl ?_
  refine sim_callVi Y_X12_refuse 0 [.int ((-6 : Int32))] [] d_X12_shop_77 lk_X12_187 cv_X12_refuse ob_R_0 rfl (by omega) (Nat.le_of_ble_eq_true rfl) (ct_X12_refuse (-6 : Int32) M) (fun r1 M1 => ?_)
  exact sim_iret d_X12_shop_80 rfl
def f_X12_shop_45 (M : mm_M) : Option (Int32 × mm_M) :=
  mm_bi (f_X12_refuse (-4 : Int32) M) (fun r1 M1 =>
  some (r1, M1))
theorem s_X12_shop_45 (M : mm_M) : Sim sysR Y_X12_shop 1 45 [(0, .ref 0)] [] M mm_fI (f_X12_shop_45 M) := by
  unfold f_X12_shop_45
  refine sim_aload_n 0 d_X12_shop_45 rfl rfl ?_
  refine sim_bipush (-4 : Int32) d_X12_shop_46 rfl ?_
  refine sim_callVi Y_X12_refuse 0 [.int ((-4 : Int32))] [] d_X12_shop_48 lk_X12_187 cv_X12_refuse ob_R_0 rfl (by omega) (Nat.le_of_ble_eq_true rfl) (ct_X12_refuse (-4 : Int32) M) (fun r1 M1 => ?_)
  exact sim_iret d_X12_shop_51 rfl
def f_X12_shop (a1 : Int32) (a2 : Int32) (a3 : Int32) (a4 : Int32) (M : mm_M) : Option (Int32 × mm_M) :=
  mm_let (sI M 0 0 (0 : Int32)) (fun M1 =>
  mm_bi (f_X12_in a1 (0 : Int32) (4 : Int32) M1) (fun r1 M2 =>
  if r1 = 0 then
    mm_bi (f_X12_refuse (-2 : Int32) M2) (fun r4 M14 =>
    some (r4, M14))
  else
    mm_bi (f_X12_in a2 (0 : Int32) (3 : Int32) M2) (fun r2 M3 =>
    if r2 = 0 then
      mm_bi (f_X12_refuse (-1 : Int32) M3) (fun r3 M13 =>
      some (r3, M13))
    else
      if a3 < 0 then
        f_X12_shop_45 M3
      else
        if 0 ≤ a4 then
          if (60 : Int32) < a3 then
            f_X12_shop_74 M3
          else
            if (60 : Int32) < a4 then
              f_X12_shop_74 M3
            else
              if (mI M3 0 2) = (40 : Int32) then
                f_X12_shop_74 M3
              else
                mm_ck (mI M3 0 2) 40 (
                mm_let (sI M3 1 (mI M3 0 2).toNatClampNeg a1) (fun M4 =>
                mm_ck (mI M4 0 2) 40 (
                mm_let (sI M4 2 (mI M4 0 2).toNatClampNeg a2) (fun M5 =>
                mm_ck (mI M5 0 2) 40 (
                mm_let (sI M5 3 (mI M5 0 2).toNatClampNeg a3) (fun M6 =>
                mm_ck (mI M6 0 2) 40 (
                mm_let (sI M6 4 (mI M6 0 2).toNatClampNeg a4) (fun M7 =>
                mm_ck (mI M7 0 2) 40 (
                mm_let (sI M7 5 (mI M7 0 2).toNatClampNeg (1 : Int32)) (fun M8 =>
                mm_ck (mI M8 0 2) 40 (
                mm_let (sI M8 6 (mI M8 0 2).toNatClampNeg ((1 : Int32) &&& 1)) (fun M9 =>
                mm_ck (mI M9 0 2) 40 (
                mm_let (sI M9 7 (mI M9 0 2).toNatClampNeg (1 : Int32)) (fun M10 =>
                mm_ck ((6 : Int32) * (mI M10 0 2)) 240 (
                mm_let (sI M10 8 ((6 : Int32) * (mI M10 0 2)).toNatClampNeg (mI M10 0 1)) (fun M11 =>
                mm_let (sI M11 0 2 ((mI M11 0 2) + (1 : Int32))) (fun M12 =>
                some ((mI M12 0 2) - (1 : Int32), M12))))))))))))))))))
        else
          f_X12_shop_45 M3)))
theorem s_X12_shop (a1 : Int32) (a2 : Int32) (a3 : Int32) (a4 : Int32) (M : mm_M) : Sim sysR Y_X12_shop 1 0 [(0, .ref 0), (1, .int (a1)), (2, .int (a2)), (3, .int (a3)), (4, .int (a4))] [] M mm_fI (f_X12_shop a1 a2 a3 a4 M) := by
  unfold f_X12_shop
  refine sim_aload_n 0 d_X12_shop_0 rfl rfl ?_
  refine sim_iconst (0 : Int32) d_X12_shop_1 rfl ?_
  refine sim_puti d_X12_shop_2 fl_X12_177 ob_R_0 rfl ?_
  refine sim_nmM (fun M1 => ?_)
  refine sim_iload_n 1 d_X12_shop_5 rfl rfl ?_
  refine sim_iconst (0 : Int32) d_X12_shop_6 rfl ?_
  refine sim_iconst (4 : Int32) d_X12_shop_7 rfl ?_
  refine sim_callSi Y_X12_in 0 [.int (a1), .int ((0 : Int32)), .int ((4 : Int32))] [] d_X12_shop_8 lk_X12_183 cs_X12_in rfl (by omega) (Nat.le_of_ble_eq_true rfl) (ct_X12_in a1 (0 : Int32) (4 : Int32) M1) (fun r1 M2 => ?_)
  refine sim_if_ne d_X12_shop_11 ?_ ?_
  ·
    refine sim_iload_n 2 d_X12_shop_21 rfl rfl ?_
    refine sim_iconst (0 : Int32) d_X12_shop_22 rfl ?_
    refine sim_iconst (3 : Int32) d_X12_shop_23 rfl ?_
    refine sim_callSi Y_X12_in 0 [.int (a2), .int ((0 : Int32)), .int ((3 : Int32))] [] d_X12_shop_24 lk_X12_183 cs_X12_in rfl (by omega) (Nat.le_of_ble_eq_true rfl) (ct_X12_in a2 (0 : Int32) (3 : Int32) M2) (fun r2 M3 => ?_)
    refine sim_if_ne d_X12_shop_27 ?_ ?_
    ·
      refine sim_iload_n 3 d_X12_shop_36 rfl rfl ?_
      refine sim_if_lt d_X12_shop_37 ?_ ?_
      ·
        exact sim_sub [0] rfl (s_X12_shop_45 M3)
      ·
        refine sim_iload 4 d_X12_shop_40 rfl ?_
        refine sim_if_ge d_X12_shop_42 ?_ ?_
        ·
          refine sim_iload_n 3 d_X12_shop_52 rfl rfl ?_
          refine sim_bipush (60 : Int32) d_X12_shop_53 rfl ?_
          refine sim_icmp_gt d_X12_shop_55 ?_ ?_
          ·
            exact sim_sub [0] rfl (s_X12_shop_74 M3)
          ·
            refine sim_iload 4 d_X12_shop_58 rfl ?_
            refine sim_bipush (60 : Int32) d_X12_shop_60 rfl ?_
            refine sim_icmp_gt d_X12_shop_62 ?_ ?_
            ·
              exact sim_sub [0] rfl (s_X12_shop_74 M3)
            ·
              refine sim_aload_n 0 d_X12_shop_65 rfl rfl ?_
              refine sim_geti d_X12_shop_66 fl_X12_180 ob_R_0 rfl ?_
              refine sim_bipush (40 : Int32) d_X12_shop_69 rfl ?_
              refine sim_icmp_ne d_X12_shop_71 ?_ ?_
              ·
                refine sim_aload_n 0 d_X12_shop_81 rfl rfl ?_
                refine sim_geta d_X12_shop_82 fl_X12_7 ob_R_0 rfl ?_
                refine sim_aload_n 0 d_X12_shop_85 rfl rfl ?_
                refine sim_geti d_X12_shop_86 fl_X12_180 ob_R_0 rfl ?_
                refine sim_iload_n 1 d_X12_shop_89 rfl rfl ?_
                refine sim_iast d_X12_shop_90 ar_R_1 ?_
                refine sim_nmM (fun M4 => ?_)
                refine sim_aload_n 0 d_X12_shop_91 rfl rfl ?_
                refine sim_geta d_X12_shop_92 fl_X12_13 ob_R_0 rfl ?_
                refine sim_aload_n 0 d_X12_shop_95 rfl rfl ?_
                refine sim_geti d_X12_shop_96 fl_X12_180 ob_R_0 rfl ?_
                refine sim_iload_n 2 d_X12_shop_99 rfl rfl ?_
                refine sim_iast d_X12_shop_100 ar_R_2 ?_
                refine sim_nmM (fun M5 => ?_)
                refine sim_aload_n 0 d_X12_shop_101 rfl rfl ?_
                refine sim_geta d_X12_shop_102 fl_X12_16 ob_R_0 rfl ?_
                refine sim_aload_n 0 d_X12_shop_105 rfl rfl ?_
                refine sim_geti d_X12_shop_106 fl_X12_180 ob_R_0 rfl ?_
                refine sim_iload_n 3 d_X12_shop_109 rfl rfl ?_
                refine sim_iast d_X12_shop_110 ar_R_3 ?_
                refine sim_nmM (fun M6 => ?_)
                refine sim_aload_n 0 d_X12_shop_111 rfl rfl ?_
                refine sim_geta d_X12_shop_112 fl_X12_19 ob_R_0 rfl ?_
                refine sim_aload_n 0 d_X12_shop_115 rfl rfl ?_
                refine sim_geti d_X12_shop_116 fl_X12_180 ob_R_0 rfl ?_
                refine sim_iload 4 d_X12_shop_119 rfl ?_
                refine sim_iast d_X12_shop_121 ar_R_4 ?_
                refine sim_nmM (fun M7 => ?_)
                refine sim_aload_n 0 d_X12_shop_122 rfl rfl ?_
                refine sim_geta d_X12_shop_123 fl_X12_22 ob_R_0 rfl ?_
                refine sim_aload_n 0 d_X12_shop_126 rfl rfl ?_
                refine sim_geti d_X12_shop_127 fl_X12_180 ob_R_0 rfl ?_
                refine sim_iconst (1 : Int32) d_X12_shop_130 rfl ?_
                refine sim_iast d_X12_shop_131 ar_R_5 ?_
                refine sim_nmM (fun M8 => ?_)
                refine sim_aload_n 0 d_X12_shop_132 rfl rfl ?_
                refine sim_geta d_X12_shop_133 fl_X12_25 ob_R_0 rfl ?_
                refine sim_aload_n 0 d_X12_shop_136 rfl rfl ?_
                refine sim_geti d_X12_shop_137 fl_X12_180 ob_R_0 rfl ?_
                refine sim_iconst (1 : Int32) d_X12_shop_140 rfl ?_
                refine sim_zast d_X12_shop_141 ar_R_6 ?_
                refine sim_nmM (fun M9 => ?_)
                refine sim_aload_n 0 d_X12_shop_142 rfl rfl ?_
                refine sim_geta d_X12_shop_143 fl_X12_29 ob_R_0 rfl ?_
                refine sim_aload_n 0 d_X12_shop_146 rfl rfl ?_
                refine sim_geti d_X12_shop_147 fl_X12_180 ob_R_0 rfl ?_
                refine sim_iconst (1 : Int32) d_X12_shop_150 rfl ?_
                refine sim_iast d_X12_shop_151 ar_R_7 ?_
                refine sim_nmM (fun M10 => ?_)
                refine sim_aload_n 0 d_X12_shop_152 rfl rfl ?_
                refine sim_geta d_X12_shop_153 fl_X12_32 ob_R_0 rfl ?_
                refine sim_bipush (6 : Int32) d_X12_shop_156 rfl ?_
                refine sim_aload_n 0 d_X12_shop_158 rfl rfl ?_
                refine sim_geti d_X12_shop_159 fl_X12_180 ob_R_0 rfl ?_
                refine sim_imul d_X12_shop_162 ?_
                refine sim_aload_n 0 d_X12_shop_163 rfl rfl ?_
                refine sim_geti d_X12_shop_164 fl_X12_191 ob_R_0 rfl ?_
                refine sim_iast d_X12_shop_167 ar_R_8 ?_
                refine sim_nmM (fun M11 => ?_)
                refine sim_aload_n 0 d_X12_shop_168 rfl rfl ?_
                refine sim_dup d_X12_shop_169 rfl ?_
                refine sim_geti d_X12_shop_170 fl_X12_180 ob_R_0 rfl ?_
                refine sim_iconst (1 : Int32) d_X12_shop_173 rfl ?_
                refine sim_iadd d_X12_shop_174 ?_
                refine sim_puti d_X12_shop_175 fl_X12_180 ob_R_0 rfl ?_
                refine sim_nmM (fun M12 => ?_)
                refine sim_aload_n 0 d_X12_shop_178 rfl rfl ?_
                refine sim_geti d_X12_shop_179 fl_X12_180 ob_R_0 rfl ?_
                refine sim_iconst (1 : Int32) d_X12_shop_182 rfl ?_
                refine sim_isub d_X12_shop_183 ?_
                exact sim_iret d_X12_shop_184 rfl
              ·
                exact sim_sub [0] rfl (s_X12_shop_74 M3)
        ·
          exact sim_sub [0] rfl (s_X12_shop_45 M3)
    ·
      refine sim_aload_n 0 d_X12_shop_30 rfl rfl ?_
      refine sim_iconst (-1 : Int32) d_X12_shop_31 rfl ?_
      refine sim_callVi Y_X12_refuse 0 [.int ((-1 : Int32))] [] d_X12_shop_32 lk_X12_187 cv_X12_refuse ob_R_0 rfl (by omega) (Nat.le_of_ble_eq_true rfl) (ct_X12_refuse (-1 : Int32) M3) (fun r3 M13 => ?_)
      exact sim_iret d_X12_shop_35 rfl
  ·
    refine sim_aload_n 0 d_X12_shop_14 rfl rfl ?_
    refine sim_bipush (-2 : Int32) d_X12_shop_15 rfl ?_
    refine sim_callVi Y_X12_refuse 0 [.int ((-2 : Int32))] [] d_X12_shop_17 lk_X12_187 cv_X12_refuse ob_R_0 rfl (by omega) (Nat.le_of_ble_eq_true rfl) (ct_X12_refuse (-2 : Int32) M2) (fun r4 M14 => ?_)
    exact sim_iret d_X12_shop_20 rfl
theorem ct_X12_shop (a1 : Int32) (a2 : Int32) (a3 : Int32) (a4 : Int32) (M : mm_M) : Ct sysR Y_X12_shop 1 [.ref 0, .int (a1), .int (a2), .int (a3), .int (a4)] M mm_fI (f_X12_shop a1 a2 a3 a4 M) :=
  ct_of_sim (by decide) rfl (Nat.le_of_ble_eq_true rfl) (s_X12_shop a1 a2 a3 a4 M)
def f_X12_weight (a1 : Int32) (a2 : Int32) (M : mm_M) : Option (Int32 × mm_M) :=
  mm_let (sI M 0 0 (0 : Int32)) (fun M1 =>
  mm_bi (f_X12_isShop a1 M1) (fun r1 M2 =>
  if r1 = 0 then
    mm_bi (f_X12_refuse (-1 : Int32) M2) (fun r4 M6 =>
    some (r4, M6))
  else
    if (1 : Int32) ≤ a2 then
      if a2 ≤ (20 : Int32) then
        mm_ck a1 40 (
        mm_let (mI M2 5 a1.toNatClampNeg) (fun v1 =>
        mm_ck a1 40 (
        mm_let (sI M2 5 a1.toNatClampNeg a2) (fun M3 =>
        some (v1, M3)))))
      else
        mm_bi (f_X12_refuse (-6 : Int32) M2) (fun r2 M4 =>
        some (r2, M4))
    else
      mm_bi (f_X12_refuse (-4 : Int32) M2) (fun r3 M5 =>
      some (r3, M5))))
theorem s_X12_weight (a1 : Int32) (a2 : Int32) (M : mm_M) : Sim sysR Y_X12_weight 2 0 [(0, .ref 0), (1, .int (a1)), (2, .int (a2))] [] M mm_fI (f_X12_weight a1 a2 M) := by
  unfold f_X12_weight
  refine sim_aload_n 0 d_X12_weight_0 rfl rfl ?_
  refine sim_iconst (0 : Int32) d_X12_weight_1 rfl ?_
  refine sim_puti d_X12_weight_2 fl_X12_177 ob_R_0 rfl ?_
  refine sim_nmM (fun M1 => ?_)
  refine sim_aload_n 0 d_X12_weight_5 rfl rfl ?_
  refine sim_iload_n 1 d_X12_weight_6 rfl rfl ?_
  refine sim_callVi Y_X12_isShop 1 [.int (a1)] [] d_X12_weight_7 lk_X12_194 cv_X12_isShop ob_R_0 rfl (by omega) (Nat.le_of_ble_eq_true rfl) (ct_X12_isShop a1 M1) (fun r1 M2 => ?_)
  refine sim_if_ne d_X12_weight_10 ?_ ?_
  ·
    refine sim_iload_n 2 d_X12_weight_19 rfl rfl ?_
    refine sim_iconst (1 : Int32) d_X12_weight_20 rfl ?_
    refine sim_icmp_ge d_X12_weight_21 ?_ ?_
    ·
      refine sim_iload_n 2 d_X12_weight_31 rfl rfl ?_
      refine sim_bipush (20 : Int32) d_X12_weight_32 rfl ?_
      refine sim_icmp_le d_X12_weight_34 ?_ ?_
      ·
        refine sim_aload_n 0 d_X12_weight_44 rfl rfl ?_
        refine sim_geta d_X12_weight_45 fl_X12_22 ob_R_0 rfl ?_
        refine sim_iload_n 1 d_X12_weight_48 rfl rfl ?_
        refine sim_iald d_X12_weight_49 ar_R_5 ?_
        refine sim_nmi (fun v1 => ?_)
        refine sim_istore_n (L' := [(0, .ref 0), (1, .int (a1)), (2, .int (a2)), (3, .int (v1))]) d_X12_weight_50 rfl (Nat.le_of_ble_eq_true rfl) rfl ?_
        refine sim_aload_n 0 d_X12_weight_51 rfl rfl ?_
        refine sim_geta d_X12_weight_52 fl_X12_22 ob_R_0 rfl ?_
        refine sim_iload_n 1 d_X12_weight_55 rfl rfl ?_
        refine sim_iload_n 2 d_X12_weight_56 rfl rfl ?_
        refine sim_iast d_X12_weight_57 ar_R_5 ?_
        refine sim_nmM (fun M3 => ?_)
        refine sim_iload_n 3 d_X12_weight_58 rfl rfl ?_
        exact sim_iret d_X12_weight_59 rfl
      ·
        refine sim_aload_n 0 d_X12_weight_37 rfl rfl ?_
        refine sim_bipush (-6 : Int32) d_X12_weight_38 rfl ?_
        refine sim_callVi Y_X12_refuse 0 [.int ((-6 : Int32))] [] d_X12_weight_40 lk_X12_187 cv_X12_refuse ob_R_0 rfl (by omega) (Nat.le_of_ble_eq_true rfl) (ct_X12_refuse (-6 : Int32) M2) (fun r2 M4 => ?_)
        exact sim_iret d_X12_weight_43 rfl
    ·
      refine sim_aload_n 0 d_X12_weight_24 rfl rfl ?_
      refine sim_bipush (-4 : Int32) d_X12_weight_25 rfl ?_
      refine sim_callVi Y_X12_refuse 0 [.int ((-4 : Int32))] [] d_X12_weight_27 lk_X12_187 cv_X12_refuse ob_R_0 rfl (by omega) (Nat.le_of_ble_eq_true rfl) (ct_X12_refuse (-4 : Int32) M2) (fun r3 M5 => ?_)
      exact sim_iret d_X12_weight_30 rfl
  ·
    refine sim_aload_n 0 d_X12_weight_13 rfl rfl ?_
    refine sim_iconst (-1 : Int32) d_X12_weight_14 rfl ?_
    refine sim_callVi Y_X12_refuse 0 [.int ((-1 : Int32))] [] d_X12_weight_15 lk_X12_187 cv_X12_refuse ob_R_0 rfl (by omega) (Nat.le_of_ble_eq_true rfl) (ct_X12_refuse (-1 : Int32) M2) (fun r4 M6 => ?_)
    exact sim_iret d_X12_weight_18 rfl
theorem ct_X12_weight (a1 : Int32) (a2 : Int32) (M : mm_M) : Ct sysR Y_X12_weight 2 [.ref 0, .int (a1), .int (a2)] M mm_fI (f_X12_weight a1 a2 M) :=
  ct_of_sim (by decide) rfl (Nat.le_of_ble_eq_true rfl) (s_X12_weight a1 a2 M)
def f_X12_open (a1 : Int32) (a2 : Int32) (M : mm_M) : Option (Int32 × mm_M) :=
  mm_let (sI M 0 0 (0 : Int32)) (fun M1 =>
  mm_bi (f_X12_isShop a1 M1) (fun r1 M2 =>
  if r1 = 0 then
    mm_bi (f_X12_refuse (-1 : Int32) M2) (fun r2 M4 =>
    some (r2, M4))
  else
    mm_ck a1 40 (
    mm_let (mI M2 6 a1.toNatClampNeg) (fun v1 =>
    mm_ck a1 40 (
    mm_let (sI M2 6 a1.toNatClampNeg (a2 &&& 1)) (fun M3 =>
    if v1 = a2 then
      some ((0 : Int32), M3)
    else
      some ((1 : Int32), M3)))))))
theorem s_X12_open (a1 : Int32) (a2 : Int32) (M : mm_M) : Sim sysR Y_X12_open 2 0 [(0, .ref 0), (1, .int (a1)), (2, .int (a2))] [] M mm_fI (f_X12_open a1 a2 M) := by
  unfold f_X12_open
  refine sim_aload_n 0 d_X12_open_0 rfl rfl ?_
  refine sim_iconst (0 : Int32) d_X12_open_1 rfl ?_
  refine sim_puti d_X12_open_2 fl_X12_177 ob_R_0 rfl ?_
  refine sim_nmM (fun M1 => ?_)
  refine sim_aload_n 0 d_X12_open_5 rfl rfl ?_
  refine sim_iload_n 1 d_X12_open_6 rfl rfl ?_
  refine sim_callVi Y_X12_isShop 1 [.int (a1)] [] d_X12_open_7 lk_X12_194 cv_X12_isShop ob_R_0 rfl (by omega) (Nat.le_of_ble_eq_true rfl) (ct_X12_isShop a1 M1) (fun r1 M2 => ?_)
  refine sim_if_ne d_X12_open_10 ?_ ?_
  ·
    refine sim_aload_n 0 d_X12_open_19 rfl rfl ?_
    refine sim_geta d_X12_open_20 fl_X12_25 ob_R_0 rfl ?_
    refine sim_iload_n 1 d_X12_open_23 rfl rfl ?_
    refine sim_zald d_X12_open_24 ar_R_6 ?_
    refine sim_nmi (fun v1 => ?_)
    refine sim_istore_n (L' := [(0, .ref 0), (1, .int (a1)), (2, .int (a2)), (3, .int (v1))]) d_X12_open_25 rfl (Nat.le_of_ble_eq_true rfl) rfl ?_
    refine sim_aload_n 0 d_X12_open_26 rfl rfl ?_
    refine sim_geta d_X12_open_27 fl_X12_25 ob_R_0 rfl ?_
    refine sim_iload_n 1 d_X12_open_30 rfl rfl ?_
    refine sim_iload_n 2 d_X12_open_31 rfl rfl ?_
    refine sim_zast d_X12_open_32 ar_R_6 ?_
    refine sim_nmM (fun M3 => ?_)
    refine sim_iload_n 3 d_X12_open_33 rfl rfl ?_
    refine sim_iload_n 2 d_X12_open_34 rfl rfl ?_
    refine sim_icmp_ne d_X12_open_35 ?_ ?_
    ·
      refine sim_iconst (1 : Int32) d_X12_open_42 rfl ?_
      exact sim_iret d_X12_open_43 rfl
    ·
      refine sim_iconst (0 : Int32) d_X12_open_38 rfl ?_
      refine sim_goto d_X12_open_39 ?_
      exact sim_iret d_X12_open_43 rfl
  ·
    refine sim_aload_n 0 d_X12_open_13 rfl rfl ?_
    refine sim_iconst (-1 : Int32) d_X12_open_14 rfl ?_
    refine sim_callVi Y_X12_refuse 0 [.int ((-1 : Int32))] [] d_X12_open_15 lk_X12_187 cv_X12_refuse ob_R_0 rfl (by omega) (Nat.le_of_ble_eq_true rfl) (ct_X12_refuse (-1 : Int32) M2) (fun r2 M4 => ?_)
    exact sim_iret d_X12_open_18 rfl
theorem ct_X12_open (a1 : Int32) (a2 : Int32) (M : mm_M) : Ct sysR Y_X12_open 2 [.ref 0, .int (a1), .int (a2)] M mm_fI (f_X12_open a1 a2 M) :=
  ct_of_sim (by decide) rfl (Nat.le_of_ble_eq_true rfl) (s_X12_open a1 a2 M)
def f_X12_sell (a1 : Int32) (M : mm_M) : Option (Int32 × mm_M) :=
  mm_let (sI M 0 0 (0 : Int32)) (fun M1 =>
  mm_bi (f_X12_isShop a1 M1) (fun r1 M2 =>
  if r1 = 0 then
    mm_bi (f_X12_refuse (-1 : Int32) M2) (fun r4 M7 =>
    some (r4, M7))
  else
    mm_ck a1 40 (
    mm_ck ((((6 : Int32) * a1) + (mI M2 7 a1.toNatClampNeg)) - (1 : Int32)) 240 (
    if (mI M2 8 ((((6 : Int32) * a1) + (mI M2 7 a1.toNatClampNeg)) - (1 : Int32)).toNatClampNeg) = (mI M2 0 1) then
      mm_bi (f_X12_refuse (-3 : Int32) M2) (fun r3 M6 =>
      some (r3, M6))
    else
      mm_ck a1 40 (
      if (mI M2 7 a1.toNatClampNeg) = (6 : Int32) then
        mm_bi (f_X12_refuse (-6 : Int32) M2) (fun r2 M5 =>
        some (r2, M5))
      else
        mm_ck a1 40 (
        mm_ck (((6 : Int32) * a1) + (mI M2 7 a1.toNatClampNeg)) 240 (
        mm_let (sI M2 8 (((6 : Int32) * a1) + (mI M2 7 a1.toNatClampNeg)).toNatClampNeg (mI M2 0 1)) (fun M3 =>
        mm_ck a1 40 (
        mm_ck a1 40 (
        mm_let (sI M3 7 a1.toNatClampNeg ((mI M3 7 a1.toNatClampNeg) + (1 : Int32))) (fun M4 =>
        mm_ck a1 40 (
        some (mI M4 7 a1.toNatClampNeg, M4)))))))))))))
theorem s_X12_sell (a1 : Int32) (M : mm_M) : Sim sysR Y_X12_sell 2 0 [(0, .ref 0), (1, .int (a1))] [] M mm_fI (f_X12_sell a1 M) := by
  unfold f_X12_sell
  refine sim_aload_n 0 d_X12_sell_0 rfl rfl ?_
  refine sim_iconst (0 : Int32) d_X12_sell_1 rfl ?_
  refine sim_puti d_X12_sell_2 fl_X12_177 ob_R_0 rfl ?_
  refine sim_nmM (fun M1 => ?_)
  refine sim_aload_n 0 d_X12_sell_5 rfl rfl ?_
  refine sim_iload_n 1 d_X12_sell_6 rfl rfl ?_
  refine sim_callVi Y_X12_isShop 1 [.int (a1)] [] d_X12_sell_7 lk_X12_194 cv_X12_isShop ob_R_0 rfl (by omega) (Nat.le_of_ble_eq_true rfl) (ct_X12_isShop a1 M1) (fun r1 M2 => ?_)
  refine sim_if_ne d_X12_sell_10 ?_ ?_
  ·
    refine sim_aload_n 0 d_X12_sell_19 rfl rfl ?_
    refine sim_geta d_X12_sell_20 fl_X12_32 ob_R_0 rfl ?_
    refine sim_bipush (6 : Int32) d_X12_sell_23 rfl ?_
    refine sim_iload_n 1 d_X12_sell_25 rfl rfl ?_
    refine sim_imul d_X12_sell_26 ?_
    refine sim_aload_n 0 d_X12_sell_27 rfl rfl ?_
    refine sim_geta d_X12_sell_28 fl_X12_29 ob_R_0 rfl ?_
    refine sim_iload_n 1 d_X12_sell_31 rfl rfl ?_
    refine sim_iald d_X12_sell_32 ar_R_7 ?_
    refine sim_iadd d_X12_sell_33 ?_
    refine sim_iconst (1 : Int32) d_X12_sell_34 rfl ?_
    refine sim_isub d_X12_sell_35 ?_
    refine sim_iald d_X12_sell_36 ar_R_8 ?_
    refine sim_aload_n 0 d_X12_sell_37 rfl rfl ?_
    refine sim_geti d_X12_sell_38 fl_X12_191 ob_R_0 rfl ?_
    refine sim_icmp_ne d_X12_sell_41 ?_ ?_
    ·
      refine sim_aload_n 0 d_X12_sell_51 rfl rfl ?_
      refine sim_geta d_X12_sell_52 fl_X12_29 ob_R_0 rfl ?_
      refine sim_iload_n 1 d_X12_sell_55 rfl rfl ?_
      refine sim_iald d_X12_sell_56 ar_R_7 ?_
      refine sim_bipush (6 : Int32) d_X12_sell_57 rfl ?_
      refine sim_icmp_ne d_X12_sell_59 ?_ ?_
      ·
        refine sim_aload_n 0 d_X12_sell_69 rfl rfl ?_
        refine sim_geta d_X12_sell_70 fl_X12_32 ob_R_0 rfl ?_
        refine sim_bipush (6 : Int32) d_X12_sell_73 rfl ?_
        refine sim_iload_n 1 d_X12_sell_75 rfl rfl ?_
        refine sim_imul d_X12_sell_76 ?_
        refine sim_aload_n 0 d_X12_sell_77 rfl rfl ?_
        refine sim_geta d_X12_sell_78 fl_X12_29 ob_R_0 rfl ?_
        refine sim_iload_n 1 d_X12_sell_81 rfl rfl ?_
        refine sim_iald d_X12_sell_82 ar_R_7 ?_
        refine sim_iadd d_X12_sell_83 ?_
        refine sim_aload_n 0 d_X12_sell_84 rfl rfl ?_
        refine sim_geti d_X12_sell_85 fl_X12_191 ob_R_0 rfl ?_
        refine sim_iast d_X12_sell_88 ar_R_8 ?_
        refine sim_nmM (fun M3 => ?_)
        refine sim_aload_n 0 d_X12_sell_89 rfl rfl ?_
        refine sim_geta d_X12_sell_90 fl_X12_29 ob_R_0 rfl ?_
        refine sim_iload_n 1 d_X12_sell_93 rfl rfl ?_
        refine sim_dup2_11 d_X12_sell_94 rfl rfl ?_
        refine sim_iald d_X12_sell_95 ar_R_7 ?_
        refine sim_iconst (1 : Int32) d_X12_sell_96 rfl ?_
        refine sim_iadd d_X12_sell_97 ?_
        refine sim_iast d_X12_sell_98 ar_R_7 ?_
        refine sim_nmM (fun M4 => ?_)
        refine sim_aload_n 0 d_X12_sell_99 rfl rfl ?_
        refine sim_geta d_X12_sell_100 fl_X12_29 ob_R_0 rfl ?_
        refine sim_iload_n 1 d_X12_sell_103 rfl rfl ?_
        refine sim_iald d_X12_sell_104 ar_R_7 ?_
        exact sim_iret d_X12_sell_105 rfl
      ·
        refine sim_aload_n 0 d_X12_sell_62 rfl rfl ?_
        refine sim_bipush (-6 : Int32) d_X12_sell_63 rfl ?_
        refine sim_callVi Y_X12_refuse 0 [.int ((-6 : Int32))] [] d_X12_sell_65 lk_X12_187 cv_X12_refuse ob_R_0 rfl (by omega) (Nat.le_of_ble_eq_true rfl) (ct_X12_refuse (-6 : Int32) M2) (fun r2 M5 => ?_)
        exact sim_iret d_X12_sell_68 rfl
    ·
      refine sim_aload_n 0 d_X12_sell_44 rfl rfl ?_
      refine sim_bipush (-3 : Int32) d_X12_sell_45 rfl ?_
      refine sim_callVi Y_X12_refuse 0 [.int ((-3 : Int32))] [] d_X12_sell_47 lk_X12_187 cv_X12_refuse ob_R_0 rfl (by omega) (Nat.le_of_ble_eq_true rfl) (ct_X12_refuse (-3 : Int32) M2) (fun r3 M6 => ?_)
      exact sim_iret d_X12_sell_50 rfl
  ·
    refine sim_aload_n 0 d_X12_sell_13 rfl rfl ?_
    refine sim_iconst (-1 : Int32) d_X12_sell_14 rfl ?_
    refine sim_callVi Y_X12_refuse 0 [.int ((-1 : Int32))] [] d_X12_sell_15 lk_X12_187 cv_X12_refuse ob_R_0 rfl (by omega) (Nat.le_of_ble_eq_true rfl) (ct_X12_refuse (-1 : Int32) M2) (fun r4 M7 => ?_)
    exact sim_iret d_X12_sell_18 rfl
theorem ct_X12_sell (a1 : Int32) (M : mm_M) : Ct sysR Y_X12_sell 2 [.ref 0, .int (a1)] M mm_fI (f_X12_sell a1 M) :=
  ct_of_sim (by decide) rfl (Nat.le_of_ble_eq_true rfl) (s_X12_sell a1 M)
def f_X12_ownerOn_43 (k5 : Int32 → Int32 → Int32 → Int32 → mm_M → Option (Int32 × mm_M)) (x1 : Int32) (x2 : Int32) (x4 : Int32) (t0 : Int32) (M : mm_M) : Option (Int32 × mm_M) :=
  k5 x1 x2 t0 (x4 + (1 : Int32)) M
theorem s_X12_ownerOn_43 (k5 : Int32 → Int32 → Int32 → Int32 → mm_M → Option (Int32 × mm_M)) (hk5 : ∀ (x1 : Int32) (x2 : Int32) (x3 : Int32) (x4 : Int32) (M : mm_M), Sim sysR Y_X12_ownerOn 0 5 [(0, .ref 0), (1, .int (x1)), (2, .int (x2)), (3, .int (x3)), (4, .int (x4))] [] M mm_fI (k5 x1 x2 x3 x4 M)) (x1 : Int32) (x2 : Int32) (x4 : Int32) (t0 : Int32) (M : mm_M) : Sim sysR Y_X12_ownerOn 0 43 [(0, .ref 0), (1, .int (x1)), (2, .int (x2)), (4, .int (x4))] [.int (t0)] M mm_fI (f_X12_ownerOn_43 k5 x1 x2 x4 t0 M) := by
  unfold f_X12_ownerOn_43
  refine sim_istore_n (L' := [(0, .ref 0), (1, .int (x1)), (2, .int (x2)), (4, .int (x4)), (3, .int (t0))]) d_X12_ownerOn_43 rfl (Nat.le_of_ble_eq_true rfl) rfl ?_
  refine sim_iinc (v := x4 + (1 : Int32)) (L' := [(0, .ref 0), (1, .int (x1)), (2, .int (x2)), (3, .int (t0)), (4, .int (x4 + (1 : Int32)))]) 3 d_X12_ownerOn_44 (Nat.le_of_ble_eq_true rfl) rfl rfl rfl ?_
  refine sim_goto d_X12_ownerOn_47 ?_
  exact sim_sub [0, 1, 2, 3, 4] rfl (hk5 x1 x2 t0 (x4 + (1 : Int32)) M)
def f_X12_ownerOn_5 : Nat → Int32 → Int32 → Int32 → Int32 → mm_M → Option (Int32 × mm_M)
  | 0, _, _, _, _, _ => none
  | n + 1, x1, x2, x3, x4, M =>
  mm_ck x1 40 (
  if (mI M 7 x1.toNatClampNeg) ≤ x4 then
    some (x3, M)
  else
    mm_ck (((6 : Int32) * x1) + x4) 240 (
    if x2 < (mI M 8 (((6 : Int32) * x1) + x4).toNatClampNeg) then
      f_X12_ownerOn_43 (f_X12_ownerOn_5 n) x1 x2 x4 x3 M
    else
      f_X12_ownerOn_43 (f_X12_ownerOn_5 n) x1 x2 x4 (((6 : Int32) * x1) + x4) M))
theorem s_X12_ownerOn_5 (n : Nat) : ∀ (x1 : Int32) (x2 : Int32) (x3 : Int32) (x4 : Int32) (M : mm_M), Sim sysR Y_X12_ownerOn 0 5 [(0, .ref 0), (1, .int (x1)), (2, .int (x2)), (3, .int (x3)), (4, .int (x4))] [] M mm_fI (f_X12_ownerOn_5 n x1 x2 x3 x4 M) := by
  induction n with
  | zero => intros; exact sim_none
  | succ n ih =>
    intro x1 x2 x3 x4 M
    rw [f_X12_ownerOn_5]
    refine sim_iload 4 d_X12_ownerOn_5 rfl ?_
    refine sim_aload_n 0 d_X12_ownerOn_7 rfl rfl ?_
    refine sim_geta d_X12_ownerOn_8 fl_X12_29 ob_R_0 rfl ?_
    refine sim_iload_n 1 d_X12_ownerOn_11 rfl rfl ?_
    refine sim_iald d_X12_ownerOn_12 ar_R_7 ?_
    refine sim_icmp_ge d_X12_ownerOn_13 ?_ ?_
    ·
      refine sim_iload_n 3 d_X12_ownerOn_50 rfl rfl ?_
      exact sim_iret d_X12_ownerOn_51 rfl
    ·
      refine sim_aload_n 0 d_X12_ownerOn_16 rfl rfl ?_
      refine sim_geta d_X12_ownerOn_17 fl_X12_32 ob_R_0 rfl ?_
      refine sim_bipush (6 : Int32) d_X12_ownerOn_20 rfl ?_
      refine sim_iload_n 1 d_X12_ownerOn_22 rfl rfl ?_
      refine sim_imul d_X12_ownerOn_23 ?_
      refine sim_iload 4 d_X12_ownerOn_24 rfl ?_
      refine sim_iadd d_X12_ownerOn_26 ?_
      refine sim_iald d_X12_ownerOn_27 ar_R_8 ?_
      refine sim_iload_n 2 d_X12_ownerOn_28 rfl rfl ?_
      refine sim_icmp_gt d_X12_ownerOn_29 ?_ ?_
      ·
        refine sim_iload_n 3 d_X12_ownerOn_42 rfl rfl ?_
        exact sim_sub [0, 1, 2, 4] rfl (s_X12_ownerOn_43 (f_X12_ownerOn_5 n) ih x1 x2 x4 x3 M)
      ·
        refine sim_bipush (6 : Int32) d_X12_ownerOn_32 rfl ?_
        refine sim_iload_n 1 d_X12_ownerOn_34 rfl rfl ?_
        refine sim_imul d_X12_ownerOn_35 ?_
        refine sim_iload 4 d_X12_ownerOn_36 rfl ?_
        refine sim_iadd d_X12_ownerOn_38 ?_
        refine sim_goto d_X12_ownerOn_39 ?_
        exact sim_sub [0, 1, 2, 4] rfl (s_X12_ownerOn_43 (f_X12_ownerOn_5 n) ih x1 x2 x4 (((6 : Int32) * x1) + x4) M)
def f_X12_ownerOn (a1 : Int32) (a2 : Int32) (M : mm_M) : Option (Int32 × mm_M) :=
  f_X12_ownerOn_5 mm_fu a1 a2 (-1 : Int32) (0 : Int32) M
theorem s_X12_ownerOn (a1 : Int32) (a2 : Int32) (M : mm_M) : Sim sysR Y_X12_ownerOn 0 0 [(0, .ref 0), (1, .int (a1)), (2, .int (a2))] [] M mm_fI (f_X12_ownerOn a1 a2 M) := by
  unfold f_X12_ownerOn
  refine sim_iconst (-1 : Int32) d_X12_ownerOn_0 rfl ?_
  refine sim_istore_n (L' := [(0, .ref 0), (1, .int (a1)), (2, .int (a2)), (3, .int ((-1 : Int32)))]) d_X12_ownerOn_1 rfl (Nat.le_of_ble_eq_true rfl) rfl ?_
  refine sim_iconst (0 : Int32) d_X12_ownerOn_2 rfl ?_
  refine sim_istore (L' := [(0, .ref 0), (1, .int (a1)), (2, .int (a2)), (3, .int ((-1 : Int32))), (4, .int ((0 : Int32)))]) d_X12_ownerOn_3 (Nat.le_of_ble_eq_true rfl) rfl ?_
  exact sim_sub [0, 1, 2, 3, 4] rfl (s_X12_ownerOn_5 mm_fu a1 a2 (-1 : Int32) (0 : Int32) M)
theorem ct_X12_ownerOn (a1 : Int32) (a2 : Int32) (M : mm_M) : Ct sysR Y_X12_ownerOn 0 [.ref 0, .int (a1), .int (a2)] M mm_fI (f_X12_ownerOn a1 a2 M) :=
  ct_of_sim (by decide) rfl (Nat.le_of_ble_eq_true rfl) (s_X12_ownerOn a1 a2 M)
def f_X12_child_80 (k106 : Int32 → mm_M → Option (Int32 × mm_M)) : Nat → Int32 → Int32 → Int32 → mm_M → Option (Int32 × mm_M)
  | 0, _, _, _, _ => none
  | n + 1, x1, x3, x4, M =>
  if (40 : Int32) ≤ x4 then
    k106 x3 M
  else
    mm_ck (((40 : Int32) * x1) + x4) 320 (
    mm_let (sI M 13 (((40 : Int32) * x1) + x4).toNatClampNeg ((0 : Int32) &&& 1)) (fun M1 =>
    f_X12_child_80 k106 n x1 x3 (x4 + (1 : Int32)) M1))
theorem s_X12_child_80 (k106 : Int32 → mm_M → Option (Int32 × mm_M)) (hk106 : ∀ (x3 : Int32) (M : mm_M), Sim sysR Y_X12_child 1 106 [(3, .int (x3))] [] M mm_fI (k106 x3 M)) (n : Nat) : ∀ (x1 : Int32) (x3 : Int32) (x4 : Int32) (M : mm_M), Sim sysR Y_X12_child 1 80 [(0, .ref 0), (1, .int (x1)), (3, .int (x3)), (4, .int (x4))] [] M mm_fI (f_X12_child_80 k106 n x1 x3 x4 M) := by
  induction n with
  | zero => intros; exact sim_none
  | succ n ih =>
    intro x1 x3 x4 M
    rw [f_X12_child_80]
    refine sim_iload 3 d_X12_child_80 rfl ?_
    refine sim_bipush (40 : Int32) d_X12_child_82 rfl ?_
    refine sim_icmp_ge d_X12_child_84 ?_ ?_
    ·
      exact sim_sub [2] rfl (hk106 x3 M)
    ·
      refine sim_aload_n 0 d_X12_child_87 rfl rfl ?_
      refine sim_geta d_X12_child_88 fl_X12_47 ob_R_0 rfl ?_
      refine sim_bipush (40 : Int32) d_X12_child_91 rfl ?_
      refine sim_iload_n 1 d_X12_child_93 rfl rfl ?_
      refine sim_imul d_X12_child_94 ?_
      refine sim_iload 3 d_X12_child_95 rfl ?_
      refine sim_iadd d_X12_child_97 ?_
      refine sim_iconst (0 : Int32) d_X12_child_98 rfl ?_
      refine sim_zast d_X12_child_99 ar_R_13 ?_
      refine sim_nmM (fun M1 => ?_)
      refine sim_iinc (v := x4 + (1 : Int32)) (L' := [(0, .ref 0), (1, .int (x1)), (3, .int (x3)), (4, .int (x4 + (1 : Int32)))]) 3 d_X12_child_100 (Nat.le_of_ble_eq_true rfl) rfl rfl rfl ?_
      refine sim_goto d_X12_child_103 ?_
      exact sim_sub [0, 1, 2, 3] rfl (ih x1 x3 (x4 + (1 : Int32)) M1)
def f_X12_child_106 (x3 : Int32) (M : mm_M) : Option (Int32 × mm_M) :=
  if x3 = 0 then
    some ((1 : Int32), M)
  else
    some ((0 : Int32), M)
theorem s_X12_child_106 (x3 : Int32) (M : mm_M) : Sim sysR Y_X12_child 1 106 [(3, .int (x3))] [] M mm_fI (f_X12_child_106 x3 M) := by
  unfold f_X12_child_106
  refine sim_iload_n 0 d_X12_child_106 rfl rfl ?_
  refine sim_if_eq d_X12_child_107 ?_ ?_
  ·
    refine sim_iconst (1 : Int32) d_X12_child_114 rfl ?_
    exact sim_iret d_X12_child_115 rfl
  ·
    refine sim_iconst (0 : Int32) d_X12_child_110 rfl ?_
    refine sim_goto d_X12_child_111 ?_
    exact sim_iret d_X12_child_115 rfl
def f_X12_child (a1 : Int32) (a2 : Int32) (M : mm_M) : Option (Int32 × mm_M) :=
  mm_let (sI M 0 0 (0 : Int32)) (fun M1 =>
  mm_bi (f_X12_in a1 (0 : Int32) (7 : Int32) M1) (fun r1 M2 =>
  if r1 = 0 then
    mm_bi (f_X12_refuse (-1 : Int32) M2) (fun r4 M8 =>
    some (r4, M8))
  else
    if (-7000 : Int32) ≤ a2 then
      if a2 ≤ (-3000 : Int32) then
        mm_ck a1 8 (
        mm_let (mI M2 9 a1.toNatClampNeg) (fun v1 =>
        mm_ck a1 8 (
        mm_let (sI M2 9 a1.toNatClampNeg ((1 : Int32) &&& 1)) (fun M3 =>
        mm_ck a1 8 (
        mm_let (sI M3 10 a1.toNatClampNeg a2) (fun M4 =>
        mm_ck a1 8 (
        mm_let (sI M4 11 a1.toNatClampNeg (0 : Int32)) (fun M5 =>
        f_X12_child_80 f_X12_child_106 mm_fu a1 v1 (0 : Int32) M5))))))))
      else
        mm_bi (f_X12_refuse (-6 : Int32) M2) (fun r2 M6 =>
        some (r2, M6))
    else
      mm_bi (f_X12_refuse (-4 : Int32) M2) (fun r3 M7 =>
      some (r3, M7))))
theorem s_X12_child (a1 : Int32) (a2 : Int32) (M : mm_M) : Sim sysR Y_X12_child 1 0 [(0, .ref 0), (1, .int (a1)), (2, .int (a2))] [] M mm_fI (f_X12_child a1 a2 M) := by
  unfold f_X12_child
  refine sim_aload_n 0 d_X12_child_0 rfl rfl ?_
  refine sim_iconst (0 : Int32) d_X12_child_1 rfl ?_
  refine sim_puti d_X12_child_2 fl_X12_177 ob_R_0 rfl ?_
  refine sim_nmM (fun M1 => ?_)
  refine sim_iload_n 1 d_X12_child_5 rfl rfl ?_
  refine sim_iconst (0 : Int32) d_X12_child_6 rfl ?_
  refine sim_bipush (7 : Int32) d_X12_child_7 rfl ?_
  refine sim_callSi Y_X12_in 0 [.int (a1), .int ((0 : Int32)), .int ((7 : Int32))] [] d_X12_child_9 lk_X12_183 cs_X12_in rfl (by omega) (Nat.le_of_ble_eq_true rfl) (ct_X12_in a1 (0 : Int32) (7 : Int32) M1) (fun r1 M2 => ?_)
  refine sim_if_ne d_X12_child_12 ?_ ?_
  ·
    refine sim_iload_n 2 d_X12_child_21 rfl rfl ?_
    refine sim_sipush (-7000 : Int32) d_X12_child_22 rfl ?_
    refine sim_icmp_ge d_X12_child_25 ?_ ?_
    ·
      refine sim_iload_n 2 d_X12_child_35 rfl rfl ?_
      refine sim_sipush (-3000 : Int32) d_X12_child_36 rfl ?_
      refine sim_icmp_le d_X12_child_39 ?_ ?_
      ·
        refine sim_aload_n 0 d_X12_child_49 rfl rfl ?_
        refine sim_geta d_X12_child_50 fl_X12_35 ob_R_0 rfl ?_
        refine sim_iload_n 1 d_X12_child_53 rfl rfl ?_
        refine sim_zald d_X12_child_54 ar_R_9 ?_
        refine sim_nmi (fun v1 => ?_)
        refine sim_istore_n (L' := [(0, .ref 0), (1, .int (a1)), (2, .int (a2)), (3, .int (v1))]) d_X12_child_55 rfl (Nat.le_of_ble_eq_true rfl) rfl ?_
        refine sim_aload_n 0 d_X12_child_56 rfl rfl ?_
        refine sim_geta d_X12_child_57 fl_X12_35 ob_R_0 rfl ?_
        refine sim_iload_n 1 d_X12_child_60 rfl rfl ?_
        refine sim_iconst (1 : Int32) d_X12_child_61 rfl ?_
        refine sim_zast d_X12_child_62 ar_R_9 ?_
        refine sim_nmM (fun M3 => ?_)
        refine sim_aload_n 0 d_X12_child_63 rfl rfl ?_
        refine sim_geta d_X12_child_64 fl_X12_38 ob_R_0 rfl ?_
        refine sim_iload_n 1 d_X12_child_67 rfl rfl ?_
        refine sim_iload_n 2 d_X12_child_68 rfl rfl ?_
        refine sim_iast d_X12_child_69 ar_R_10 ?_
        refine sim_nmM (fun M4 => ?_)
        refine sim_aload_n 0 d_X12_child_70 rfl rfl ?_
        refine sim_geta d_X12_child_71 fl_X12_41 ob_R_0 rfl ?_
        refine sim_iload_n 1 d_X12_child_74 rfl rfl ?_
        refine sim_iconst (0 : Int32) d_X12_child_75 rfl ?_
        refine sim_iast d_X12_child_76 ar_R_11 ?_
        refine sim_nmM (fun M5 => ?_)
        refine sim_iconst (0 : Int32) d_X12_child_77 rfl ?_
        refine sim_istore (L' := [(0, .ref 0), (1, .int (a1)), (2, .int (a2)), (3, .int (v1)), (4, .int ((0 : Int32)))]) d_X12_child_78 (Nat.le_of_ble_eq_true rfl) rfl ?_
        exact sim_sub [0, 1, 3, 4] rfl (s_X12_child_80 f_X12_child_106 s_X12_child_106 mm_fu a1 v1 (0 : Int32) M5)
      ·
        refine sim_aload_n 0 d_X12_child_42 rfl rfl ?_
        refine sim_bipush (-6 : Int32) d_X12_child_43 rfl ?_
        refine sim_callVi Y_X12_refuse 0 [.int ((-6 : Int32))] [] d_X12_child_45 lk_X12_187 cv_X12_refuse ob_R_0 rfl (by omega) (Nat.le_of_ble_eq_true rfl) (ct_X12_refuse (-6 : Int32) M2) (fun r2 M6 => ?_)
        exact sim_iret d_X12_child_48 rfl
    ·
      refine sim_aload_n 0 d_X12_child_28 rfl rfl ?_
      refine sim_bipush (-4 : Int32) d_X12_child_29 rfl ?_
      refine sim_callVi Y_X12_refuse 0 [.int ((-4 : Int32))] [] d_X12_child_31 lk_X12_187 cv_X12_refuse ob_R_0 rfl (by omega) (Nat.le_of_ble_eq_true rfl) (ct_X12_refuse (-4 : Int32) M2) (fun r3 M7 => ?_)
      exact sim_iret d_X12_child_34 rfl
  ·
    refine sim_aload_n 0 d_X12_child_15 rfl rfl ?_
    refine sim_iconst (-1 : Int32) d_X12_child_16 rfl ?_
    refine sim_callVi Y_X12_refuse 0 [.int ((-1 : Int32))] [] d_X12_child_17 lk_X12_187 cv_X12_refuse ob_R_0 rfl (by omega) (Nat.le_of_ble_eq_true rfl) (ct_X12_refuse (-1 : Int32) M2) (fun r4 M8 => ?_)
    exact sim_iret d_X12_child_20 rfl
theorem ct_X12_child (a1 : Int32) (a2 : Int32) (M : mm_M) : Ct sysR Y_X12_child 1 [.ref 0, .int (a1), .int (a2)] M mm_fI (f_X12_child a1 a2 M) :=
  ct_of_sim (by decide) rfl (Nat.le_of_ble_eq_true rfl) (s_X12_child a1 a2 M)
def f_X12_lacks (a1 : Int32) (M : mm_M) : Option (Int32 × mm_M) :=
  mm_bi (f_X12_in a1 (0 : Int32) (7 : Int32) M) (fun r1 M1 =>
  if r1 = 0 then
    some ((-1 : Int32), M1)
  else
    mm_ck a1 8 (
    if (mI M1 9 a1.toNatClampNeg) = 0 then
      some ((-5 : Int32), M1)
    else
      some ((0 : Int32), M1)))
theorem s_X12_lacks (a1 : Int32) (M : mm_M) : Sim sysR Y_X12_lacks 1 0 [(0, .ref 0), (1, .int (a1))] [] M mm_fI (f_X12_lacks a1 M) := by
  unfold f_X12_lacks
  refine sim_iload_n 1 d_X12_lacks_0 rfl rfl ?_
  refine sim_iconst (0 : Int32) d_X12_lacks_1 rfl ?_
  refine sim_bipush (7 : Int32) d_X12_lacks_2 rfl ?_
  refine sim_callSi Y_X12_in 0 [.int (a1), .int ((0 : Int32)), .int ((7 : Int32))] [] d_X12_lacks_4 lk_X12_183 cs_X12_in rfl (by omega) (Nat.le_of_ble_eq_true rfl) (ct_X12_in a1 (0 : Int32) (7 : Int32) M) (fun r1 M1 => ?_)
  refine sim_if_ne d_X12_lacks_7 ?_ ?_
  ·
    refine sim_aload_n 0 d_X12_lacks_14 rfl rfl ?_
    refine sim_geta d_X12_lacks_15 fl_X12_35 ob_R_0 rfl ?_
    refine sim_iload_n 1 d_X12_lacks_18 rfl rfl ?_
    refine sim_zald d_X12_lacks_19 ar_R_9 ?_
    refine sim_if_eq d_X12_lacks_20 ?_ ?_
    ·
      refine sim_bipush (-5 : Int32) d_X12_lacks_27 rfl ?_
      exact sim_iret d_X12_lacks_29 rfl
    ·
      refine sim_iconst (0 : Int32) d_X12_lacks_23 rfl ?_
      refine sim_goto d_X12_lacks_24 ?_
      exact sim_iret d_X12_lacks_29 rfl
  ·
    refine sim_iconst (-1 : Int32) d_X12_lacks_10 rfl ?_
    refine sim_goto d_X12_lacks_11 ?_
    exact sim_iret d_X12_lacks_29 rfl
theorem ct_X12_lacks (a1 : Int32) (M : mm_M) : Ct sysR Y_X12_lacks 1 [.ref 0, .int (a1)] M mm_fI (f_X12_lacks a1 M) :=
  ct_of_sim (by decide) rfl (Nat.le_of_ble_eq_true rfl) (s_X12_lacks a1 M)
def f_X12_guess_66 (k121 : Int32 → Int32 → Int32 → mm_M → Option (Int32 × mm_M)) : Nat → Int32 → Int32 → Int32 → mm_M → Option (Int32 × mm_M)
  | 0, _, _, _, _ => none
  | n + 1, x1, x2, x4, M =>
  if x4 ≤ 0 then
    k121 x1 x2 x4 M
  else
    mm_ck ((((12 : Int32) * x1) + x4) - (1 : Int32)) 96 (
    if (mI M 12 ((((12 : Int32) * x1) + x4) - (1 : Int32)).toNatClampNeg) ≤ x2 then
      k121 x1 x2 x4 M
    else
      mm_ck ((((12 : Int32) * x1) + x4) - (1 : Int32)) 96 (
      mm_ck (((12 : Int32) * x1) + x4) 96 (
      mm_let (sI M 12 (((12 : Int32) * x1) + x4).toNatClampNeg (mI M 12 ((((12 : Int32) * x1) + x4) - (1 : Int32)).toNatClampNeg)) (fun M1 =>
      f_X12_guess_66 k121 n x1 x2 (x4 + (-1 : Int32)) M1))))
theorem s_X12_guess_66 (k121 : Int32 → Int32 → Int32 → mm_M → Option (Int32 × mm_M)) (hk121 : ∀ (x1 : Int32) (x2 : Int32) (x4 : Int32) (M : mm_M), Sim sysR Y_X12_guess 2 121 [(0, .ref 0), (1, .int (x1)), (2, .int (x2)), (4, .int (x4))] [] M mm_fI (k121 x1 x2 x4 M)) (n : Nat) : ∀ (x1 : Int32) (x2 : Int32) (x4 : Int32) (M : mm_M), Sim sysR Y_X12_guess 2 66 [(0, .ref 0), (1, .int (x1)), (2, .int (x2)), (4, .int (x4))] [] M mm_fI (f_X12_guess_66 k121 n x1 x2 x4 M) := by
  induction n with
  | zero => intros; exact sim_none
  | succ n ih =>
    intro x1 x2 x4 M
    rw [f_X12_guess_66]
    refine sim_iload 3 d_X12_guess_66 rfl ?_
    refine sim_if_le d_X12_guess_68 ?_ ?_
    ·
      exact sim_sub [0, 1, 2, 3] rfl (hk121 x1 x2 x4 M)
    ·
      refine sim_aload_n 0 d_X12_guess_71 rfl rfl ?_
      refine sim_geta d_X12_guess_72 fl_X12_44 ob_R_0 rfl ?_
      refine sim_bipush (12 : Int32) d_X12_guess_75 rfl ?_
      refine sim_iload_n 1 d_X12_guess_77 rfl rfl ?_
      refine sim_imul d_X12_guess_78 ?_
      refine sim_iload 3 d_X12_guess_79 rfl ?_
      refine sim_iadd d_X12_guess_81 ?_
      refine sim_iconst (1 : Int32) d_X12_guess_82 rfl ?_
      refine sim_isub d_X12_guess_83 ?_
      refine sim_iald d_X12_guess_84 ar_R_12 ?_
      refine sim_iload_n 2 d_X12_guess_85 rfl rfl ?_
      refine sim_icmp_le d_X12_guess_86 ?_ ?_
      ·
        exact sim_sub [0, 1, 2, 3] rfl (hk121 x1 x2 x4 M)
      ·
        refine sim_aload_n 0 d_X12_guess_89 rfl rfl ?_
        refine sim_geta d_X12_guess_90 fl_X12_44 ob_R_0 rfl ?_
        refine sim_bipush (12 : Int32) d_X12_guess_93 rfl ?_
        refine sim_iload_n 1 d_X12_guess_95 rfl rfl ?_
        refine sim_imul d_X12_guess_96 ?_
        refine sim_iload 3 d_X12_guess_97 rfl ?_
        refine sim_iadd d_X12_guess_99 ?_
        refine sim_aload_n 0 d_X12_guess_100 rfl rfl ?_
        refine sim_geta d_X12_guess_101 fl_X12_44 ob_R_0 rfl ?_
        refine sim_bipush (12 : Int32) d_X12_guess_104 rfl ?_
        refine sim_iload_n 1 d_X12_guess_106 rfl rfl ?_
        refine sim_imul d_X12_guess_107 ?_
        refine sim_iload 3 d_X12_guess_108 rfl ?_
        refine sim_iadd d_X12_guess_110 ?_
        refine sim_iconst (1 : Int32) d_X12_guess_111 rfl ?_
        refine sim_isub d_X12_guess_112 ?_
        refine sim_iald d_X12_guess_113 ar_R_12 ?_
        refine sim_iast d_X12_guess_114 ar_R_12 ?_
        refine sim_nmM (fun M1 => ?_)
        refine sim_iinc (v := x4 + (-1 : Int32)) (L' := [(0, .ref 0), (1, .int (x1)), (2, .int (x2)), (4, .int (x4 + (-1 : Int32)))]) 3 d_X12_guess_115 (Nat.le_of_ble_eq_true rfl) rfl rfl rfl ?_
        refine sim_goto d_X12_guess_118 ?_
        exact sim_sub [0, 1, 2, 3] rfl (ih x1 x2 (x4 + (-1 : Int32)) M1)
def f_X12_guess_121 (x1 : Int32) (x2 : Int32) (x4 : Int32) (M : mm_M) : Option (Int32 × mm_M) :=
  mm_ck (((12 : Int32) * x1) + x4) 96 (
  mm_let (sI M 12 (((12 : Int32) * x1) + x4).toNatClampNeg x2) (fun M1 =>
  mm_ck x1 8 (
  mm_ck x1 8 (
  mm_let (sI M1 11 x1.toNatClampNeg ((mI M1 11 x1.toNatClampNeg) + (1 : Int32))) (fun M2 =>
  mm_ck x1 8 (
  some (mI M2 11 x1.toNatClampNeg, M2)))))))
theorem s_X12_guess_121 (x1 : Int32) (x2 : Int32) (x4 : Int32) (M : mm_M) : Sim sysR Y_X12_guess 2 121 [(0, .ref 0), (1, .int (x1)), (2, .int (x2)), (4, .int (x4))] [] M mm_fI (f_X12_guess_121 x1 x2 x4 M) := by
  unfold f_X12_guess_121
  refine sim_aload_n 0 d_X12_guess_121 rfl rfl ?_
  refine sim_geta d_X12_guess_122 fl_X12_44 ob_R_0 rfl ?_
  refine sim_bipush (12 : Int32) d_X12_guess_125 rfl ?_
  refine sim_iload_n 1 d_X12_guess_127 rfl rfl ?_
  refine sim_imul d_X12_guess_128 ?_
  refine sim_iload 3 d_X12_guess_129 rfl ?_
  refine sim_iadd d_X12_guess_131 ?_
  refine sim_iload_n 2 d_X12_guess_132 rfl rfl ?_
  refine sim_iast d_X12_guess_133 ar_R_12 ?_
  refine sim_nmM (fun M1 => ?_)
  refine sim_aload_n 0 d_X12_guess_134 rfl rfl ?_
  refine sim_geta d_X12_guess_135 fl_X12_41 ob_R_0 rfl ?_
  refine sim_iload_n 1 d_X12_guess_138 rfl rfl ?_
  refine sim_dup2_11 d_X12_guess_139 rfl rfl ?_
  refine sim_iald d_X12_guess_140 ar_R_11 ?_
  refine sim_iconst (1 : Int32) d_X12_guess_141 rfl ?_
  refine sim_iadd d_X12_guess_142 ?_
  refine sim_iast d_X12_guess_143 ar_R_11 ?_
  refine sim_nmM (fun M2 => ?_)
  refine sim_aload_n 0 d_X12_guess_144 rfl rfl ?_
  refine sim_geta d_X12_guess_145 fl_X12_41 ob_R_0 rfl ?_
  refine sim_iload_n 1 d_X12_guess_148 rfl rfl ?_
  refine sim_iald d_X12_guess_149 ar_R_11 ?_
  exact sim_iret d_X12_guess_150 rfl
def f_X12_guess_51 (M : mm_M) : Option (Int32 × mm_M) :=
  mm_bi (f_X12_refuse (-6 : Int32) M) (fun r1 M1 =>
  some (r1, M1))
theorem s_X12_guess_51 (M : mm_M) : Sim sysR Y_X12_guess 2 51 [(0, .ref 0)] [] M mm_fI (f_X12_guess_51 M) := by
  unfold f_X12_guess_51
  refine sim_aload_n 0 d_X12_guess_51 rfl rfl ?_
  refine sim_bipush (-6 : Int32) d_X12_guess_52 rfl ?_
  refine sim_callVi Y_X12_refuse 0 [.int ((-6 : Int32))] [] d_X12_guess_54 lk_X12_187 cv_X12_refuse ob_R_0 rfl (by omega) (Nat.le_of_ble_eq_true rfl) (ct_X12_refuse (-6 : Int32) M) (fun r1 M1 => ?_)
  exact sim_iret d_X12_guess_57 rfl
def f_X12_guess (a1 : Int32) (a2 : Int32) (M : mm_M) : Option (Int32 × mm_M) :=
  mm_let (sI M 0 0 (0 : Int32)) (fun M1 =>
  mm_bi (f_X12_lacks a1 M1) (fun r1 M2 =>
  if 0 ≤ r1 then
    if (8 : Int32) ≤ a2 then
      if (25 : Int32) < a2 then
        f_X12_guess_51 M2
      else
        mm_ck a1 8 (
        if (mI M2 11 a1.toNatClampNeg) = (12 : Int32) then
          f_X12_guess_51 M2
        else
          mm_ck a1 8 (
          mm_let (mI M2 11 a1.toNatClampNeg) (fun v1 =>
          f_X12_guess_66 f_X12_guess_121 mm_fu a1 a2 v1 M2)))
    else
      mm_bi (f_X12_refuse (-4 : Int32) M2) (fun r2 M3 =>
      some (r2, M3))
  else
    mm_bi (f_X12_refuse r1 M2) (fun r3 M4 =>
    some (r3, M4))))
theorem s_X12_guess (a1 : Int32) (a2 : Int32) (M : mm_M) : Sim sysR Y_X12_guess 2 0 [(0, .ref 0), (1, .int (a1)), (2, .int (a2))] [] M mm_fI (f_X12_guess a1 a2 M) := by
  unfold f_X12_guess
  refine sim_aload_n 0 d_X12_guess_0 rfl rfl ?_
  refine sim_iconst (0 : Int32) d_X12_guess_1 rfl ?_
  refine sim_puti d_X12_guess_2 fl_X12_177 ob_R_0 rfl ?_
  refine sim_nmM (fun M1 => ?_)
  refine sim_aload_n 0 d_X12_guess_5 rfl rfl ?_
  refine sim_iload_n 1 d_X12_guess_6 rfl rfl ?_
  refine sim_callVi Y_X12_lacks 1 [.int (a1)] [] d_X12_guess_7 lk_X12_198 cv_X12_lacks ob_R_0 rfl (by omega) (Nat.le_of_ble_eq_true rfl) (ct_X12_lacks a1 M1) (fun r1 M2 => ?_)
  refine sim_istore_n (L' := [(0, .ref 0), (1, .int (a1)), (2, .int (a2)), (3, .int (r1))]) d_X12_guess_10 rfl (Nat.le_of_ble_eq_true rfl) rfl ?_
  refine sim_iload_n 3 d_X12_guess_11 rfl rfl ?_
  refine sim_if_ge d_X12_guess_12 ?_ ?_
  ·
    refine sim_iload_n 2 d_X12_guess_21 rfl rfl ?_
    refine sim_bipush (8 : Int32) d_X12_guess_22 rfl ?_
    refine sim_icmp_ge d_X12_guess_24 ?_ ?_
    ·
      refine sim_iload_n 2 d_X12_guess_34 rfl rfl ?_
      refine sim_bipush (25 : Int32) d_X12_guess_35 rfl ?_
      refine sim_icmp_gt d_X12_guess_37 ?_ ?_
      ·
        exact sim_sub [0] rfl (s_X12_guess_51 M2)
      ·
        refine sim_aload_n 0 d_X12_guess_40 rfl rfl ?_
        refine sim_geta d_X12_guess_41 fl_X12_41 ob_R_0 rfl ?_
        refine sim_iload_n 1 d_X12_guess_44 rfl rfl ?_
        refine sim_iald d_X12_guess_45 ar_R_11 ?_
        refine sim_bipush (12 : Int32) d_X12_guess_46 rfl ?_
        refine sim_icmp_ne d_X12_guess_48 ?_ ?_
        ·
          refine sim_aload_n 0 d_X12_guess_58 rfl rfl ?_
          refine sim_geta d_X12_guess_59 fl_X12_41 ob_R_0 rfl ?_
          refine sim_iload_n 1 d_X12_guess_62 rfl rfl ?_
          refine sim_iald d_X12_guess_63 ar_R_11 ?_
          refine sim_nmi (fun v1 => ?_)
          refine sim_istore (L' := [(0, .ref 0), (1, .int (a1)), (2, .int (a2)), (3, .int (r1)), (4, .int (v1))]) d_X12_guess_64 (Nat.le_of_ble_eq_true rfl) rfl ?_
          exact sim_sub [0, 1, 2, 4] rfl (s_X12_guess_66 f_X12_guess_121 s_X12_guess_121 mm_fu a1 a2 v1 M2)
        ·
          exact sim_sub [0] rfl (s_X12_guess_51 M2)
    ·
      refine sim_aload_n 0 d_X12_guess_27 rfl rfl ?_
      refine sim_bipush (-4 : Int32) d_X12_guess_28 rfl ?_
      refine sim_callVi Y_X12_refuse 0 [.int ((-4 : Int32))] [] d_X12_guess_30 lk_X12_187 cv_X12_refuse ob_R_0 rfl (by omega) (Nat.le_of_ble_eq_true rfl) (ct_X12_refuse (-4 : Int32) M2) (fun r2 M3 => ?_)
      exact sim_iret d_X12_guess_33 rfl
  ·
    refine sim_aload_n 0 d_X12_guess_15 rfl rfl ?_
    refine sim_iload_n 3 d_X12_guess_16 rfl rfl ?_
    refine sim_callVi Y_X12_refuse 0 [.int (r1)] [] d_X12_guess_17 lk_X12_187 cv_X12_refuse ob_R_0 rfl (by omega) (Nat.le_of_ble_eq_true rfl) (ct_X12_refuse r1 M2) (fun r3 M4 => ?_)
    exact sim_iret d_X12_guess_20 rfl
theorem ct_X12_guess (a1 : Int32) (a2 : Int32) (M : mm_M) : Ct sysR Y_X12_guess 2 [.ref 0, .int (a1), .int (a2)] M mm_fI (f_X12_guess a1 a2 M) :=
  ct_of_sim (by decide) rfl (Nat.le_of_ble_eq_true rfl) (s_X12_guess a1 a2 M)
def f_X12_ageOn (a1 : Int32) (a2 : Int32) (M : mm_M) : Option (Int32 × mm_M) :=
  mm_ck a1 8 (
  some ((a2 - (mI M 10 a1.toNatClampNeg)) / (365 : Int32), M))
theorem s_X12_ageOn (a1 : Int32) (a2 : Int32) (M : mm_M) : Sim sysR Y_X12_ageOn 0 0 [(0, .ref 0), (1, .int (a1)), (2, .int (a2))] [] M mm_fI (f_X12_ageOn a1 a2 M) := by
  unfold f_X12_ageOn
  refine sim_iload_n 2 d_X12_ageOn_0 rfl rfl ?_
  refine sim_aload_n 0 d_X12_ageOn_1 rfl rfl ?_
  refine sim_geta d_X12_ageOn_2 fl_X12_38 ob_R_0 rfl ?_
  refine sim_iload_n 1 d_X12_ageOn_5 rfl rfl ?_
  refine sim_iald d_X12_ageOn_6 ar_R_10 ?_
  refine sim_isub d_X12_ageOn_7 ?_
  refine sim_sipush (365 : Int32) d_X12_ageOn_8 rfl ?_
  refine sim_idivc d_X12_ageOn_11 (by decide) ?_
  exact sim_iret d_X12_ageOn_12 rfl
theorem ct_X12_ageOn (a1 : Int32) (a2 : Int32) (M : mm_M) : Ct sysR Y_X12_ageOn 0 [.ref 0, .int (a1), .int (a2)] M mm_fI (f_X12_ageOn a1 a2 M) :=
  ct_of_sim (by decide) rfl (Nat.le_of_ble_eq_true rfl) (s_X12_ageOn a1 a2 M)
def f_X12_looksOn (a1 : Int32) (a2 : Int32) (M : mm_M) : Option (Int32 × mm_M) :=
  mm_ck a1 8 (
  if (mI M 11 a1.toNatClampNeg) = 0 then
    mm_bi (f_X12_ageOn a1 a2 M) (fun r1 M1 =>
    some (r1, M1))
  else
    mm_ck a1 8 (
    mm_ck (((12 : Int32) * a1) + ((mI M 11 a1.toNatClampNeg) / (2 : Int32))) 96 (
    some (mI M 12 (((12 : Int32) * a1) + ((mI M 11 a1.toNatClampNeg) / (2 : Int32))).toNatClampNeg, M))))
theorem s_X12_looksOn (a1 : Int32) (a2 : Int32) (M : mm_M) : Sim sysR Y_X12_looksOn 1 0 [(0, .ref 0), (1, .int (a1)), (2, .int (a2))] [] M mm_fI (f_X12_looksOn a1 a2 M) := by
  unfold f_X12_looksOn
  refine sim_aload_n 0 d_X12_looksOn_0 rfl rfl ?_
  refine sim_geta d_X12_looksOn_1 fl_X12_41 ob_R_0 rfl ?_
  refine sim_iload_n 1 d_X12_looksOn_4 rfl rfl ?_
  refine sim_iald d_X12_looksOn_5 ar_R_11 ?_
  refine sim_if_ne d_X12_looksOn_6 ?_ ?_
  ·
    refine sim_aload_n 0 d_X12_looksOn_18 rfl rfl ?_
    refine sim_geta d_X12_looksOn_19 fl_X12_44 ob_R_0 rfl ?_
    refine sim_bipush (12 : Int32) d_X12_looksOn_22 rfl ?_
    refine sim_iload_n 1 d_X12_looksOn_24 rfl rfl ?_
    refine sim_imul d_X12_looksOn_25 ?_
    refine sim_aload_n 0 d_X12_looksOn_26 rfl rfl ?_
    refine sim_geta d_X12_looksOn_27 fl_X12_41 ob_R_0 rfl ?_
    refine sim_iload_n 1 d_X12_looksOn_30 rfl rfl ?_
    refine sim_iald d_X12_looksOn_31 ar_R_11 ?_
    refine sim_iconst (2 : Int32) d_X12_looksOn_32 rfl ?_
    refine sim_idivc d_X12_looksOn_33 (by decide) ?_
    refine sim_iadd d_X12_looksOn_34 ?_
    refine sim_iald d_X12_looksOn_35 ar_R_12 ?_
    exact sim_iret d_X12_looksOn_36 rfl
  ·
    refine sim_aload_n 0 d_X12_looksOn_9 rfl rfl ?_
    refine sim_iload_n 1 d_X12_looksOn_10 rfl rfl ?_
    refine sim_iload_n 2 d_X12_looksOn_11 rfl rfl ?_
    refine sim_callVi Y_X12_ageOn 0 [.int (a1), .int (a2)] [] d_X12_looksOn_12 lk_X12_201 cv_X12_ageOn ob_R_0 rfl (by omega) (Nat.le_of_ble_eq_true rfl) (ct_X12_ageOn a1 a2 M) (fun r1 M1 => ?_)
    refine sim_goto d_X12_looksOn_15 ?_
    exact sim_iret d_X12_looksOn_36 rfl
theorem ct_X12_looksOn (a1 : Int32) (a2 : Int32) (M : mm_M) : Ct sysR Y_X12_looksOn 1 [.ref 0, .int (a1), .int (a2)] M mm_fI (f_X12_looksOn a1 a2 M) :=
  ct_of_sim (by decide) rfl (Nat.le_of_ble_eq_true rfl) (s_X12_looksOn a1 a2 M)
def f_X12_childOf (a1 : Int32) (a2 : Int32) (M : mm_M) : Option (Int32 × mm_M) :=
  mm_let (sI M 0 0 (0 : Int32)) (fun M1 =>
  mm_bi (f_X12_lacks a1 M1) (fun r1 M2 =>
  if 0 ≤ r1 then
    mm_bi (f_X12_in a2 (0 : Int32) (1 : Int32) M2) (fun r2 M3 =>
    if r2 = 0 then
      mm_bi (f_X12_refuse (-2 : Int32) M3) (fun r5 M6 =>
      some (r5, M6))
    else
      if a2 = 0 then
        mm_bi (f_X12_ageOn a1 (mI M3 0 1) M3) (fun r4 M5 =>
        some (r4, M5))
      else
        mm_bi (f_X12_looksOn a1 (mI M3 0 1) M3) (fun r3 M4 =>
        some (r3, M4)))
  else
    mm_bi (f_X12_refuse r1 M2) (fun r6 M7 =>
    some (r6, M7))))
theorem s_X12_childOf (a1 : Int32) (a2 : Int32) (M : mm_M) : Sim sysR Y_X12_childOf 2 0 [(0, .ref 0), (1, .int (a1)), (2, .int (a2))] [] M mm_fI (f_X12_childOf a1 a2 M) := by
  unfold f_X12_childOf
  refine sim_aload_n 0 d_X12_childOf_0 rfl rfl ?_
  refine sim_iconst (0 : Int32) d_X12_childOf_1 rfl ?_
  refine sim_puti d_X12_childOf_2 fl_X12_177 ob_R_0 rfl ?_
  refine sim_nmM (fun M1 => ?_)
  refine sim_aload_n 0 d_X12_childOf_5 rfl rfl ?_
  refine sim_iload_n 1 d_X12_childOf_6 rfl rfl ?_
  refine sim_callVi Y_X12_lacks 1 [.int (a1)] [] d_X12_childOf_7 lk_X12_198 cv_X12_lacks ob_R_0 rfl (by omega) (Nat.le_of_ble_eq_true rfl) (ct_X12_lacks a1 M1) (fun r1 M2 => ?_)
  refine sim_istore_n (L' := [(0, .ref 0), (1, .int (a1)), (2, .int (a2)), (3, .int (r1))]) d_X12_childOf_10 rfl (Nat.le_of_ble_eq_true rfl) rfl ?_
  refine sim_iload_n 3 d_X12_childOf_11 rfl rfl ?_
  refine sim_if_ge d_X12_childOf_12 ?_ ?_
  ·
    refine sim_iload_n 2 d_X12_childOf_21 rfl rfl ?_
    refine sim_iconst (0 : Int32) d_X12_childOf_22 rfl ?_
    refine sim_iconst (1 : Int32) d_X12_childOf_23 rfl ?_
    refine sim_callSi Y_X12_in 0 [.int (a2), .int ((0 : Int32)), .int ((1 : Int32))] [] d_X12_childOf_24 lk_X12_183 cs_X12_in rfl (by omega) (Nat.le_of_ble_eq_true rfl) (ct_X12_in a2 (0 : Int32) (1 : Int32) M2) (fun r2 M3 => ?_)
    refine sim_if_ne d_X12_childOf_27 ?_ ?_
    ·
      refine sim_iload_n 2 d_X12_childOf_37 rfl rfl ?_
      refine sim_if_ne d_X12_childOf_38 ?_ ?_
      ·
        refine sim_aload_n 0 d_X12_childOf_53 rfl rfl ?_
        refine sim_iload_n 1 d_X12_childOf_54 rfl rfl ?_
        refine sim_aload_n 0 d_X12_childOf_55 rfl rfl ?_
        refine sim_geti d_X12_childOf_56 fl_X12_191 ob_R_0 rfl ?_
        refine sim_callVi Y_X12_looksOn 1 [.int (a1), .int (mI M3 0 1)] [] d_X12_childOf_59 lk_X12_205 cv_X12_looksOn ob_R_0 rfl (by omega) (Nat.le_of_ble_eq_true rfl) (ct_X12_looksOn a1 (mI M3 0 1) M3) (fun r3 M4 => ?_)
        exact sim_iret d_X12_childOf_62 rfl
      ·
        refine sim_aload_n 0 d_X12_childOf_41 rfl rfl ?_
        refine sim_iload_n 1 d_X12_childOf_42 rfl rfl ?_
        refine sim_aload_n 0 d_X12_childOf_43 rfl rfl ?_
        refine sim_geti d_X12_childOf_44 fl_X12_191 ob_R_0 rfl ?_
        refine sim_callVi Y_X12_ageOn 0 [.int (a1), .int (mI M3 0 1)] [] d_X12_childOf_47 lk_X12_201 cv_X12_ageOn ob_R_0 rfl (by omega) (Nat.le_of_ble_eq_true rfl) (ct_X12_ageOn a1 (mI M3 0 1) M3) (fun r4 M5 => ?_)
        refine sim_goto d_X12_childOf_50 ?_
        exact sim_iret d_X12_childOf_62 rfl
    ·
      refine sim_aload_n 0 d_X12_childOf_30 rfl rfl ?_
      refine sim_bipush (-2 : Int32) d_X12_childOf_31 rfl ?_
      refine sim_callVi Y_X12_refuse 0 [.int ((-2 : Int32))] [] d_X12_childOf_33 lk_X12_187 cv_X12_refuse ob_R_0 rfl (by omega) (Nat.le_of_ble_eq_true rfl) (ct_X12_refuse (-2 : Int32) M3) (fun r5 M6 => ?_)
      exact sim_iret d_X12_childOf_36 rfl
  ·
    refine sim_aload_n 0 d_X12_childOf_15 rfl rfl ?_
    refine sim_iload_n 3 d_X12_childOf_16 rfl rfl ?_
    refine sim_callVi Y_X12_refuse 0 [.int (r1)] [] d_X12_childOf_17 lk_X12_187 cv_X12_refuse ob_R_0 rfl (by omega) (Nat.le_of_ble_eq_true rfl) (ct_X12_refuse r1 M2) (fun r6 M7 => ?_)
    exact sim_iret d_X12_childOf_20 rfl
theorem ct_X12_childOf (a1 : Int32) (a2 : Int32) (M : mm_M) : Ct sysR Y_X12_childOf 2 [.ref 0, .int (a1), .int (a2)] M mm_fI (f_X12_childOf a1 a2 M) :=
  ct_of_sim (by decide) rfl (Nat.le_of_ble_eq_true rfl) (s_X12_childOf a1 a2 M)
def f_X12_known_23 (M : mm_M) : Option (Int32 × mm_M) :=
  mm_bi (f_X12_refuse (-1 : Int32) M) (fun r1 M1 =>
  some (r1, M1))
theorem s_X12_known_23 (M : mm_M) : Sim sysR Y_X12_known 2 23 [(0, .ref 0)] [] M mm_fI (f_X12_known_23 M) := by
  unfold f_X12_known_23
  refine sim_aload_n 0 d_X12_known_23 rfl rfl ?_
  refine sim_iconst (-1 : Int32) d_X12_known_24 rfl ?_
  refine sim_callVi Y_X12_refuse 0 [.int ((-1 : Int32))] [] d_X12_known_25 lk_X12_187 cv_X12_refuse ob_R_0 rfl (by omega) (Nat.le_of_ble_eq_true rfl) (ct_X12_refuse (-1 : Int32) M) (fun r1 M1 => ?_)
  exact sim_iret d_X12_known_28 rfl
def f_X12_known (a1 : Int32) (a2 : Int32) (a3 : Int32) (M : mm_M) : Option (Int32 × mm_M) :=
  mm_let (sI M 0 0 (0 : Int32)) (fun M1 =>
  mm_bi (f_X12_in a1 (0 : Int32) (7 : Int32) M1) (fun r1 M2 =>
  if r1 = 0 then
    f_X12_known_23 M2
  else
    mm_bi (f_X12_isShop a2 M2) (fun r2 M3 =>
    if r2 = 0 then
      f_X12_known_23 M3
    else
      mm_ck a1 8 (
      if (mI M3 9 a1.toNatClampNeg) = 0 then
        mm_bi (f_X12_refuse (-5 : Int32) M3) (fun r3 M5 =>
        some (r3, M5))
      else
        mm_ck (((40 : Int32) * a1) + a2) 320 (
        mm_let (mI M3 13 (((40 : Int32) * a1) + a2).toNatClampNeg) (fun v1 =>
        mm_ck (((40 : Int32) * a1) + a2) 320 (
        mm_let (sI M3 13 (((40 : Int32) * a1) + a2).toNatClampNeg (a3 &&& 1)) (fun M4 =>
        if v1 = a3 then
          some ((0 : Int32), M4)
        else
          some ((1 : Int32), M4)))))))))
theorem s_X12_known (a1 : Int32) (a2 : Int32) (a3 : Int32) (M : mm_M) : Sim sysR Y_X12_known 2 0 [(0, .ref 0), (1, .int (a1)), (2, .int (a2)), (3, .int (a3))] [] M mm_fI (f_X12_known a1 a2 a3 M) := by
  unfold f_X12_known
  refine sim_aload_n 0 d_X12_known_0 rfl rfl ?_
  refine sim_iconst (0 : Int32) d_X12_known_1 rfl ?_
  refine sim_puti d_X12_known_2 fl_X12_177 ob_R_0 rfl ?_
  refine sim_nmM (fun M1 => ?_)
  refine sim_iload_n 1 d_X12_known_5 rfl rfl ?_
  refine sim_iconst (0 : Int32) d_X12_known_6 rfl ?_
  refine sim_bipush (7 : Int32) d_X12_known_7 rfl ?_
  refine sim_callSi Y_X12_in 0 [.int (a1), .int ((0 : Int32)), .int ((7 : Int32))] [] d_X12_known_9 lk_X12_183 cs_X12_in rfl (by omega) (Nat.le_of_ble_eq_true rfl) (ct_X12_in a1 (0 : Int32) (7 : Int32) M1) (fun r1 M2 => ?_)
  refine sim_if_eq d_X12_known_12 ?_ ?_
  ·
    exact sim_sub [0] rfl (s_X12_known_23 M2)
  ·
    refine sim_aload_n 0 d_X12_known_15 rfl rfl ?_
    refine sim_iload_n 2 d_X12_known_16 rfl rfl ?_
    refine sim_callVi Y_X12_isShop 1 [.int (a2)] [] d_X12_known_17 lk_X12_194 cv_X12_isShop ob_R_0 rfl (by omega) (Nat.le_of_ble_eq_true rfl) (ct_X12_isShop a2 M2) (fun r2 M3 => ?_)
    refine sim_if_ne d_X12_known_20 ?_ ?_
    ·
      refine sim_aload_n 0 d_X12_known_29 rfl rfl ?_
      refine sim_geta d_X12_known_30 fl_X12_35 ob_R_0 rfl ?_
      refine sim_iload_n 1 d_X12_known_33 rfl rfl ?_
      refine sim_zald d_X12_known_34 ar_R_9 ?_
      refine sim_if_ne d_X12_known_35 ?_ ?_
      ·
        refine sim_aload_n 0 d_X12_known_45 rfl rfl ?_
        refine sim_geta d_X12_known_46 fl_X12_47 ob_R_0 rfl ?_
        refine sim_bipush (40 : Int32) d_X12_known_49 rfl ?_
        refine sim_iload_n 1 d_X12_known_51 rfl rfl ?_
        refine sim_imul d_X12_known_52 ?_
        refine sim_iload_n 2 d_X12_known_53 rfl rfl ?_
        refine sim_iadd d_X12_known_54 ?_
        refine sim_zald d_X12_known_55 ar_R_13 ?_
        refine sim_nmi (fun v1 => ?_)
        refine sim_istore (L' := [(0, .ref 0), (1, .int (a1)), (2, .int (a2)), (3, .int (a3)), (4, .int (v1))]) d_X12_known_56 (Nat.le_of_ble_eq_true rfl) rfl ?_
        refine sim_aload_n 0 d_X12_known_58 rfl rfl ?_
        refine sim_geta d_X12_known_59 fl_X12_47 ob_R_0 rfl ?_
        refine sim_bipush (40 : Int32) d_X12_known_62 rfl ?_
        refine sim_iload_n 1 d_X12_known_64 rfl rfl ?_
        refine sim_imul d_X12_known_65 ?_
        refine sim_iload_n 2 d_X12_known_66 rfl rfl ?_
        refine sim_iadd d_X12_known_67 ?_
        refine sim_iload_n 3 d_X12_known_68 rfl rfl ?_
        refine sim_zast d_X12_known_69 ar_R_13 ?_
        refine sim_nmM (fun M4 => ?_)
        refine sim_iload 4 d_X12_known_70 rfl ?_
        refine sim_iload_n 3 d_X12_known_72 rfl rfl ?_
        refine sim_icmp_ne d_X12_known_73 ?_ ?_
        ·
          refine sim_iconst (1 : Int32) d_X12_known_80 rfl ?_
          exact sim_iret d_X12_known_81 rfl
        ·
          refine sim_iconst (0 : Int32) d_X12_known_76 rfl ?_
          refine sim_goto d_X12_known_77 ?_
          exact sim_iret d_X12_known_81 rfl
      ·
        refine sim_aload_n 0 d_X12_known_38 rfl rfl ?_
        refine sim_bipush (-5 : Int32) d_X12_known_39 rfl ?_
        refine sim_callVi Y_X12_refuse 0 [.int ((-5 : Int32))] [] d_X12_known_41 lk_X12_187 cv_X12_refuse ob_R_0 rfl (by omega) (Nat.le_of_ble_eq_true rfl) (ct_X12_refuse (-5 : Int32) M3) (fun r3 M5 => ?_)
        exact sim_iret d_X12_known_44 rfl
    ·
      exact sim_sub [0] rfl (s_X12_known_23 M3)
theorem ct_X12_known (a1 : Int32) (a2 : Int32) (a3 : Int32) (M : mm_M) : Ct sysR Y_X12_known 2 [.ref 0, .int (a1), .int (a2), .int (a3)] M mm_fI (f_X12_known a1 a2 a3 M) :=
  ct_of_sim (by decide) rfl (Nat.le_of_ble_eq_true rfl) (s_X12_known a1 a2 a3 M)
def f_X12_openMany_27 (k4 : Int32 → Int32 → mm_M → Option (Int32 × mm_M)) (x2 : Int32) (t0 : Int32) (t1 : Int32) (M : mm_M) : Option (Int32 × mm_M) :=
  mm_let (t0 + t1) (fun v1 =>
  k4 v1 (x2 + (1 : Int32)) M)
theorem s_X12_openMany_27 (k4 : Int32 → Int32 → mm_M → Option (Int32 × mm_M)) (hk4 : ∀ (x1 : Int32) (x2 : Int32) (M : mm_M), Sim sysR Y_X12_openMany 0 4 [(0, .ref 0), (1, .int (x1)), (2, .int (x2))] [] M mm_fI (k4 x1 x2 M)) (x2 : Int32) (t0 : Int32) (t1 : Int32) (M : mm_M) : Sim sysR Y_X12_openMany 0 27 [(0, .ref 0), (2, .int (x2))] [.int (t1), .int (t0)] M mm_fI (f_X12_openMany_27 k4 x2 t0 t1 M) := by
  unfold f_X12_openMany_27
  refine sim_iadd d_X12_openMany_27 ?_
  refine sim_nmi (fun v1 => ?_)
  refine sim_istore_n (L' := [(0, .ref 0), (2, .int (x2)), (1, .int (v1))]) d_X12_openMany_28 rfl (Nat.le_of_ble_eq_true rfl) rfl ?_
  refine sim_iinc (v := x2 + (1 : Int32)) (L' := [(0, .ref 0), (1, .int (v1)), (2, .int (x2 + (1 : Int32)))]) 1 d_X12_openMany_29 (Nat.le_of_ble_eq_true rfl) rfl rfl rfl ?_
  refine sim_goto d_X12_openMany_32 ?_
  exact sim_sub [0, 1, 2] rfl (hk4 v1 (x2 + (1 : Int32)) M)
def f_X12_openMany_4 : Nat → Int32 → Int32 → mm_M → Option (Int32 × mm_M)
  | 0, _, _, _ => none
  | n + 1, x1, x2, M =>
  if (mI M 0 2) ≤ x2 then
    some (x1, M)
  else
    mm_ck x2 40 (
    if (mI M 6 x2.toNatClampNeg) = 0 then
      f_X12_openMany_27 (f_X12_openMany_4 n) x2 x1 (0 : Int32) M
    else
      f_X12_openMany_27 (f_X12_openMany_4 n) x2 x1 (1 : Int32) M)
theorem s_X12_openMany_4 (n : Nat) : ∀ (x1 : Int32) (x2 : Int32) (M : mm_M), Sim sysR Y_X12_openMany 0 4 [(0, .ref 0), (1, .int (x1)), (2, .int (x2))] [] M mm_fI (f_X12_openMany_4 n x1 x2 M) := by
  induction n with
  | zero => intros; exact sim_none
  | succ n ih =>
    intro x1 x2 M
    rw [f_X12_openMany_4]
    refine sim_iload_n 2 d_X12_openMany_4 rfl rfl ?_
    refine sim_aload_n 0 d_X12_openMany_5 rfl rfl ?_
    refine sim_geti d_X12_openMany_6 fl_X12_180 ob_R_0 rfl ?_
    refine sim_icmp_ge d_X12_openMany_9 ?_ ?_
    ·
      refine sim_iload_n 1 d_X12_openMany_35 rfl rfl ?_
      exact sim_iret d_X12_openMany_36 rfl
    ·
      refine sim_iload_n 1 d_X12_openMany_12 rfl rfl ?_
      refine sim_aload_n 0 d_X12_openMany_13 rfl rfl ?_
      refine sim_geta d_X12_openMany_14 fl_X12_25 ob_R_0 rfl ?_
      refine sim_iload_n 2 d_X12_openMany_17 rfl rfl ?_
      refine sim_zald d_X12_openMany_18 ar_R_6 ?_
      refine sim_if_eq d_X12_openMany_19 ?_ ?_
      ·
        refine sim_iconst (0 : Int32) d_X12_openMany_26 rfl ?_
        exact sim_sub [0, 2] rfl (s_X12_openMany_27 (f_X12_openMany_4 n) ih x2 x1 (0 : Int32) M)
      ·
        refine sim_iconst (1 : Int32) d_X12_openMany_22 rfl ?_
        refine sim_goto d_X12_openMany_23 ?_
        exact sim_sub [0, 2] rfl (s_X12_openMany_27 (f_X12_openMany_4 n) ih x2 x1 (1 : Int32) M)
def f_X12_openMany (M : mm_M) : Option (Int32 × mm_M) :=
  f_X12_openMany_4 mm_fu (0 : Int32) (0 : Int32) M
theorem s_X12_openMany (M : mm_M) : Sim sysR Y_X12_openMany 0 0 [(0, .ref 0)] [] M mm_fI (f_X12_openMany M) := by
  unfold f_X12_openMany
  refine sim_iconst (0 : Int32) d_X12_openMany_0 rfl ?_
  refine sim_istore_n (L' := [(0, .ref 0), (1, .int ((0 : Int32)))]) d_X12_openMany_1 rfl (Nat.le_of_ble_eq_true rfl) rfl ?_
  refine sim_iconst (0 : Int32) d_X12_openMany_2 rfl ?_
  refine sim_istore_n (L' := [(0, .ref 0), (1, .int ((0 : Int32))), (2, .int ((0 : Int32)))]) d_X12_openMany_3 rfl (Nat.le_of_ble_eq_true rfl) rfl ?_
  exact sim_sub [0, 1, 2] rfl (s_X12_openMany_4 mm_fu (0 : Int32) (0 : Int32) M)
theorem ct_X12_openMany (M : mm_M) : Ct sysR Y_X12_openMany 0 [.ref 0] M mm_fI (f_X12_openMany M) :=
  ct_of_sim (by decide) rfl (Nat.le_of_ble_eq_true rfl) (s_X12_openMany M)
def f_X12_findSure_86 (k26 : Int32 → Int32 → Int32 → mm_M → Option (mm_M)) (x1 : Int32) (x2 : Int32) (x3 : Int32) (t1 : Int32) (t2 : Int32) (M : mm_M) : Option (mm_M) :=
  mm_let (sI M 0 23 (t1 + t2)) (fun M1 =>
  k26 x1 x2 (x3 + (1 : Int32)) M1)
theorem s_X12_findSure_86 (k26 : Int32 → Int32 → Int32 → mm_M → Option (mm_M)) (hk26 : ∀ (x1 : Int32) (x2 : Int32) (x3 : Int32) (M : mm_M), Sim sysR Y_X12_findSure 1 26 [(0, .ref 0), (1, .int (x1)), (2, .int (x2)), (3, .int (x3))] [] M mm_fV (k26 x1 x2 x3 M)) (x1 : Int32) (x2 : Int32) (x3 : Int32) (t1 : Int32) (t2 : Int32) (M : mm_M) : Sim sysR Y_X12_findSure 1 86 [(0, .ref 0), (1, .int (x1)), (2, .int (x2)), (3, .int (x3))] [.int (t2), .int (t1), .ref 0] M mm_fV (f_X12_findSure_86 k26 x1 x2 x3 t1 t2 M) := by
  unfold f_X12_findSure_86
  refine sim_iadd d_X12_findSure_86 ?_
  refine sim_puti d_X12_findSure_87 fl_X12_211 ob_R_0 rfl ?_
  refine sim_nmM (fun M1 => ?_)
  refine sim_iinc (v := x3 + (1 : Int32)) (L' := [(0, .ref 0), (1, .int (x1)), (2, .int (x2)), (3, .int (x3 + (1 : Int32)))]) 3 d_X12_findSure_90 (Nat.le_of_ble_eq_true rfl) rfl rfl rfl ?_
  refine sim_goto d_X12_findSure_93 ?_
  exact sim_sub [0, 1, 2, 3] rfl (hk26 x1 x2 (x3 + (1 : Int32)) M1)
def f_X12_findSure_85 (k26 : Int32 → Int32 → Int32 → mm_M → Option (mm_M)) (x1 : Int32) (x2 : Int32) (x3 : Int32) (t1 : Int32) (M : mm_M) : Option (mm_M) :=
  f_X12_findSure_86 k26 x1 x2 x3 t1 (0 : Int32) M
theorem s_X12_findSure_85 (k26 : Int32 → Int32 → Int32 → mm_M → Option (mm_M)) (hk26 : ∀ (x1 : Int32) (x2 : Int32) (x3 : Int32) (M : mm_M), Sim sysR Y_X12_findSure 1 26 [(0, .ref 0), (1, .int (x1)), (2, .int (x2)), (3, .int (x3))] [] M mm_fV (k26 x1 x2 x3 M)) (x1 : Int32) (x2 : Int32) (x3 : Int32) (t1 : Int32) (M : mm_M) : Sim sysR Y_X12_findSure 1 85 [(0, .ref 0), (1, .int (x1)), (2, .int (x2)), (3, .int (x3))] [.int (t1), .ref 0] M mm_fV (f_X12_findSure_85 k26 x1 x2 x3 t1 M) := by
  unfold f_X12_findSure_85
  refine sim_iconst (0 : Int32) d_X12_findSure_85 rfl ?_
  exact sim_sub [0, 1, 2, 3] rfl (s_X12_findSure_86 k26 hk26 x1 x2 x3 t1 (0 : Int32) M)
def f_X12_findSure_57 (k26 : Int32 → Int32 → Int32 → mm_M → Option (mm_M)) (x1 : Int32) (x2 : Int32) (x3 : Int32) (t1 : Int32) (t2 : Int32) (M : mm_M) : Option (mm_M) :=
  mm_ck t1 40 (
  mm_let (sI M 18 t1.toNatClampNeg (t2 &&& 1)) (fun M1 =>
  mm_ck x3 40 (
  if (mI M1 6 x3.toNatClampNeg) = 0 then
    f_X12_findSure_85 k26 x1 x2 x3 (mI M1 0 23) M1
  else
    if x2 = 0 then
      mm_ck x3 40 (
      f_X12_findSure_86 k26 x1 x2 x3 (mI M1 0 23) (mI M1 5 x3.toNatClampNeg) M1)
    else
      f_X12_findSure_85 k26 x1 x2 x3 (mI M1 0 23) M1)))
theorem s_X12_findSure_57 (k26 : Int32 → Int32 → Int32 → mm_M → Option (mm_M)) (hk26 : ∀ (x1 : Int32) (x2 : Int32) (x3 : Int32) (M : mm_M), Sim sysR Y_X12_findSure 1 26 [(0, .ref 0), (1, .int (x1)), (2, .int (x2)), (3, .int (x3))] [] M mm_fV (k26 x1 x2 x3 M)) (x1 : Int32) (x2 : Int32) (x3 : Int32) (t1 : Int32) (t2 : Int32) (M : mm_M) : Sim sysR Y_X12_findSure 1 57 [(0, .ref 0), (1, .int (x1)), (2, .int (x2)), (3, .int (x3))] [.int (t2), .int (t1), .ref 18] M mm_fV (f_X12_findSure_57 k26 x1 x2 x3 t1 t2 M) := by
  unfold f_X12_findSure_57
  refine sim_zast d_X12_findSure_57 ar_R_18 ?_
  refine sim_nmM (fun M1 => ?_)
  refine sim_aload_n 0 d_X12_findSure_58 rfl rfl ?_
  refine sim_dup d_X12_findSure_59 rfl ?_
  refine sim_geti d_X12_findSure_60 fl_X12_211 ob_R_0 rfl ?_
  refine sim_aload_n 0 d_X12_findSure_63 rfl rfl ?_
  refine sim_geta d_X12_findSure_64 fl_X12_25 ob_R_0 rfl ?_
  refine sim_iload_n 3 d_X12_findSure_67 rfl rfl ?_
  refine sim_zald d_X12_findSure_68 ar_R_6 ?_
  refine sim_if_eq d_X12_findSure_69 ?_ ?_
  ·
    exact sim_sub [0, 1, 2, 3] rfl (s_X12_findSure_85 k26 hk26 x1 x2 x3 (mI M1 0 23) M1)
  ·
    refine sim_iload_n 2 d_X12_findSure_72 rfl rfl ?_
    refine sim_if_ne d_X12_findSure_73 ?_ ?_
    ·
      exact sim_sub [0, 1, 2, 3] rfl (s_X12_findSure_85 k26 hk26 x1 x2 x3 (mI M1 0 23) M1)
    ·
      refine sim_aload_n 0 d_X12_findSure_76 rfl rfl ?_
      refine sim_geta d_X12_findSure_77 fl_X12_22 ob_R_0 rfl ?_
      refine sim_iload_n 3 d_X12_findSure_80 rfl rfl ?_
      refine sim_iald d_X12_findSure_81 ar_R_5 ?_
      refine sim_goto d_X12_findSure_82 ?_
      exact sim_sub [0, 1, 2, 3] rfl (s_X12_findSure_86 k26 hk26 x1 x2 x3 (mI M1 0 23) (mI M1 5 x3.toNatClampNeg) M1)
def f_X12_findSure_56 (k26 : Int32 → Int32 → Int32 → mm_M → Option (mm_M)) (x1 : Int32) (x2 : Int32) (x3 : Int32) (t1 : Int32) (M : mm_M) : Option (mm_M) :=
  f_X12_findSure_57 k26 x1 x2 x3 t1 (0 : Int32) M
theorem s_X12_findSure_56 (k26 : Int32 → Int32 → Int32 → mm_M → Option (mm_M)) (hk26 : ∀ (x1 : Int32) (x2 : Int32) (x3 : Int32) (M : mm_M), Sim sysR Y_X12_findSure 1 26 [(0, .ref 0), (1, .int (x1)), (2, .int (x2)), (3, .int (x3))] [] M mm_fV (k26 x1 x2 x3 M)) (x1 : Int32) (x2 : Int32) (x3 : Int32) (t1 : Int32) (M : mm_M) : Sim sysR Y_X12_findSure 1 56 [(0, .ref 0), (1, .int (x1)), (2, .int (x2)), (3, .int (x3))] [.int (t1), .ref 18] M mm_fV (f_X12_findSure_56 k26 x1 x2 x3 t1 M) := by
  unfold f_X12_findSure_56
  refine sim_iconst (0 : Int32) d_X12_findSure_56 rfl ?_
  exact sim_sub [0, 1, 2, 3] rfl (s_X12_findSure_57 k26 hk26 x1 x2 x3 t1 (0 : Int32) M)
def f_X12_findSure_26 (k96 : Int32 → Int32 → mm_M → Option (mm_M)) : Nat → Int32 → Int32 → Int32 → mm_M → Option (mm_M)
  | 0, _, _, _, _ => none
  | n + 1, x1, x2, x3, M =>
  if (mI M 0 2) ≤ x3 then
    k96 x1 x2 M
  else
    mm_ck x3 40 (
    if (mI M 6 x3.toNatClampNeg) = 0 then
      f_X12_findSure_56 (f_X12_findSure_26 k96 n) x1 x2 x3 x3 M
    else
      if x2 = 0 then
        f_X12_findSure_56 (f_X12_findSure_26 k96 n) x1 x2 x3 x3 M
      else
        f_X12_findSure_57 (f_X12_findSure_26 k96 n) x1 x2 x3 x3 (1 : Int32) M)
theorem s_X12_findSure_26 (k96 : Int32 → Int32 → mm_M → Option (mm_M)) (hk96 : ∀ (x1 : Int32) (x2 : Int32) (M : mm_M), Sim sysR Y_X12_findSure 1 96 [(0, .ref 0), (1, .int (x1)), (2, .int (x2))] [] M mm_fV (k96 x1 x2 M)) (n : Nat) : ∀ (x1 : Int32) (x2 : Int32) (x3 : Int32) (M : mm_M), Sim sysR Y_X12_findSure 1 26 [(0, .ref 0), (1, .int (x1)), (2, .int (x2)), (3, .int (x3))] [] M mm_fV (f_X12_findSure_26 k96 n x1 x2 x3 M) := by
  induction n with
  | zero => intros; exact sim_none
  | succ n ih =>
    intro x1 x2 x3 M
    rw [f_X12_findSure_26]
    refine sim_iload_n 3 d_X12_findSure_26 rfl rfl ?_
    refine sim_aload_n 0 d_X12_findSure_27 rfl rfl ?_
    refine sim_geti d_X12_findSure_28 fl_X12_180 ob_R_0 rfl ?_
    refine sim_icmp_ge d_X12_findSure_31 ?_ ?_
    ·
      exact sim_sub [0, 1, 2] rfl (hk96 x1 x2 M)
    ·
      refine sim_aload_n 0 d_X12_findSure_34 rfl rfl ?_
      refine sim_geta d_X12_findSure_35 fl_X12_62 ob_R_0 rfl ?_
      refine sim_iload_n 3 d_X12_findSure_38 rfl rfl ?_
      refine sim_aload_n 0 d_X12_findSure_39 rfl rfl ?_
      refine sim_geta d_X12_findSure_40 fl_X12_25 ob_R_0 rfl ?_
      refine sim_iload_n 3 d_X12_findSure_43 rfl rfl ?_
      refine sim_zald d_X12_findSure_44 ar_R_6 ?_
      refine sim_if_eq d_X12_findSure_45 ?_ ?_
      ·
        exact sim_sub [0, 1, 2, 3] rfl (s_X12_findSure_56 (f_X12_findSure_26 k96 n) ih x1 x2 x3 x3 M)
      ·
        refine sim_iload_n 2 d_X12_findSure_48 rfl rfl ?_
        refine sim_if_eq d_X12_findSure_49 ?_ ?_
        ·
          exact sim_sub [0, 1, 2, 3] rfl (s_X12_findSure_56 (f_X12_findSure_26 k96 n) ih x1 x2 x3 x3 M)
        ·
          refine sim_iconst (1 : Int32) d_X12_findSure_52 rfl ?_
          refine sim_goto d_X12_findSure_53 ?_
          exact sim_sub [0, 1, 2, 3] rfl (s_X12_findSure_57 (f_X12_findSure_26 k96 n) ih x1 x2 x3 x3 (1 : Int32) M)
def f_X12_findSure_220 (k140 : Int32 → Int32 → Int32 → Int32 → mm_M → Option (mm_M)) (x3 : Int32) (x4 : Int32) (x5 : Int32) (x6 : Int32) (M : mm_M) : Option (mm_M) :=
  k140 x3 x4 x5 (x6 + (1 : Int32)) M
theorem s_X12_findSure_220 (k140 : Int32 → Int32 → Int32 → Int32 → mm_M → Option (mm_M)) (hk140 : ∀ (x3 : Int32) (x4 : Int32) (x5 : Int32) (x6 : Int32) (M : mm_M), Sim sysR Y_X12_findSure 1 140 [(0, .ref 0), (3, .int (x3)), (4, .int (x4)), (5, .int (x5)), (6, .int (x6))] [] M mm_fV (k140 x3 x4 x5 x6 M)) (x3 : Int32) (x4 : Int32) (x5 : Int32) (x6 : Int32) (M : mm_M) : Sim sysR Y_X12_findSure 1 220 [(0, .ref 0), (3, .int (x3)), (4, .int (x4)), (5, .int (x5)), (6, .int (x6))] [] M mm_fV (f_X12_findSure_220 k140 x3 x4 x5 x6 M) := by
  unfold f_X12_findSure_220
  refine sim_iinc (v := x6 + (1 : Int32)) (L' := [(0, .ref 0), (3, .int (x3)), (4, .int (x4)), (5, .int (x5)), (6, .int (x6 + (1 : Int32)))]) 4 d_X12_findSure_220 (Nat.le_of_ble_eq_true rfl) rfl rfl rfl ?_
  refine sim_goto d_X12_findSure_223 ?_
  exact sim_sub [0, 1, 2, 3, 4] rfl (hk140 x3 x4 x5 (x6 + (1 : Int32)) M)
def f_X12_findSure_140 (k226 : Int32 → mm_M → Option (mm_M)) : Nat → Int32 → Int32 → Int32 → Int32 → mm_M → Option (mm_M)
  | 0, _, _, _, _, _ => none
  | n + 1, x3, x4, x5, x6, M =>
  if (mI M 0 2) ≤ x6 then
    k226 x3 M
  else
    mm_ck x6 40 (
    if (mI M 6 x6.toNatClampNeg) = 0 then
      f_X12_findSure_220 (f_X12_findSure_140 k226 n) x3 x4 x5 x6 M
    else
      mm_ck x6 40 (
      if (mI M 18 x6.toNatClampNeg) = 0 then
        mm_ck x6 40 (
        if (x4 * (mI M 5 x6.toNatClampNeg)) < x5 then
          f_X12_findSure_220 (f_X12_findSure_140 k226 n) x3 x4 x5 x6 M
        else
          mm_ck x6 40 (
          mm_let (sI M 18 x6.toNatClampNeg ((1 : Int32) &&& 1)) (fun M1 =>
          mm_let (sI M1 0 22 ((mI M1 0 22) - (1 : Int32))) (fun M2 =>
          mm_ck x6 40 (
          mm_let (sI M2 0 23 ((mI M2 0 23) - (mI M2 5 x6.toNatClampNeg))) (fun M3 =>
          f_X12_findSure_220 (f_X12_findSure_140 k226 n) (1 : Int32) x4 x5 x6 M3))))))
      else
        f_X12_findSure_220 (f_X12_findSure_140 k226 n) x3 x4 x5 x6 M))
theorem s_X12_findSure_140 (k226 : Int32 → mm_M → Option (mm_M)) (hk226 : ∀ (x3 : Int32) (M : mm_M), Sim sysR Y_X12_findSure 1 226 [(0, .ref 0), (3, .int (x3))] [] M mm_fV (k226 x3 M)) (n : Nat) : ∀ (x3 : Int32) (x4 : Int32) (x5 : Int32) (x6 : Int32) (M : mm_M), Sim sysR Y_X12_findSure 1 140 [(0, .ref 0), (3, .int (x3)), (4, .int (x4)), (5, .int (x5)), (6, .int (x6))] [] M mm_fV (f_X12_findSure_140 k226 n x3 x4 x5 x6 M) := by
  induction n with
  | zero => intros; exact sim_none
  | succ n ih =>
    intro x3 x4 x5 x6 M
    rw [f_X12_findSure_140]
    refine sim_iload 4 d_X12_findSure_140 rfl ?_
    refine sim_aload_n 0 d_X12_findSure_142 rfl rfl ?_
    refine sim_geti d_X12_findSure_143 fl_X12_180 ob_R_0 rfl ?_
    refine sim_icmp_ge d_X12_findSure_146 ?_ ?_
    ·
      exact sim_sub [0, 1] rfl (hk226 x3 M)
    ·
      refine sim_aload_n 0 d_X12_findSure_149 rfl rfl ?_
      refine sim_geta d_X12_findSure_150 fl_X12_25 ob_R_0 rfl ?_
      refine sim_iload 4 d_X12_findSure_153 rfl ?_
      refine sim_zald d_X12_findSure_155 ar_R_6 ?_
      refine sim_if_eq d_X12_findSure_156 ?_ ?_
      ·
        exact sim_sub [0, 1, 2, 3, 4] rfl (s_X12_findSure_220 (f_X12_findSure_140 k226 n) ih x3 x4 x5 x6 M)
      ·
        refine sim_aload_n 0 d_X12_findSure_159 rfl rfl ?_
        refine sim_geta d_X12_findSure_160 fl_X12_62 ob_R_0 rfl ?_
        refine sim_iload 4 d_X12_findSure_163 rfl ?_
        refine sim_zald d_X12_findSure_165 ar_R_18 ?_
        refine sim_if_ne d_X12_findSure_166 ?_ ?_
        ·
          exact sim_sub [0, 1, 2, 3, 4] rfl (s_X12_findSure_220 (f_X12_findSure_140 k226 n) ih x3 x4 x5 x6 M)
        ·
          refine sim_iload 2 d_X12_findSure_169 rfl ?_
          refine sim_aload_n 0 d_X12_findSure_171 rfl rfl ?_
          refine sim_geta d_X12_findSure_172 fl_X12_22 ob_R_0 rfl ?_
          refine sim_iload 4 d_X12_findSure_175 rfl ?_
          refine sim_iald d_X12_findSure_177 ar_R_5 ?_
          refine sim_imul d_X12_findSure_178 ?_
          refine sim_iload 3 d_X12_findSure_179 rfl ?_
          refine sim_icmp_lt d_X12_findSure_181 ?_ ?_
          ·
            exact sim_sub [0, 1, 2, 3, 4] rfl (s_X12_findSure_220 (f_X12_findSure_140 k226 n) ih x3 x4 x5 x6 M)
          ·
            refine sim_aload_n 0 d_X12_findSure_184 rfl rfl ?_
            refine sim_geta d_X12_findSure_185 fl_X12_62 ob_R_0 rfl ?_
            refine sim_iload 4 d_X12_findSure_188 rfl ?_
            refine sim_iconst (1 : Int32) d_X12_findSure_190 rfl ?_
            refine sim_zast d_X12_findSure_191 ar_R_18 ?_
            refine sim_nmM (fun M1 => ?_)
            refine sim_aload_n 0 d_X12_findSure_192 rfl rfl ?_
            refine sim_dup d_X12_findSure_193 rfl ?_
            refine sim_geti d_X12_findSure_194 fl_X12_208 ob_R_0 rfl ?_
            refine sim_iconst (1 : Int32) d_X12_findSure_197 rfl ?_
            refine sim_isub d_X12_findSure_198 ?_
            refine sim_puti d_X12_findSure_199 fl_X12_208 ob_R_0 rfl ?_
            refine sim_nmM (fun M2 => ?_)
            refine sim_aload_n 0 d_X12_findSure_202 rfl rfl ?_
            refine sim_dup d_X12_findSure_203 rfl ?_
            refine sim_geti d_X12_findSure_204 fl_X12_211 ob_R_0 rfl ?_
            refine sim_aload_n 0 d_X12_findSure_207 rfl rfl ?_
            refine sim_geta d_X12_findSure_208 fl_X12_22 ob_R_0 rfl ?_
            refine sim_iload 4 d_X12_findSure_211 rfl ?_
            refine sim_iald d_X12_findSure_213 ar_R_5 ?_
            refine sim_isub d_X12_findSure_214 ?_
            refine sim_puti d_X12_findSure_215 fl_X12_211 ob_R_0 rfl ?_
            refine sim_nmM (fun M3 => ?_)
            refine sim_iconst (1 : Int32) d_X12_findSure_218 rfl ?_
            refine sim_istore_n (L' := [(0, .ref 0), (4, .int (x4)), (5, .int (x5)), (6, .int (x6)), (3, .int ((1 : Int32)))]) d_X12_findSure_219 rfl (Nat.le_of_ble_eq_true rfl) rfl ?_
            exact sim_sub [0, 4, 1, 2, 3] rfl (s_X12_findSure_220 (f_X12_findSure_140 k226 n) ih (1 : Int32) x4 x5 x6 M3)
def f_X12_findSure_226 (k119 : Int32 → mm_M → Option (mm_M)) (x3 : Int32) (M : mm_M) : Option (mm_M) :=
  k119 x3 M
theorem s_X12_findSure_226 (k119 : Int32 → mm_M → Option (mm_M)) (hk119 : ∀ (x3 : Int32) (M : mm_M), Sim sysR Y_X12_findSure 1 119 [(0, .ref 0), (3, .int (x3))] [] M mm_fV (k119 x3 M)) (x3 : Int32) (M : mm_M) : Sim sysR Y_X12_findSure 1 226 [(0, .ref 0), (3, .int (x3))] [] M mm_fV (f_X12_findSure_226 k119 x3 M) := by
  unfold f_X12_findSure_226
  refine sim_goto d_X12_findSure_226 ?_
  exact sim_sub [0, 1] rfl (hk119 x3 M)
def f_X12_findSure_119 : Nat → Int32 → mm_M → Option (mm_M)
  | 0, _, _ => none
  | n + 1, x3, M =>
  if x3 = 0 then
    some M
  else
    mm_let (mI M 0 22) (fun v1 =>
    mm_let (mI M 0 23) (fun v2 =>
    f_X12_findSure_140 (f_X12_findSure_226 (f_X12_findSure_119 n)) mm_fu (0 : Int32) v1 v2 (0 : Int32) M))
theorem s_X12_findSure_119 (n : Nat) : ∀ (x3 : Int32) (M : mm_M), Sim sysR Y_X12_findSure 1 119 [(0, .ref 0), (3, .int (x3))] [] M mm_fV (f_X12_findSure_119 n x3 M) := by
  induction n with
  | zero => intros; exact sim_none
  | succ n ih =>
    intro x3 M
    rw [f_X12_findSure_119]
    refine sim_iload_n 1 d_X12_findSure_119 rfl rfl ?_
    refine sim_if_eq d_X12_findSure_120 ?_ ?_
    ·
      exact sim_vret d_X12_findSure_229 rfl
    ·
      refine sim_iconst (0 : Int32) d_X12_findSure_123 rfl ?_
      refine sim_istore_n (L' := [(0, .ref 0), (3, .int ((0 : Int32)))]) d_X12_findSure_124 rfl (Nat.le_of_ble_eq_true rfl) rfl ?_
      refine sim_aload_n 0 d_X12_findSure_125 rfl rfl ?_
      refine sim_geti d_X12_findSure_126 fl_X12_208 ob_R_0 rfl ?_
      refine sim_nmi (fun v1 => ?_)
      refine sim_istore (L' := [(0, .ref 0), (3, .int ((0 : Int32))), (4, .int (v1))]) d_X12_findSure_129 (Nat.le_of_ble_eq_true rfl) rfl ?_
      refine sim_aload_n 0 d_X12_findSure_131 rfl rfl ?_
      refine sim_geti d_X12_findSure_132 fl_X12_211 ob_R_0 rfl ?_
      refine sim_nmi (fun v2 => ?_)
      refine sim_istore (L' := [(0, .ref 0), (3, .int ((0 : Int32))), (4, .int (v1)), (5, .int (v2))]) d_X12_findSure_135 (Nat.le_of_ble_eq_true rfl) rfl ?_
      refine sim_iconst (0 : Int32) d_X12_findSure_137 rfl ?_
      refine sim_istore (L' := [(0, .ref 0), (3, .int ((0 : Int32))), (4, .int (v1)), (5, .int (v2)), (6, .int ((0 : Int32)))]) d_X12_findSure_138 (Nat.le_of_ble_eq_true rfl) rfl ?_
      exact sim_sub [0, 1, 2, 3, 4] rfl (s_X12_findSure_140 (f_X12_findSure_226 (f_X12_findSure_119 n)) (s_X12_findSure_226 (f_X12_findSure_119 n) ih) mm_fu (0 : Int32) v1 v2 (0 : Int32) M)
def f_X12_findSure_118 (t0 : Int32) (M : mm_M) : Option (mm_M) :=
  f_X12_findSure_119 mm_fu t0 M
theorem s_X12_findSure_118 (t0 : Int32) (M : mm_M) : Sim sysR Y_X12_findSure 1 118 [(0, .ref 0)] [.int (t0)] M mm_fV (f_X12_findSure_118 t0 M) := by
  unfold f_X12_findSure_118
  refine sim_istore_n (L' := [(0, .ref 0), (3, .int (t0))]) d_X12_findSure_118 rfl (Nat.le_of_ble_eq_true rfl) rfl ?_
  exact sim_sub [0, 1] rfl (s_X12_findSure_119 mm_fu t0 M)
def f_X12_findSure_106 (x2 : Int32) (t1 : Int32) (M : mm_M) : Option (mm_M) :=
  mm_let (sI M 0 22 t1) (fun M1 =>
  if x2 = 0 then
    f_X12_findSure_118 (1 : Int32) M1
  else
    f_X12_findSure_118 (0 : Int32) M1)
theorem s_X12_findSure_106 (x2 : Int32) (t1 : Int32) (M : mm_M) : Sim sysR Y_X12_findSure 1 106 [(0, .ref 0), (2, .int (x2))] [.int (t1), .ref 0] M mm_fV (f_X12_findSure_106 x2 t1 M) := by
  unfold f_X12_findSure_106
  refine sim_puti d_X12_findSure_106 fl_X12_208 ob_R_0 rfl ?_
  refine sim_nmM (fun M1 => ?_)
  refine sim_iload_n 1 d_X12_findSure_109 rfl rfl ?_
  refine sim_if_ne d_X12_findSure_110 ?_ ?_
  ·
    refine sim_iconst (0 : Int32) d_X12_findSure_117 rfl ?_
    exact sim_sub [0] rfl (s_X12_findSure_118 (0 : Int32) M1)
  ·
    refine sim_iconst (1 : Int32) d_X12_findSure_113 rfl ?_
    refine sim_goto d_X12_findSure_114 ?_
    exact sim_sub [0] rfl (s_X12_findSure_118 (1 : Int32) M1)
def f_X12_findSure_96 (x1 : Int32) (x2 : Int32) (M : mm_M) : Option (mm_M) :=
  if x2 = 0 then
    f_X12_findSure_106 x2 x1 M
  else
    f_X12_findSure_106 x2 (0 : Int32) M
theorem s_X12_findSure_96 (x1 : Int32) (x2 : Int32) (M : mm_M) : Sim sysR Y_X12_findSure 1 96 [(0, .ref 0), (1, .int (x1)), (2, .int (x2))] [] M mm_fV (f_X12_findSure_96 x1 x2 M) := by
  unfold f_X12_findSure_96
  refine sim_aload_n 0 d_X12_findSure_96 rfl rfl ?_
  refine sim_iload_n 2 d_X12_findSure_97 rfl rfl ?_
  refine sim_if_eq d_X12_findSure_98 ?_ ?_
  ·
    refine sim_iload_n 1 d_X12_findSure_105 rfl rfl ?_
    exact sim_sub [0, 2] rfl (s_X12_findSure_106 x2 x1 M)
  ·
    refine sim_iconst (0 : Int32) d_X12_findSure_101 rfl ?_
    refine sim_goto d_X12_findSure_102 ?_
    exact sim_sub [0, 2] rfl (s_X12_findSure_106 x2 (0 : Int32) M)
def f_X12_findSure_23 (x1 : Int32) (t0 : Int32) (M : mm_M) : Option (mm_M) :=
  f_X12_findSure_26 f_X12_findSure_96 mm_fu x1 t0 (0 : Int32) M
theorem s_X12_findSure_23 (x1 : Int32) (t0 : Int32) (M : mm_M) : Sim sysR Y_X12_findSure 1 23 [(0, .ref 0), (1, .int (x1))] [.int (t0)] M mm_fV (f_X12_findSure_23 x1 t0 M) := by
  unfold f_X12_findSure_23
  refine sim_istore_n (L' := [(0, .ref 0), (1, .int (x1)), (2, .int (t0))]) d_X12_findSure_23 rfl (Nat.le_of_ble_eq_true rfl) rfl ?_
  refine sim_iconst (0 : Int32) d_X12_findSure_24 rfl ?_
  refine sim_istore_n (L' := [(0, .ref 0), (1, .int (x1)), (2, .int (t0)), (3, .int ((0 : Int32)))]) d_X12_findSure_25 rfl (Nat.le_of_ble_eq_true rfl) rfl ?_
  exact sim_sub [0, 1, 2, 3] rfl (s_X12_findSure_26 f_X12_findSure_96 s_X12_findSure_96 mm_fu x1 t0 (0 : Int32) M)
def f_X12_findSure (a1 : Int32) (M : mm_M) : Option (mm_M) :=
  mm_let (sI M 0 22 a1) (fun M1 =>
  mm_let (sI M1 0 23 (0 : Int32)) (fun M2 =>
  mm_bi (f_X12_openMany M2) (fun r1 M3 =>
  if a1 < r1 then
    f_X12_findSure_23 a1 (0 : Int32) M3
  else
    f_X12_findSure_23 a1 (1 : Int32) M3)))
theorem s_X12_findSure (a1 : Int32) (M : mm_M) : Sim sysR Y_X12_findSure 1 0 [(0, .ref 0), (1, .int (a1))] [] M mm_fV (f_X12_findSure a1 M) := by
  unfold f_X12_findSure
  refine sim_aload_n 0 d_X12_findSure_0 rfl rfl ?_
  refine sim_iload_n 1 d_X12_findSure_1 rfl rfl ?_
  refine sim_puti d_X12_findSure_2 fl_X12_208 ob_R_0 rfl ?_
  refine sim_nmM (fun M1 => ?_)
  refine sim_aload_n 0 d_X12_findSure_5 rfl rfl ?_
  refine sim_iconst (0 : Int32) d_X12_findSure_6 rfl ?_
  refine sim_puti d_X12_findSure_7 fl_X12_211 ob_R_0 rfl ?_
  refine sim_nmM (fun M2 => ?_)
  refine sim_aload_n 0 d_X12_findSure_10 rfl rfl ?_
  refine sim_callVi Y_X12_openMany 0 [] [] d_X12_findSure_11 lk_X12_214 cv_X12_openMany ob_R_0 rfl (by omega) (Nat.le_of_ble_eq_true rfl) (ct_X12_openMany M2) (fun r1 M3 => ?_)
  refine sim_iload_n 1 d_X12_findSure_14 rfl rfl ?_
  refine sim_icmp_gt d_X12_findSure_15 ?_ ?_
  ·
    refine sim_iconst (0 : Int32) d_X12_findSure_22 rfl ?_
    exact sim_sub [0, 1] rfl (s_X12_findSure_23 a1 (0 : Int32) M3)
  ·
    refine sim_iconst (1 : Int32) d_X12_findSure_18 rfl ?_
    refine sim_goto d_X12_findSure_19 ?_
    exact sim_sub [0, 1] rfl (s_X12_findSure_23 a1 (1 : Int32) M3)
theorem ct_X12_findSure (a1 : Int32) (M : mm_M) : Ct sysR Y_X12_findSure 1 [.ref 0, .int (a1)] M mm_fV (f_X12_findSure a1 M) :=
  ct_of_sim (by decide) rfl (Nat.le_of_ble_eq_true rfl) (s_X12_findSure a1 M)
def f_X12_divisor_6 : Nat → Int64 → Int64 → mm_M → Option (Int64 × mm_M)
  | 0, _, _, _ => none
  | n + 1, x4, x6, M =>
  if (lg_cmp (x6) ((0 : Int64))) = 0 then
    some (x4, M)
  else
    mm_nzL x6 (
    mm_let (x4 - x4 / x6 * x6) (fun v1 =>
    f_X12_divisor_6 n x6 v1 M))
theorem s_X12_divisor_6 (n : Nat) : ∀ (x4 : Int64) (x6 : Int64) (M : mm_M), Sim sysR Y_X12_divisor 0 6 [(4, .long (x4)), (6, .long (x6))] [] M mm_fL (f_X12_divisor_6 n x4 x6 M) := by
  induction n with
  | zero => intros; exact sim_none
  | succ n ih =>
    intro x4 x6 M
    rw [f_X12_divisor_6]
    refine sim_lload 1 d_X12_divisor_6 rfl ?_
    refine sim_lconst (0 : Int64) d_X12_divisor_8 rfl ?_
    refine sim_lcmp d_X12_divisor_9 ?_
    refine sim_if_eq d_X12_divisor_10 ?_ ?_
    ·
      refine sim_lload 0 d_X12_divisor_31 rfl ?_
      exact sim_lret d_X12_divisor_33 rfl
    ·
      refine sim_lload 0 d_X12_divisor_13 rfl ?_
      refine sim_lload 1 d_X12_divisor_15 rfl ?_
      refine sim_lrem d_X12_divisor_17 ?_
      refine sim_nml (fun v1 => ?_)
      refine sim_lstore (L' := [(4, .long (x4)), (6, .long (x6)), (8, .long (v1))]) d_X12_divisor_18 (Nat.le_of_ble_eq_true rfl) rfl ?_
      refine sim_lload 1 d_X12_divisor_20 rfl ?_
      refine sim_lstore (L' := [(6, .long (x6)), (8, .long (v1)), (4, .long (x6))]) d_X12_divisor_22 (Nat.le_of_ble_eq_true rfl) rfl ?_
      refine sim_lload 1 d_X12_divisor_24 rfl ?_
      refine sim_lstore (L' := [(8, .long (v1)), (4, .long (x6)), (6, .long (v1))]) d_X12_divisor_26 (Nat.le_of_ble_eq_true rfl) rfl ?_
      refine sim_goto d_X12_divisor_28 ?_
      exact sim_sub [1, 2] rfl (ih x6 v1 M)
def f_X12_divisor (a1 : Int64) (a2 : Int64) (M : mm_M) : Option (Int64 × mm_M) :=
  f_X12_divisor_6 mm_fu a1 a2 M
theorem s_X12_divisor (a1 : Int64) (a2 : Int64) (M : mm_M) : Sim sysR Y_X12_divisor 0 0 [(0, .long (a1)), (2, .long (a2))] [] M mm_fL (f_X12_divisor a1 a2 M) := by
  unfold f_X12_divisor
  refine sim_lload_n 0 d_X12_divisor_0 rfl rfl ?_
  refine sim_lstore (L' := [(0, .long (a1)), (2, .long (a2)), (4, .long (a1))]) d_X12_divisor_1 (Nat.le_of_ble_eq_true rfl) rfl ?_
  refine sim_lload_n 1 d_X12_divisor_3 rfl rfl ?_
  refine sim_lstore (L' := [(0, .long (a1)), (2, .long (a2)), (4, .long (a1)), (6, .long (a2))]) d_X12_divisor_4 (Nat.le_of_ble_eq_true rfl) rfl ?_
  exact sim_sub [2, 3] rfl (s_X12_divisor_6 mm_fu a1 a2 M)
theorem ct_X12_divisor (a1 : Int64) (a2 : Int64) (M : mm_M) : Ct sysR Y_X12_divisor 0 [.long (a1), .long (a2)] M mm_fL (f_X12_divisor a1 a2 M) :=
  ct_of_sim (by decide) rfl (Nat.le_of_ble_eq_true rfl) (s_X12_divisor a1 a2 M)
def f_X12_below (a1 : Int64) (a2 : Int64) (a3 : Int64) (M : mm_M) : Option (Int64 × mm_M) :=
  if 0 < (lg_cmp (a1) (a2)) then
    mm_nzL a3 (
    some ((((a1 - a2) + a3) - (1 : Int64)) / a3, M))
  else
    some ((0 : Int64), M)
theorem s_X12_below (a1 : Int64) (a2 : Int64) (a3 : Int64) (M : mm_M) : Sim sysR Y_X12_below 0 0 [(0, .long (a1)), (2, .long (a2)), (4, .long (a3))] [] M mm_fL (f_X12_below a1 a2 a3 M) := by
  unfold f_X12_below
  refine sim_lload_n 0 d_X12_below_0 rfl rfl ?_
  refine sim_lload_n 1 d_X12_below_1 rfl rfl ?_
  refine sim_lcmp d_X12_below_2 ?_
  refine sim_if_gt d_X12_below_3 ?_ ?_
  ·
    refine sim_lload_n 0 d_X12_below_10 rfl rfl ?_
    refine sim_lload_n 1 d_X12_below_11 rfl rfl ?_
    refine sim_lsub d_X12_below_12 ?_
    refine sim_lload 2 d_X12_below_13 rfl ?_
    refine sim_ladd d_X12_below_15 ?_
    refine sim_lconst (1 : Int64) d_X12_below_16 rfl ?_
    refine sim_lsub d_X12_below_17 ?_
    refine sim_lload 2 d_X12_below_18 rfl ?_
    refine sim_ldiv d_X12_below_20 ?_
    exact sim_lret d_X12_below_21 rfl
  ·
    refine sim_lconst (0 : Int64) d_X12_below_6 rfl ?_
    refine sim_goto d_X12_below_7 ?_
    exact sim_lret d_X12_below_21 rfl
theorem ct_X12_below (a1 : Int64) (a2 : Int64) (a3 : Int64) (M : mm_M) : Ct sysR Y_X12_below 0 [.long (a1), .long (a2), .long (a3)] M mm_fL (f_X12_below a1 a2 a3 M) :=
  ct_of_sim (by decide) rfl (Nat.le_of_ble_eq_true rfl) (s_X12_below a1 a2 a3 M)
def f_X12_noLetters_2 : Nat → Int32 → mm_M → Option (mm_M)
  | 0, _, _ => none
  | n + 1, x1, M =>
  if (40 : Int32) ≤ x1 then
    some M
  else
    mm_ck x1 40 (
    mm_let (sI M 47 x1.toNatClampNeg ((0 : Int32) &&& 1)) (fun M1 =>
    f_X12_noLetters_2 n (x1 + (1 : Int32)) M1))
theorem s_X12_noLetters_2 (n : Nat) : ∀ (x1 : Int32) (M : mm_M), Sim sysR Y_X12_noLetters 0 2 [(0, .ref 0), (1, .int (x1))] [] M mm_fV (f_X12_noLetters_2 n x1 M) := by
  induction n with
  | zero => intros; exact sim_none
  | succ n ih =>
    intro x1 M
    rw [f_X12_noLetters_2]
    refine sim_iload_n 1 d_X12_noLetters_2 rfl rfl ?_
    refine sim_bipush (40 : Int32) d_X12_noLetters_3 rfl ?_
    refine sim_icmp_ge d_X12_noLetters_5 ?_ ?_
    ·
      exact sim_vret d_X12_noLetters_21 rfl
    ·
      refine sim_aload_n 0 d_X12_noLetters_8 rfl rfl ?_
      refine sim_geta d_X12_noLetters_9 fl_X12_153 ob_R_0 rfl ?_
      refine sim_iload_n 1 d_X12_noLetters_12 rfl rfl ?_
      refine sim_iconst (0 : Int32) d_X12_noLetters_13 rfl ?_
      refine sim_zast d_X12_noLetters_14 ar_R_47 ?_
      refine sim_nmM (fun M1 => ?_)
      refine sim_iinc (v := x1 + (1 : Int32)) (L' := [(0, .ref 0), (1, .int (x1 + (1 : Int32)))]) 1 d_X12_noLetters_15 (Nat.le_of_ble_eq_true rfl) rfl rfl rfl ?_
      refine sim_goto d_X12_noLetters_18 ?_
      exact sim_sub [0, 1] rfl (ih (x1 + (1 : Int32)) M1)
def f_X12_noLetters (M : mm_M) : Option (mm_M) :=
  f_X12_noLetters_2 mm_fu (0 : Int32) M
theorem s_X12_noLetters (M : mm_M) : Sim sysR Y_X12_noLetters 0 0 [(0, .ref 0)] [] M mm_fV (f_X12_noLetters M) := by
  unfold f_X12_noLetters
  refine sim_iconst (0 : Int32) d_X12_noLetters_0 rfl ?_
  refine sim_istore_n (L' := [(0, .ref 0), (1, .int ((0 : Int32)))]) d_X12_noLetters_1 rfl (Nat.le_of_ble_eq_true rfl) rfl ?_
  exact sim_sub [0, 1] rfl (s_X12_noLetters_2 mm_fu (0 : Int32) M)
theorem ct_X12_noLetters (M : mm_M) : Ct sysR Y_X12_noLetters 0 [.ref 0] M mm_fV (f_X12_noLetters M) :=
  ct_of_sim (by decide) rfl (Nat.le_of_ble_eq_true rfl) (s_X12_noLetters M)
def f_X12_draw_321 (k77 : Int32 → Int32 → Int64 → Int32 → mm_M → Option (Int32 × mm_M)) (x2 : Int32) (x3 : Int32) (x4 : Int64) (x6 : Int32) (M : mm_M) : Option (Int32 × mm_M) :=
  k77 x2 x3 x4 (x6 + (1 : Int32)) M
theorem s_X12_draw_321 (k77 : Int32 → Int32 → Int64 → Int32 → mm_M → Option (Int32 × mm_M)) (hk77 : ∀ (x2 : Int32) (x3 : Int32) (x4 : Int64) (x6 : Int32) (M : mm_M), Sim sysR Y_X12_draw 2 77 [(0, .ref 0), (2, .int (x2)), (3, .int (x3)), (4, .long (x4)), (6, .int (x6))] [] M mm_fI (k77 x2 x3 x4 x6 M)) (x2 : Int32) (x3 : Int32) (x4 : Int64) (x6 : Int32) (M : mm_M) : Sim sysR Y_X12_draw 2 321 [(0, .ref 0), (2, .int (x2)), (3, .int (x3)), (4, .long (x4)), (6, .int (x6))] [] M mm_fI (f_X12_draw_321 k77 x2 x3 x4 x6 M) := by
  unfold f_X12_draw_321
  refine sim_iinc (v := x6 + (1 : Int32)) (L' := [(0, .ref 0), (2, .int (x2)), (3, .int (x3)), (4, .long (x4)), (6, .int (x6 + (1 : Int32)))]) 4 d_X12_draw_321 (Nat.le_of_ble_eq_true rfl) rfl rfl rfl ?_
  refine sim_goto d_X12_draw_324 ?_
  exact sim_sub [0, 1, 2, 3, 4] rfl (hk77 x2 x3 x4 (x6 + (1 : Int32)) M)
def f_X12_draw_319 (k77 : Int32 → Int32 → Int64 → Int32 → mm_M → Option (Int32 × mm_M)) (x2 : Int32) (x4 : Int64) (x6 : Int32) (t0 : Int32) (t1 : Int32) (M : mm_M) : Option (Int32 × mm_M) :=
  mm_let (t0 + t1) (fun v1 =>
  f_X12_draw_321 k77 x2 v1 x4 x6 M)
theorem s_X12_draw_319 (k77 : Int32 → Int32 → Int64 → Int32 → mm_M → Option (Int32 × mm_M)) (hk77 : ∀ (x2 : Int32) (x3 : Int32) (x4 : Int64) (x6 : Int32) (M : mm_M), Sim sysR Y_X12_draw 2 77 [(0, .ref 0), (2, .int (x2)), (3, .int (x3)), (4, .long (x4)), (6, .int (x6))] [] M mm_fI (k77 x2 x3 x4 x6 M)) (x2 : Int32) (x4 : Int64) (x6 : Int32) (t0 : Int32) (t1 : Int32) (M : mm_M) : Sim sysR Y_X12_draw 2 319 [(0, .ref 0), (2, .int (x2)), (4, .long (x4)), (6, .int (x6))] [.int (t1), .int (t0)] M mm_fI (f_X12_draw_319 k77 x2 x4 x6 t0 t1 M) := by
  unfold f_X12_draw_319
  refine sim_iadd d_X12_draw_319 ?_
  refine sim_nmi (fun v1 => ?_)
  refine sim_istore_n (L' := [(0, .ref 0), (2, .int (x2)), (4, .long (x4)), (6, .int (x6)), (3, .int (v1))]) d_X12_draw_320 rfl (Nat.le_of_ble_eq_true rfl) rfl ?_
  exact sim_sub [0, 1, 4, 2, 3] rfl (s_X12_draw_321 k77 hk77 x2 v1 x4 x6 M)
def f_X12_draw_303 (k77 : Int32 → Int32 → Int64 → Int32 → mm_M → Option (Int32 × mm_M)) (x2 : Int32) (x3 : Int32) (x4 : Int64) (x6 : Int32) (M : mm_M) : Option (Int32 × mm_M) :=
  mm_ck x6 40 (
  if (mI M 15 x6.toNatClampNeg) = 0 then
    f_X12_draw_319 k77 x2 x4 x6 x3 (0 : Int32) M
  else
    f_X12_draw_319 k77 x2 x4 x6 x3 (1 : Int32) M)
theorem s_X12_draw_303 (k77 : Int32 → Int32 → Int64 → Int32 → mm_M → Option (Int32 × mm_M)) (hk77 : ∀ (x2 : Int32) (x3 : Int32) (x4 : Int64) (x6 : Int32) (M : mm_M), Sim sysR Y_X12_draw 2 77 [(0, .ref 0), (2, .int (x2)), (3, .int (x3)), (4, .long (x4)), (6, .int (x6))] [] M mm_fI (k77 x2 x3 x4 x6 M)) (x2 : Int32) (x3 : Int32) (x4 : Int64) (x6 : Int32) (M : mm_M) : Sim sysR Y_X12_draw 2 303 [(0, .ref 0), (2, .int (x2)), (3, .int (x3)), (4, .long (x4)), (6, .int (x6))] [] M mm_fI (f_X12_draw_303 k77 x2 x3 x4 x6 M) := by
  unfold f_X12_draw_303
  refine sim_iload_n 2 d_X12_draw_303 rfl rfl ?_
  refine sim_aload_n 0 d_X12_draw_304 rfl rfl ?_
  refine sim_geta d_X12_draw_305 fl_X12_53 ob_R_0 rfl ?_
  refine sim_iload 4 d_X12_draw_308 rfl ?_
  refine sim_zald d_X12_draw_310 ar_R_15 ?_
  refine sim_if_eq d_X12_draw_311 ?_ ?_
  ·
    refine sim_iconst (0 : Int32) d_X12_draw_318 rfl ?_
    exact sim_sub [0, 1, 3, 4] rfl (s_X12_draw_319 k77 hk77 x2 x4 x6 x3 (0 : Int32) M)
  ·
    refine sim_iconst (1 : Int32) d_X12_draw_314 rfl ?_
    refine sim_goto d_X12_draw_315 ?_
    exact sim_sub [0, 1, 3, 4] rfl (s_X12_draw_319 k77 hk77 x2 x4 x6 x3 (1 : Int32) M)
def f_X12_draw_298 (k77 : Int32 → Int32 → Int64 → Int32 → mm_M → Option (Int32 × mm_M)) (x2 : Int32) (x3 : Int32) (x6 : Int32) (x8 : Int64) (t1 : Int32) (t2 : Int32) (M : mm_M) : Option (Int32 × mm_M) :=
  mm_ck t1 40 (
  mm_let (sI M 15 t1.toNatClampNeg (t2 &&& 1)) (fun M1 =>
  f_X12_draw_303 k77 x2 x3 x8 x6 M1))
theorem s_X12_draw_298 (k77 : Int32 → Int32 → Int64 → Int32 → mm_M → Option (Int32 × mm_M)) (hk77 : ∀ (x2 : Int32) (x3 : Int32) (x4 : Int64) (x6 : Int32) (M : mm_M), Sim sysR Y_X12_draw 2 77 [(0, .ref 0), (2, .int (x2)), (3, .int (x3)), (4, .long (x4)), (6, .int (x6))] [] M mm_fI (k77 x2 x3 x4 x6 M)) (x2 : Int32) (x3 : Int32) (x6 : Int32) (x8 : Int64) (t1 : Int32) (t2 : Int32) (M : mm_M) : Sim sysR Y_X12_draw 2 298 [(0, .ref 0), (2, .int (x2)), (3, .int (x3)), (6, .int (x6)), (8, .long (x8))] [.int (t2), .int (t1), .ref 15] M mm_fI (f_X12_draw_298 k77 x2 x3 x6 x8 t1 t2 M) := by
  unfold f_X12_draw_298
  refine sim_zast d_X12_draw_298 ar_R_15 ?_
  refine sim_nmM (fun M1 => ?_)
  refine sim_lload 4 d_X12_draw_299 rfl ?_
  refine sim_lstore (L' := [(0, .ref 0), (2, .int (x2)), (3, .int (x3)), (6, .int (x6)), (8, .long (x8)), (4, .long (x8))]) d_X12_draw_301 (Nat.le_of_ble_eq_true rfl) rfl ?_
  exact sim_sub [0, 1, 2, 5, 3] rfl (s_X12_draw_303 k77 hk77 x2 x3 x8 x6 M1)
def f_X12_draw_77 : Nat → Int32 → Int32 → Int64 → Int32 → mm_M → Option (Int32 × mm_M)
  | 0, _, _, _, _, _ => none
  | n + 1, x2, x3, x4, x6, M =>
  if (40 : Int32) ≤ x6 then
    some (x3, M)
  else
    mm_ck x6 40 (
    mm_let (sI M 15 x6.toNatClampNeg ((0 : Int32) &&& 1)) (fun M1 =>
    mm_ck x6 40 (
    mm_let (sI M1 16 x6.toNatClampNeg (0 : Int32)) (fun M2 =>
    mm_ck x6 40 (
    mm_let (sI M2 17 x6.toNatClampNeg (1 : Int32)) (fun M3 =>
    if (mI M3 0 2) ≤ x6 then
      f_X12_draw_321 (f_X12_draw_77 n) x2 x3 x4 x6 M3
    else
      mm_ck x6 40 (
      if (mI M3 6 x6.toNatClampNeg) = 0 then
        f_X12_draw_321 (f_X12_draw_77 n) x2 x3 x4 x6 M3
      else
        mm_ck x6 40 (
        if (mI M3 18 x6.toNatClampNeg) = 0 then
          mm_ck x6 40 (
          mm_bi (f_X12_divisor (((mI M3 0 22) * (mI M3 5 x6.toNatClampNeg)).toInt64) ((mI M3 0 23).toInt64) M3) (fun r1 M4 =>
          mm_let ((r1).toInt32) (fun v1 =>
          mm_ck x6 40 (
          mm_nz v1 (
          mm_ck x6 40 (
          mm_let (sI M4 16 x6.toNatClampNeg (((mI M4 0 22) * (mI M4 5 x6.toNatClampNeg)) / v1)) (fun M5 =>
          mm_nz v1 (
          mm_ck x6 40 (
          mm_let (sI M5 17 x6.toNatClampNeg ((mI M5 0 23) / v1)) (fun M6 =>
          mm_ck x6 40 (
          mm_let (x4 + (((1000 : Int64) * ((mI M6 0 22).toInt64)) * ((mI M6 5 x6.toNatClampNeg).toInt64))) (fun v2 =>
          mm_bi (f_X12_below v2 (((x2).toInt64) * ((mI M6 0 23).toInt64)) ((1000 : Int64) * ((mI M6 0 23).toInt64)) M6) (fun r2 M7 =>
          mm_bi (f_X12_below x4 (((x2).toInt64) * ((mI M7 0 23).toInt64)) ((1000 : Int64) * ((mI M7 0 23).toInt64)) M7) (fun r3 M8 =>
          if (lg_cmp (r2) (r3)) ≤ 0 then
            f_X12_draw_298 (f_X12_draw_77 n) x2 x3 x6 v2 x6 (0 : Int32) M8
          else
            f_X12_draw_298 (f_X12_draw_77 n) x2 x3 x6 v2 x6 (1 : Int32) M8))))))))))))))
        else
          mm_ck x6 40 (
          mm_let (sI M3 15 x6.toNatClampNeg ((1 : Int32) &&& 1)) (fun M9 =>
          mm_ck x6 40 (
          mm_let (sI M9 16 x6.toNatClampNeg (1 : Int32)) (fun M10 =>
          f_X12_draw_303 (f_X12_draw_77 n) x2 x3 x4 x6 M10))))))))))))
theorem s_X12_draw_77 (n : Nat) : ∀ (x2 : Int32) (x3 : Int32) (x4 : Int64) (x6 : Int32) (M : mm_M), Sim sysR Y_X12_draw 2 77 [(0, .ref 0), (2, .int (x2)), (3, .int (x3)), (4, .long (x4)), (6, .int (x6))] [] M mm_fI (f_X12_draw_77 n x2 x3 x4 x6 M) := by
  induction n with
  | zero => intros; exact sim_none
  | succ n ih =>
    intro x2 x3 x4 x6 M
    rw [f_X12_draw_77]
    refine sim_iload 4 d_X12_draw_77 rfl ?_
    refine sim_bipush (40 : Int32) d_X12_draw_79 rfl ?_
    refine sim_icmp_ge d_X12_draw_81 ?_ ?_
    ·
      refine sim_iload_n 2 d_X12_draw_327 rfl rfl ?_
      exact sim_iret d_X12_draw_328 rfl
    ·
      refine sim_aload_n 0 d_X12_draw_84 rfl rfl ?_
      refine sim_geta d_X12_draw_85 fl_X12_53 ob_R_0 rfl ?_
      refine sim_iload 4 d_X12_draw_88 rfl ?_
      refine sim_iconst (0 : Int32) d_X12_draw_90 rfl ?_
      refine sim_zast d_X12_draw_91 ar_R_15 ?_
      refine sim_nmM (fun M1 => ?_)
      refine sim_aload_n 0 d_X12_draw_92 rfl rfl ?_
      refine sim_geta d_X12_draw_93 fl_X12_56 ob_R_0 rfl ?_
      refine sim_iload 4 d_X12_draw_96 rfl ?_
      refine sim_iconst (0 : Int32) d_X12_draw_98 rfl ?_
      refine sim_iast d_X12_draw_99 ar_R_16 ?_
      refine sim_nmM (fun M2 => ?_)
      refine sim_aload_n 0 d_X12_draw_100 rfl rfl ?_
      refine sim_geta d_X12_draw_101 fl_X12_59 ob_R_0 rfl ?_
      refine sim_iload 4 d_X12_draw_104 rfl ?_
      refine sim_iconst (1 : Int32) d_X12_draw_106 rfl ?_
      refine sim_iast d_X12_draw_107 ar_R_17 ?_
      refine sim_nmM (fun M3 => ?_)
      refine sim_iload 4 d_X12_draw_108 rfl ?_
      refine sim_aload_n 0 d_X12_draw_110 rfl rfl ?_
      refine sim_geti d_X12_draw_111 fl_X12_180 ob_R_0 rfl ?_
      refine sim_icmp_ge d_X12_draw_114 ?_ ?_
      ·
        exact sim_sub [0, 1, 2, 3, 4] rfl (s_X12_draw_321 (f_X12_draw_77 n) ih x2 x3 x4 x6 M3)
      ·
        refine sim_aload_n 0 d_X12_draw_117 rfl rfl ?_
        refine sim_geta d_X12_draw_118 fl_X12_25 ob_R_0 rfl ?_
        refine sim_iload 4 d_X12_draw_121 rfl ?_
        refine sim_zald d_X12_draw_123 ar_R_6 ?_
        refine sim_if_eq d_X12_draw_124 ?_ ?_
        ·
          exact sim_sub [0, 1, 2, 3, 4] rfl (s_X12_draw_321 (f_X12_draw_77 n) ih x2 x3 x4 x6 M3)
        ·
          refine sim_aload_n 0 d_X12_draw_127 rfl rfl ?_
          refine sim_geta d_X12_draw_128 fl_X12_62 ob_R_0 rfl ?_
          refine sim_iload 4 d_X12_draw_131 rfl ?_
          refine sim_zald d_X12_draw_133 ar_R_18 ?_
          refine sim_if_eq d_X12_draw_134 ?_ ?_
          ·
            refine sim_aload_n 0 d_X12_draw_156 rfl rfl ?_
            refine sim_geti d_X12_draw_157 fl_X12_208 ob_R_0 rfl ?_
            refine sim_aload_n 0 d_X12_draw_160 rfl rfl ?_
            refine sim_geta d_X12_draw_161 fl_X12_22 ob_R_0 rfl ?_
            refine sim_iload 4 d_X12_draw_164 rfl ?_
            refine sim_iald d_X12_draw_166 ar_R_5 ?_
            refine sim_imul d_X12_draw_167 ?_
            refine sim_i2l d_X12_draw_168 ?_
            refine sim_aload_n 0 d_X12_draw_169 rfl rfl ?_
            refine sim_geti d_X12_draw_170 fl_X12_211 ob_R_0 rfl ?_
            refine sim_i2l d_X12_draw_173 ?_
            refine sim_callSl Y_X12_divisor 0 [.long (((mI M3 0 22) * (mI M3 5 x6.toNatClampNeg)).toInt64), .long ((mI M3 0 23).toInt64)] [] d_X12_draw_174 lk_X12_229 cs_X12_divisor rfl (by omega) (Nat.le_of_ble_eq_true rfl) (ct_X12_divisor (((mI M3 0 22) * (mI M3 5 x6.toNatClampNeg)).toInt64) ((mI M3 0 23).toInt64) M3) (fun r1 M4 => ?_)
            refine sim_l2i d_X12_draw_177 ?_
            refine sim_nmi (fun v1 => ?_)
            refine sim_istore (L' := [(0, .ref 0), (2, .int (x2)), (3, .int (x3)), (4, .long (x4)), (6, .int (x6)), (7, .int (v1))]) d_X12_draw_178 (Nat.le_of_ble_eq_true rfl) rfl ?_
            refine sim_aload_n 0 d_X12_draw_180 rfl rfl ?_
            refine sim_geta d_X12_draw_181 fl_X12_56 ob_R_0 rfl ?_
            refine sim_iload 4 d_X12_draw_184 rfl ?_
            refine sim_aload_n 0 d_X12_draw_186 rfl rfl ?_
            refine sim_geti d_X12_draw_187 fl_X12_208 ob_R_0 rfl ?_
            refine sim_aload_n 0 d_X12_draw_190 rfl rfl ?_
            refine sim_geta d_X12_draw_191 fl_X12_22 ob_R_0 rfl ?_
            refine sim_iload 4 d_X12_draw_194 rfl ?_
            refine sim_iald d_X12_draw_196 ar_R_5 ?_
            refine sim_imul d_X12_draw_197 ?_
            refine sim_iload 5 d_X12_draw_198 rfl ?_
            refine sim_idiv d_X12_draw_200 ?_
            refine sim_iast d_X12_draw_201 ar_R_16 ?_
            refine sim_nmM (fun M5 => ?_)
            refine sim_aload_n 0 d_X12_draw_202 rfl rfl ?_
            refine sim_geta d_X12_draw_203 fl_X12_59 ob_R_0 rfl ?_
            refine sim_iload 4 d_X12_draw_206 rfl ?_
            refine sim_aload_n 0 d_X12_draw_208 rfl rfl ?_
            refine sim_geti d_X12_draw_209 fl_X12_211 ob_R_0 rfl ?_
            refine sim_iload 5 d_X12_draw_212 rfl ?_
            refine sim_idiv d_X12_draw_214 ?_
            refine sim_iast d_X12_draw_215 ar_R_17 ?_
            refine sim_nmM (fun M6 => ?_)
            refine sim_lload 3 d_X12_draw_216 rfl ?_
            refine sim_ldc2 (1000 : Int64) d_X12_draw_218 kn_X12_233 ?_
            refine sim_aload_n 0 d_X12_draw_221 rfl rfl ?_
            refine sim_geti d_X12_draw_222 fl_X12_208 ob_R_0 rfl ?_
            refine sim_i2l d_X12_draw_225 ?_
            refine sim_lmul d_X12_draw_226 ?_
            refine sim_aload_n 0 d_X12_draw_227 rfl rfl ?_
            refine sim_geta d_X12_draw_228 fl_X12_22 ob_R_0 rfl ?_
            refine sim_iload 4 d_X12_draw_231 rfl ?_
            refine sim_iald d_X12_draw_233 ar_R_5 ?_
            refine sim_i2l d_X12_draw_234 ?_
            refine sim_lmul d_X12_draw_235 ?_
            refine sim_ladd d_X12_draw_236 ?_
            refine sim_nml (fun v2 => ?_)
            refine sim_lstore (L' := [(0, .ref 0), (2, .int (x2)), (3, .int (x3)), (4, .long (x4)), (6, .int (x6)), (7, .int (v1)), (8, .long (v2))]) d_X12_draw_237 (Nat.le_of_ble_eq_true rfl) rfl ?_
            refine sim_aload_n 0 d_X12_draw_239 rfl rfl ?_
            refine sim_geta d_X12_draw_240 fl_X12_53 ob_R_0 rfl ?_
            refine sim_iload 4 d_X12_draw_243 rfl ?_
            refine sim_lload 6 d_X12_draw_245 rfl ?_
            refine sim_iload_n 1 d_X12_draw_247 rfl rfl ?_
            refine sim_i2l d_X12_draw_248 ?_
            refine sim_aload_n 0 d_X12_draw_249 rfl rfl ?_
            refine sim_geti d_X12_draw_250 fl_X12_211 ob_R_0 rfl ?_
            refine sim_i2l d_X12_draw_253 ?_
            refine sim_lmul d_X12_draw_254 ?_
            refine sim_ldc2 (1000 : Int64) d_X12_draw_255 kn_X12_233 ?_
            refine sim_aload_n 0 d_X12_draw_258 rfl rfl ?_
            refine sim_geti d_X12_draw_259 fl_X12_211 ob_R_0 rfl ?_
            refine sim_i2l d_X12_draw_262 ?_
            refine sim_lmul d_X12_draw_263 ?_
            refine sim_callSl Y_X12_below 0 [.long (v2), .long (((x2).toInt64) * ((mI M6 0 23).toInt64)), .long ((1000 : Int64) * ((mI M6 0 23).toInt64))] [.int (x6), .ref 15] d_X12_draw_264 lk_X12_235 cs_X12_below rfl (by omega) (Nat.le_of_ble_eq_true rfl) (ct_X12_below v2 (((x2).toInt64) * ((mI M6 0 23).toInt64)) ((1000 : Int64) * ((mI M6 0 23).toInt64)) M6) (fun r2 M7 => ?_)
            refine sim_lload 3 d_X12_draw_267 rfl ?_
            refine sim_iload_n 1 d_X12_draw_269 rfl rfl ?_
            refine sim_i2l d_X12_draw_270 ?_
            refine sim_aload_n 0 d_X12_draw_271 rfl rfl ?_
            refine sim_geti d_X12_draw_272 fl_X12_211 ob_R_0 rfl ?_
            refine sim_i2l d_X12_draw_275 ?_
            refine sim_lmul d_X12_draw_276 ?_
            refine sim_ldc2 (1000 : Int64) d_X12_draw_277 kn_X12_233 ?_
            refine sim_aload_n 0 d_X12_draw_280 rfl rfl ?_
            refine sim_geti d_X12_draw_281 fl_X12_211 ob_R_0 rfl ?_
            refine sim_i2l d_X12_draw_284 ?_
            refine sim_lmul d_X12_draw_285 ?_
            refine sim_callSl Y_X12_below 0 [.long (x4), .long (((x2).toInt64) * ((mI M7 0 23).toInt64)), .long ((1000 : Int64) * ((mI M7 0 23).toInt64))] [.long (r2), .int (x6), .ref 15] d_X12_draw_286 lk_X12_235 cs_X12_below rfl (by omega) (Nat.le_of_ble_eq_true rfl) (ct_X12_below x4 (((x2).toInt64) * ((mI M7 0 23).toInt64)) ((1000 : Int64) * ((mI M7 0 23).toInt64)) M7) (fun r3 M8 => ?_)
            refine sim_lcmp d_X12_draw_289 ?_
            refine sim_if_le d_X12_draw_290 ?_ ?_
            ·
              refine sim_iconst (0 : Int32) d_X12_draw_297 rfl ?_
              exact sim_sub [0, 1, 2, 4, 6] rfl (s_X12_draw_298 (f_X12_draw_77 n) ih x2 x3 x6 v2 x6 (0 : Int32) M8)
            ·
              refine sim_iconst (1 : Int32) d_X12_draw_293 rfl ?_
              refine sim_goto d_X12_draw_294 ?_
              exact sim_sub [0, 1, 2, 4, 6] rfl (s_X12_draw_298 (f_X12_draw_77 n) ih x2 x3 x6 v2 x6 (1 : Int32) M8)
          ·
            refine sim_aload_n 0 d_X12_draw_137 rfl rfl ?_
            refine sim_geta d_X12_draw_138 fl_X12_53 ob_R_0 rfl ?_
            refine sim_iload 4 d_X12_draw_141 rfl ?_
            refine sim_iconst (1 : Int32) d_X12_draw_143 rfl ?_
            refine sim_zast d_X12_draw_144 ar_R_15 ?_
            refine sim_nmM (fun M9 => ?_)
            refine sim_aload_n 0 d_X12_draw_145 rfl rfl ?_
            refine sim_geta d_X12_draw_146 fl_X12_56 ob_R_0 rfl ?_
            refine sim_iload 4 d_X12_draw_149 rfl ?_
            refine sim_iconst (1 : Int32) d_X12_draw_151 rfl ?_
            refine sim_iast d_X12_draw_152 ar_R_16 ?_
            refine sim_nmM (fun M10 => ?_)
            refine sim_goto d_X12_draw_153 ?_
            exact sim_sub [0, 1, 2, 3, 4] rfl (s_X12_draw_303 (f_X12_draw_77 n) ih x2 x3 x4 x6 M10)
def f_X12_draw_48 (M : mm_M) : Option (Int32 × mm_M) :=
  mm_bi (f_X12_refuse (-6 : Int32) M) (fun r1 M1 =>
  some (r1, M1))
theorem s_X12_draw_48 (M : mm_M) : Sim sysR Y_X12_draw 2 48 [(0, .ref 0)] [] M mm_fI (f_X12_draw_48 M) := by
  unfold f_X12_draw_48
  refine sim_aload_n 0 d_X12_draw_48 rfl rfl ?_
  refine sim_bipush (-6 : Int32) d_X12_draw_49 rfl ?_
  refine sim_callVi Y_X12_refuse 0 [.int ((-6 : Int32))] [] d_X12_draw_51 lk_X12_187 cv_X12_refuse ob_R_0 rfl (by omega) (Nat.le_of_ble_eq_true rfl) (ct_X12_refuse (-6 : Int32) M) (fun r1 M1 => ?_)
  exact sim_iret d_X12_draw_54 rfl
def f_X12_draw_28 (M : mm_M) : Option (Int32 × mm_M) :=
  mm_bi (f_X12_refuse (-4 : Int32) M) (fun r1 M1 =>
  some (r1, M1))
theorem s_X12_draw_28 (M : mm_M) : Sim sysR Y_X12_draw 2 28 [(0, .ref 0)] [] M mm_fI (f_X12_draw_28 M) := by
  unfold f_X12_draw_28
  refine sim_aload_n 0 d_X12_draw_28 rfl rfl ?_
  refine sim_bipush (-4 : Int32) d_X12_draw_29 rfl ?_
  refine sim_callVi Y_X12_refuse 0 [.int ((-4 : Int32))] [] d_X12_draw_31 lk_X12_187 cv_X12_refuse ob_R_0 rfl (by omega) (Nat.le_of_ble_eq_true rfl) (ct_X12_refuse (-4 : Int32) M) (fun r1 M1 => ?_)
  exact sim_iret d_X12_draw_34 rfl
def f_X12_draw (a1 : Int32) (a2 : Int32) (M : mm_M) : Option (Int32 × mm_M) :=
  mm_let (sI M 0 0 (0 : Int32)) (fun M1 =>
  mm_bi (f_X12_openMany M1) (fun r1 M2 =>
  if r1 = 0 then
    mm_bi (f_X12_refuse (-3 : Int32) M2) (fun r2 M6 =>
    some (r2, M6))
  else
    if a1 < (1 : Int32) then
      f_X12_draw_28 M2
    else
      if 0 ≤ a2 then
        if (40 : Int32) < a1 then
          f_X12_draw_48 M2
        else
          if a2 ≤ (999 : Int32) then
            mm_bv (f_X12_findSure a1 M2) (fun M3 =>
            mm_let (sI M3 0 17 (1 : Int32)) (fun M4 =>
            mm_bv (f_X12_noLetters M4) (fun M5 =>
            f_X12_draw_77 mm_fu a2 (0 : Int32) (0 : Int64) (0 : Int32) M5)))
          else
            f_X12_draw_48 M2
      else
        f_X12_draw_28 M2))
theorem s_X12_draw (a1 : Int32) (a2 : Int32) (M : mm_M) : Sim sysR Y_X12_draw 2 0 [(0, .ref 0), (1, .int (a1)), (2, .int (a2))] [] M mm_fI (f_X12_draw a1 a2 M) := by
  unfold f_X12_draw
  refine sim_aload_n 0 d_X12_draw_0 rfl rfl ?_
  refine sim_iconst (0 : Int32) d_X12_draw_1 rfl ?_
  refine sim_puti d_X12_draw_2 fl_X12_177 ob_R_0 rfl ?_
  refine sim_nmM (fun M1 => ?_)
  refine sim_aload_n 0 d_X12_draw_5 rfl rfl ?_
  refine sim_callVi Y_X12_openMany 0 [] [] d_X12_draw_6 lk_X12_214 cv_X12_openMany ob_R_0 rfl (by omega) (Nat.le_of_ble_eq_true rfl) (ct_X12_openMany M1) (fun r1 M2 => ?_)
  refine sim_if_ne d_X12_draw_9 ?_ ?_
  ·
    refine sim_iload_n 1 d_X12_draw_19 rfl rfl ?_
    refine sim_iconst (1 : Int32) d_X12_draw_20 rfl ?_
    refine sim_icmp_lt d_X12_draw_21 ?_ ?_
    ·
      exact sim_sub [0] rfl (s_X12_draw_28 M2)
    ·
      refine sim_iload_n 2 d_X12_draw_24 rfl rfl ?_
      refine sim_if_ge d_X12_draw_25 ?_ ?_
      ·
        refine sim_iload_n 1 d_X12_draw_35 rfl rfl ?_
        refine sim_bipush (40 : Int32) d_X12_draw_36 rfl ?_
        refine sim_icmp_gt d_X12_draw_38 ?_ ?_
        ·
          exact sim_sub [0] rfl (s_X12_draw_48 M2)
        ·
          refine sim_iload_n 2 d_X12_draw_41 rfl rfl ?_
          refine sim_sipush (999 : Int32) d_X12_draw_42 rfl ?_
          refine sim_icmp_le d_X12_draw_45 ?_ ?_
          ·
            refine sim_aload_n 0 d_X12_draw_55 rfl rfl ?_
            refine sim_iload_n 1 d_X12_draw_56 rfl rfl ?_
            refine sim_callVv Y_X12_findSure 1 [.int (a1)] [] d_X12_draw_57 lk_X12_218 cv_X12_findSure ob_R_0 rfl (by omega) (Nat.le_of_ble_eq_true rfl) (ct_X12_findSure a1 M2) (fun M3 => ?_)
            refine sim_aload_n 0 d_X12_draw_60 rfl rfl ?_
            refine sim_iconst (1 : Int32) d_X12_draw_61 rfl ?_
            refine sim_putz d_X12_draw_62 fl_X12_222 ob_R_0 rfl (Or.inr rfl) ?_
            refine sim_nmM (fun M4 => ?_)
            refine sim_aload_n 0 d_X12_draw_65 rfl rfl ?_
            refine sim_callVv Y_X12_noLetters 0 [] [] d_X12_draw_66 lk_X12_226 cv_X12_noLetters ob_R_0 rfl (by omega) (Nat.le_of_ble_eq_true rfl) (ct_X12_noLetters M4) (fun M5 => ?_)
            refine sim_iconst (0 : Int32) d_X12_draw_69 rfl ?_
            refine sim_istore_n (L' := [(0, .ref 0), (1, .int (a1)), (2, .int (a2)), (3, .int ((0 : Int32)))]) d_X12_draw_70 rfl (Nat.le_of_ble_eq_true rfl) rfl ?_
            refine sim_lconst (0 : Int64) d_X12_draw_71 rfl ?_
            refine sim_lstore (L' := [(0, .ref 0), (1, .int (a1)), (2, .int (a2)), (3, .int ((0 : Int32))), (4, .long ((0 : Int64)))]) d_X12_draw_72 (Nat.le_of_ble_eq_true rfl) rfl ?_
            refine sim_iconst (0 : Int32) d_X12_draw_74 rfl ?_
            refine sim_istore (L' := [(0, .ref 0), (1, .int (a1)), (2, .int (a2)), (3, .int ((0 : Int32))), (4, .long ((0 : Int64))), (6, .int ((0 : Int32)))]) d_X12_draw_75 (Nat.le_of_ble_eq_true rfl) rfl ?_
            exact sim_sub [0, 2, 3, 4, 5] rfl (s_X12_draw_77 mm_fu a2 (0 : Int32) (0 : Int64) (0 : Int32) M5)
          ·
            exact sim_sub [0] rfl (s_X12_draw_48 M2)
      ·
        exact sim_sub [0] rfl (s_X12_draw_28 M2)
  ·
    refine sim_aload_n 0 d_X12_draw_12 rfl rfl ?_
    refine sim_bipush (-3 : Int32) d_X12_draw_13 rfl ?_
    refine sim_callVi Y_X12_refuse 0 [.int ((-3 : Int32))] [] d_X12_draw_15 lk_X12_187 cv_X12_refuse ob_R_0 rfl (by omega) (Nat.le_of_ble_eq_true rfl) (ct_X12_refuse (-3 : Int32) M2) (fun r2 M6 => ?_)
    exact sim_iret d_X12_draw_18 rfl
theorem ct_X12_draw (a1 : Int32) (a2 : Int32) (M : mm_M) : Ct sysR Y_X12_draw 2 [.ref 0, .int (a1), .int (a2)] M mm_fI (f_X12_draw a1 a2 M) :=
  ct_of_sim (by decide) rfl (Nat.le_of_ble_eq_true rfl) (s_X12_draw a1 a2 M)
def f_X12_drawn (a1 : Int32) (a2 : Int32) (M : mm_M) : Option (Int32 × mm_M) :=
  mm_let (sI M 0 0 (0 : Int32)) (fun M1 =>
  if (mI M1 0 17) = 0 then
    mm_bi (f_X12_refuse (-5 : Int32) M1) (fun r5 M6 =>
    some (r5, M6))
  else
    mm_bi (f_X12_isShop a1 M1) (fun r1 M2 =>
    if r1 = 0 then
      mm_bi (f_X12_refuse (-1 : Int32) M2) (fun r4 M5 =>
      some (r4, M5))
    else
      mm_bi (f_X12_in a2 (0 : Int32) (2 : Int32) M2) (fun r2 M3 =>
      if r2 = 0 then
        mm_bi (f_X12_refuse (-2 : Int32) M3) (fun r3 M4 =>
        some (r3, M4))
      else
        if a2 = 0 then
          mm_ck a1 40 (
          if (mI M3 15 a1.toNatClampNeg) = 0 then
            some ((0 : Int32), M3)
          else
            some ((1 : Int32), M3))
        else
          if a2 = (1 : Int32) then
            mm_ck a1 40 (
            some (mI M3 16 a1.toNatClampNeg, M3))
          else
            mm_ck a1 40 (
            some (mI M3 17 a1.toNatClampNeg, M3)))))
theorem s_X12_drawn (a1 : Int32) (a2 : Int32) (M : mm_M) : Sim sysR Y_X12_drawn 2 0 [(0, .ref 0), (1, .int (a1)), (2, .int (a2))] [] M mm_fI (f_X12_drawn a1 a2 M) := by
  unfold f_X12_drawn
  refine sim_aload_n 0 d_X12_drawn_0 rfl rfl ?_
  refine sim_iconst (0 : Int32) d_X12_drawn_1 rfl ?_
  refine sim_puti d_X12_drawn_2 fl_X12_177 ob_R_0 rfl ?_
  refine sim_nmM (fun M1 => ?_)
  refine sim_aload_n 0 d_X12_drawn_5 rfl rfl ?_
  refine sim_getz d_X12_drawn_6 fl_X12_222 ob_R_0 rfl ?_
  refine sim_if_ne d_X12_drawn_9 ?_ ?_
  ·
    refine sim_aload_n 0 d_X12_drawn_19 rfl rfl ?_
    refine sim_iload_n 1 d_X12_drawn_20 rfl rfl ?_
    refine sim_callVi Y_X12_isShop 1 [.int (a1)] [] d_X12_drawn_21 lk_X12_194 cv_X12_isShop ob_R_0 rfl (by omega) (Nat.le_of_ble_eq_true rfl) (ct_X12_isShop a1 M1) (fun r1 M2 => ?_)
    refine sim_if_ne d_X12_drawn_24 ?_ ?_
    ·
      refine sim_iload_n 2 d_X12_drawn_33 rfl rfl ?_
      refine sim_iconst (0 : Int32) d_X12_drawn_34 rfl ?_
      refine sim_iconst (2 : Int32) d_X12_drawn_35 rfl ?_
      refine sim_callSi Y_X12_in 0 [.int (a2), .int ((0 : Int32)), .int ((2 : Int32))] [] d_X12_drawn_36 lk_X12_183 cs_X12_in rfl (by omega) (Nat.le_of_ble_eq_true rfl) (ct_X12_in a2 (0 : Int32) (2 : Int32) M2) (fun r2 M3 => ?_)
      refine sim_if_ne d_X12_drawn_39 ?_ ?_
      ·
        refine sim_iload_n 2 d_X12_drawn_49 rfl rfl ?_
        refine sim_if_ne d_X12_drawn_50 ?_ ?_
        ·
          refine sim_iload_n 2 d_X12_drawn_70 rfl rfl ?_
          refine sim_iconst (1 : Int32) d_X12_drawn_71 rfl ?_
          refine sim_icmp_ne d_X12_drawn_72 ?_ ?_
          ·
            refine sim_aload_n 0 d_X12_drawn_84 rfl rfl ?_
            refine sim_geta d_X12_drawn_85 fl_X12_59 ob_R_0 rfl ?_
            refine sim_iload_n 1 d_X12_drawn_88 rfl rfl ?_
            refine sim_iald d_X12_drawn_89 ar_R_17 ?_
            exact sim_iret d_X12_drawn_90 rfl
          ·
            refine sim_aload_n 0 d_X12_drawn_75 rfl rfl ?_
            refine sim_geta d_X12_drawn_76 fl_X12_56 ob_R_0 rfl ?_
            refine sim_iload_n 1 d_X12_drawn_79 rfl rfl ?_
            refine sim_iald d_X12_drawn_80 ar_R_16 ?_
            refine sim_goto d_X12_drawn_81 ?_
            exact sim_iret d_X12_drawn_90 rfl
        ·
          refine sim_aload_n 0 d_X12_drawn_53 rfl rfl ?_
          refine sim_geta d_X12_drawn_54 fl_X12_53 ob_R_0 rfl ?_
          refine sim_iload_n 1 d_X12_drawn_57 rfl rfl ?_
          refine sim_zald d_X12_drawn_58 ar_R_15 ?_
          refine sim_if_eq d_X12_drawn_59 ?_ ?_
          ·
            refine sim_iconst (0 : Int32) d_X12_drawn_66 rfl ?_
            refine sim_goto d_X12_drawn_67 ?_
            exact sim_iret d_X12_drawn_90 rfl
          ·
            refine sim_iconst (1 : Int32) d_X12_drawn_62 rfl ?_
            refine sim_goto d_X12_drawn_63 ?_
            exact sim_iret d_X12_drawn_90 rfl
      ·
        refine sim_aload_n 0 d_X12_drawn_42 rfl rfl ?_
        refine sim_bipush (-2 : Int32) d_X12_drawn_43 rfl ?_
        refine sim_callVi Y_X12_refuse 0 [.int ((-2 : Int32))] [] d_X12_drawn_45 lk_X12_187 cv_X12_refuse ob_R_0 rfl (by omega) (Nat.le_of_ble_eq_true rfl) (ct_X12_refuse (-2 : Int32) M3) (fun r3 M4 => ?_)
        exact sim_iret d_X12_drawn_48 rfl
    ·
      refine sim_aload_n 0 d_X12_drawn_27 rfl rfl ?_
      refine sim_iconst (-1 : Int32) d_X12_drawn_28 rfl ?_
      refine sim_callVi Y_X12_refuse 0 [.int ((-1 : Int32))] [] d_X12_drawn_29 lk_X12_187 cv_X12_refuse ob_R_0 rfl (by omega) (Nat.le_of_ble_eq_true rfl) (ct_X12_refuse (-1 : Int32) M2) (fun r4 M5 => ?_)
      exact sim_iret d_X12_drawn_32 rfl
  ·
    refine sim_aload_n 0 d_X12_drawn_12 rfl rfl ?_
    refine sim_bipush (-5 : Int32) d_X12_drawn_13 rfl ?_
    refine sim_callVi Y_X12_refuse 0 [.int ((-5 : Int32))] [] d_X12_drawn_15 lk_X12_187 cv_X12_refuse ob_R_0 rfl (by omega) (Nat.le_of_ble_eq_true rfl) (ct_X12_refuse (-5 : Int32) M1) (fun r5 M6 => ?_)
    exact sim_iret d_X12_drawn_18 rfl
theorem ct_X12_drawn (a1 : Int32) (a2 : Int32) (M : mm_M) : Ct sysR Y_X12_drawn 2 [.ref 0, .int (a1), .int (a2)] M mm_fI (f_X12_drawn a1 a2 M) :=
  ct_of_sim (by decide) rfl (Nat.le_of_ble_eq_true rfl) (s_X12_drawn a1 a2 M)
def f_X12_addBack (a1 : Int32) (M : mm_M) : Option (mm_M) :=
  mm_ck a1 40 (
  mm_ck a1 40 (
  mm_let (((mL M 0 24) * ((mI M 16 a1.toNatClampNeg).toInt64)) + ((mL M 0 25) * ((mI M 17 a1.toNatClampNeg).toInt64))) (fun v1 =>
  mm_ck a1 40 (
  mm_let ((mL M 0 25) * ((mI M 16 a1.toNatClampNeg).toInt64)) (fun v2 =>
  mm_bi (f_X12_divisor v1 v2 M) (fun r1 M1 =>
  mm_nzL r1 (
  mm_let (sL M1 0 24 (v1 / r1)) (fun M2 =>
  mm_nzL r1 (
  mm_let (sL M2 0 25 (v2 / r1)) (fun M3 =>
  some M3))))))))))
theorem s_X12_addBack (a1 : Int32) (M : mm_M) : Sim sysR Y_X12_addBack 1 0 [(0, .ref 0), (1, .int (a1))] [] M mm_fV (f_X12_addBack a1 M) := by
  unfold f_X12_addBack
  refine sim_aload_n 0 d_X12_addBack_0 rfl rfl ?_
  refine sim_getl d_X12_addBack_1 fl_X12_239 ob_R_0 rfl ?_
  refine sim_aload_n 0 d_X12_addBack_4 rfl rfl ?_
  refine sim_geta d_X12_addBack_5 fl_X12_56 ob_R_0 rfl ?_
  refine sim_iload_n 1 d_X12_addBack_8 rfl rfl ?_
  refine sim_iald d_X12_addBack_9 ar_R_16 ?_
  refine sim_i2l d_X12_addBack_10 ?_
  refine sim_lmul d_X12_addBack_11 ?_
  refine sim_aload_n 0 d_X12_addBack_12 rfl rfl ?_
  refine sim_getl d_X12_addBack_13 fl_X12_243 ob_R_0 rfl ?_
  refine sim_aload_n 0 d_X12_addBack_16 rfl rfl ?_
  refine sim_geta d_X12_addBack_17 fl_X12_59 ob_R_0 rfl ?_
  refine sim_iload_n 1 d_X12_addBack_20 rfl rfl ?_
  refine sim_iald d_X12_addBack_21 ar_R_17 ?_
  refine sim_i2l d_X12_addBack_22 ?_
  refine sim_lmul d_X12_addBack_23 ?_
  refine sim_ladd d_X12_addBack_24 ?_
  refine sim_nml (fun v1 => ?_)
  refine sim_lstore_n (L' := [(0, .ref 0), (1, .int (a1)), (2, .long (v1))]) d_X12_addBack_25 rfl (Nat.le_of_ble_eq_true rfl) rfl ?_
  refine sim_aload_n 0 d_X12_addBack_26 rfl rfl ?_
  refine sim_getl d_X12_addBack_27 fl_X12_243 ob_R_0 rfl ?_
  refine sim_aload_n 0 d_X12_addBack_30 rfl rfl ?_
  refine sim_geta d_X12_addBack_31 fl_X12_56 ob_R_0 rfl ?_
  refine sim_iload_n 1 d_X12_addBack_34 rfl rfl ?_
  refine sim_iald d_X12_addBack_35 ar_R_16 ?_
  refine sim_i2l d_X12_addBack_36 ?_
  refine sim_lmul d_X12_addBack_37 ?_
  refine sim_nml (fun v2 => ?_)
  refine sim_lstore (L' := [(0, .ref 0), (1, .int (a1)), (2, .long (v1)), (4, .long (v2))]) d_X12_addBack_38 (Nat.le_of_ble_eq_true rfl) rfl ?_
  refine sim_lload_n 2 d_X12_addBack_40 rfl rfl ?_
  refine sim_lload 3 d_X12_addBack_41 rfl ?_
  refine sim_callSl Y_X12_divisor 0 [.long (v1), .long (v2)] [] d_X12_addBack_43 lk_X12_229 cs_X12_divisor rfl (by omega) (Nat.le_of_ble_eq_true rfl) (ct_X12_divisor v1 v2 M) (fun r1 M1 => ?_)
  refine sim_lstore (L' := [(0, .ref 0), (1, .int (a1)), (2, .long (v1)), (4, .long (v2)), (6, .long (r1))]) d_X12_addBack_46 (Nat.le_of_ble_eq_true rfl) rfl ?_
  refine sim_aload_n 0 d_X12_addBack_48 rfl rfl ?_
  refine sim_lload_n 2 d_X12_addBack_49 rfl rfl ?_
  refine sim_lload 4 d_X12_addBack_50 rfl ?_
  refine sim_ldiv d_X12_addBack_52 ?_
  refine sim_putl d_X12_addBack_53 fl_X12_239 ob_R_0 rfl ?_
  refine sim_nmM (fun M2 => ?_)
  refine sim_aload_n 0 d_X12_addBack_56 rfl rfl ?_
  refine sim_lload 3 d_X12_addBack_57 rfl ?_
  refine sim_lload 4 d_X12_addBack_59 rfl ?_
  refine sim_ldiv d_X12_addBack_61 ?_
  refine sim_putl d_X12_addBack_62 fl_X12_243 ob_R_0 rfl ?_
  refine sim_nmM (fun M3 => ?_)
  exact sim_vret d_X12_addBack_65 rfl
theorem ct_X12_addBack (a1 : Int32) (M : mm_M) : Ct sysR Y_X12_addBack 1 [.ref 0, .int (a1)] M mm_fV (f_X12_addBack a1 M) :=
  ct_of_sim (by decide) rfl (Nat.le_of_ble_eq_true rfl) (s_X12_addBack a1 M)
def f_X12_countsBy (a1 : Int32) (a2 : Int32) (M : mm_M) : Option (Int32 × mm_M) :=
  mm_ck a1 100 (
  if a2 < (mI M 33 a1.toNatClampNeg) then
    some ((0 : Int32), M)
  else
    mm_ck a1 100 (
    if (mI M 34 a1.toNatClampNeg) < 0 then
      some ((1 : Int32), M)
    else
      mm_ck a1 100 (
      if (mI M 34 a1.toNatClampNeg) ≤ a2 then
        some ((0 : Int32), M)
      else
        some ((1 : Int32), M))))
theorem s_X12_countsBy (a1 : Int32) (a2 : Int32) (M : mm_M) : Sim sysR Y_X12_countsBy 0 0 [(0, .ref 0), (1, .int (a1)), (2, .int (a2))] [] M mm_fI (f_X12_countsBy a1 a2 M) := by
  unfold f_X12_countsBy
  refine sim_aload_n 0 d_X12_countsBy_0 rfl rfl ?_
  refine sim_geta d_X12_countsBy_1 fl_X12_107 ob_R_0 rfl ?_
  refine sim_iload_n 1 d_X12_countsBy_4 rfl rfl ?_
  refine sim_iald d_X12_countsBy_5 ar_R_33 ?_
  refine sim_iload_n 2 d_X12_countsBy_6 rfl rfl ?_
  refine sim_icmp_gt d_X12_countsBy_7 ?_ ?_
  ·
    refine sim_iconst (0 : Int32) d_X12_countsBy_33 rfl ?_
    exact sim_zret d_X12_countsBy_34 rfl rfl
  ·
    refine sim_aload_n 0 d_X12_countsBy_10 rfl rfl ?_
    refine sim_geta d_X12_countsBy_11 fl_X12_110 ob_R_0 rfl ?_
    refine sim_iload_n 1 d_X12_countsBy_14 rfl rfl ?_
    refine sim_iald d_X12_countsBy_15 ar_R_34 ?_
    refine sim_if_lt d_X12_countsBy_16 ?_ ?_
    ·
      refine sim_iconst (1 : Int32) d_X12_countsBy_29 rfl ?_
      refine sim_goto d_X12_countsBy_30 ?_
      exact sim_zret d_X12_countsBy_34 rfl rfl
    ·
      refine sim_aload_n 0 d_X12_countsBy_19 rfl rfl ?_
      refine sim_geta d_X12_countsBy_20 fl_X12_110 ob_R_0 rfl ?_
      refine sim_iload_n 1 d_X12_countsBy_23 rfl rfl ?_
      refine sim_iald d_X12_countsBy_24 ar_R_34 ?_
      refine sim_iload_n 2 d_X12_countsBy_25 rfl rfl ?_
      refine sim_icmp_le d_X12_countsBy_26 ?_ ?_
      ·
        refine sim_iconst (0 : Int32) d_X12_countsBy_33 rfl ?_
        exact sim_zret d_X12_countsBy_34 rfl rfl
      ·
        refine sim_iconst (1 : Int32) d_X12_countsBy_29 rfl ?_
        refine sim_goto d_X12_countsBy_30 ?_
        exact sim_zret d_X12_countsBy_34 rfl rfl
theorem ct_X12_countsBy (a1 : Int32) (a2 : Int32) (M : mm_M) : Ct sysR Y_X12_countsBy 0 [.ref 0, .int (a1), .int (a2)] M mm_fI (f_X12_countsBy a1 a2 M) :=
  ct_of_sim (by decide) rfl (Nat.le_of_ble_eq_true rfl) (s_X12_countsBy a1 a2 M)
def f_X12_topSign (M : mm_M) : Option (Int32 × mm_M) :=
  if (mI M 0 39) = 0 then
    some ((0 : Int32), M)
  else
    mm_ck ((mI M 0 39) - (1 : Int32)) 100 (
    some (mI M 26 ((mI M 0 39) - (1 : Int32)).toNatClampNeg, M))
theorem s_X12_topSign (M : mm_M) : Sim sysR Y_X12_topSign 0 0 [(0, .ref 0)] [] M mm_fI (f_X12_topSign M) := by
  unfold f_X12_topSign
  refine sim_aload_n 0 d_X12_topSign_0 rfl rfl ?_
  refine sim_geti d_X12_topSign_1 fl_X12_287 ob_R_0 rfl ?_
  refine sim_if_ne d_X12_topSign_4 ?_ ?_
  ·
    refine sim_aload_n 0 d_X12_topSign_11 rfl rfl ?_
    refine sim_geta d_X12_topSign_12 fl_X12_86 ob_R_0 rfl ?_
    refine sim_aload_n 0 d_X12_topSign_15 rfl rfl ?_
    refine sim_geti d_X12_topSign_16 fl_X12_287 ob_R_0 rfl ?_
    refine sim_iconst (1 : Int32) d_X12_topSign_19 rfl ?_
    refine sim_isub d_X12_topSign_20 ?_
    refine sim_iald d_X12_topSign_21 ar_R_26 ?_
    exact sim_iret d_X12_topSign_22 rfl
  ·
    refine sim_iconst (0 : Int32) d_X12_topSign_7 rfl ?_
    refine sim_goto d_X12_topSign_8 ?_
    exact sim_iret d_X12_topSign_22 rfl
theorem ct_X12_topSign (M : mm_M) : Ct sysR Y_X12_topSign 0 [.ref 0] M mm_fI (f_X12_topSign M) :=
  ct_of_sim (by decide) rfl (Nat.le_of_ble_eq_true rfl) (s_X12_topSign M)
def f_X12_settle_94 (k0 : Int32 → mm_M → Option (mm_M)) (x1 : Int32) (t1 : Int32) (t2 : Int32) (M : mm_M) : Option (mm_M) :=
  mm_ck t1 100 (
  mm_let (sI M 27 t1.toNatClampNeg (t2 &&& 1)) (fun M1 =>
  mm_let (sI M1 0 41 ((mI M1 0 41) - (1 : Int32))) (fun M2 =>
  mm_let (sI M2 0 39 ((mI M2 0 39) - (1 : Int32))) (fun M3 =>
  k0 x1 M3))))
theorem s_X12_settle_94 (k0 : Int32 → mm_M → Option (mm_M)) (hk0 : ∀ (x1 : Int32) (M : mm_M), Sim sysR Y_X12_settle 1 0 [(0, .ref 0), (1, .int (x1))] [] M mm_fV (k0 x1 M)) (x1 : Int32) (t1 : Int32) (t2 : Int32) (M : mm_M) : Sim sysR Y_X12_settle 1 94 [(0, .ref 0), (1, .int (x1))] [.int (t2), .int (t1), .ref 27] M mm_fV (f_X12_settle_94 k0 x1 t1 t2 M) := by
  unfold f_X12_settle_94
  refine sim_zast d_X12_settle_94 ar_R_27 ?_
  refine sim_nmM (fun M1 => ?_)
  refine sim_aload_n 0 d_X12_settle_95 rfl rfl ?_
  refine sim_dup d_X12_settle_96 rfl ?_
  refine sim_geti d_X12_settle_97 fl_X12_293 ob_R_0 rfl ?_
  refine sim_iconst (1 : Int32) d_X12_settle_100 rfl ?_
  refine sim_isub d_X12_settle_101 ?_
  refine sim_puti d_X12_settle_102 fl_X12_293 ob_R_0 rfl ?_
  refine sim_nmM (fun M2 => ?_)
  refine sim_aload_n 0 d_X12_settle_105 rfl rfl ?_
  refine sim_dup d_X12_settle_106 rfl ?_
  refine sim_geti d_X12_settle_107 fl_X12_287 ob_R_0 rfl ?_
  refine sim_iconst (1 : Int32) d_X12_settle_110 rfl ?_
  refine sim_isub d_X12_settle_111 ?_
  refine sim_puti d_X12_settle_112 fl_X12_287 ob_R_0 rfl ?_
  refine sim_nmM (fun M3 => ?_)
  refine sim_goto d_X12_settle_115 ?_
  exact sim_sub [0, 1] rfl (hk0 x1 M3)
def f_X12_settle_89 (k0 : Int32 → mm_M → Option (mm_M)) (x1 : Int32) (t1 : Int32) (M : mm_M) : Option (mm_M) :=
  f_X12_settle_94 k0 x1 t1 (1 : Int32) M
theorem s_X12_settle_89 (k0 : Int32 → mm_M → Option (mm_M)) (hk0 : ∀ (x1 : Int32) (M : mm_M), Sim sysR Y_X12_settle 1 0 [(0, .ref 0), (1, .int (x1))] [] M mm_fV (k0 x1 M)) (x1 : Int32) (t1 : Int32) (M : mm_M) : Sim sysR Y_X12_settle 1 89 [(0, .ref 0), (1, .int (x1))] [.int (t1), .ref 27] M mm_fV (f_X12_settle_89 k0 x1 t1 M) := by
  unfold f_X12_settle_89
  refine sim_iconst (1 : Int32) d_X12_settle_89 rfl ?_
  refine sim_goto d_X12_settle_90 ?_
  exact sim_sub [0, 1] rfl (s_X12_settle_94 k0 hk0 x1 t1 (1 : Int32) M)
def f_X12_settle_77 (k0 : Int32 → mm_M → Option (mm_M)) (x1 : Int32) (t1 : Int32) (M : mm_M) : Option (mm_M) :=
  f_X12_settle_94 k0 x1 t1 (0 : Int32) M
theorem s_X12_settle_77 (k0 : Int32 → mm_M → Option (mm_M)) (hk0 : ∀ (x1 : Int32) (M : mm_M), Sim sysR Y_X12_settle 1 0 [(0, .ref 0), (1, .int (x1))] [] M mm_fV (k0 x1 M)) (x1 : Int32) (t1 : Int32) (M : mm_M) : Sim sysR Y_X12_settle 1 77 [(0, .ref 0), (1, .int (x1))] [.int (t1), .ref 27] M mm_fV (f_X12_settle_77 k0 x1 t1 M) := by
  unfold f_X12_settle_77
  refine sim_iconst (0 : Int32) d_X12_settle_77 rfl ?_
  refine sim_goto d_X12_settle_78 ?_
  exact sim_sub [0, 1] rfl (s_X12_settle_94 k0 hk0 x1 t1 (0 : Int32) M)
def f_X12_settle_22 (k0 : Int32 → mm_M → Option (mm_M)) (x1 : Int32) (M : mm_M) : Option (mm_M) :=
  mm_ck ((mI M 0 41) - (1 : Int32)) 100 (
  mm_let (mI M 27 ((mI M 0 41) - (1 : Int32)).toNatClampNeg) (fun v1 =>
  mm_ck ((mI M 0 41) - (2 : Int32)) 100 (
  mm_let (mI M 27 ((mI M 0 41) - (2 : Int32)).toNatClampNeg) (fun v2 =>
  mm_bi (f_X12_topSign M) (fun r1 M1 =>
  if r1 = (38 : Int32) then
    if v2 = 0 then
      f_X12_settle_77 k0 x1 ((mI M 0 41) - (2 : Int32)) M1
    else
      if v1 = 0 then
        f_X12_settle_77 k0 x1 ((mI M 0 41) - (2 : Int32)) M1
      else
        f_X12_settle_94 k0 x1 ((mI M 0 41) - (2 : Int32)) (1 : Int32) M1
  else
    if v2 = 0 then
      if v1 = 0 then
        f_X12_settle_94 k0 x1 ((mI M 0 41) - (2 : Int32)) (0 : Int32) M1
      else
        f_X12_settle_89 k0 x1 ((mI M 0 41) - (2 : Int32)) M1
    else
      f_X12_settle_89 k0 x1 ((mI M 0 41) - (2 : Int32)) M1)))))
theorem s_X12_settle_22 (k0 : Int32 → mm_M → Option (mm_M)) (hk0 : ∀ (x1 : Int32) (M : mm_M), Sim sysR Y_X12_settle 1 0 [(0, .ref 0), (1, .int (x1))] [] M mm_fV (k0 x1 M)) (x1 : Int32) (M : mm_M) : Sim sysR Y_X12_settle 1 22 [(0, .ref 0), (1, .int (x1))] [] M mm_fV (f_X12_settle_22 k0 x1 M) := by
  unfold f_X12_settle_22
  refine sim_aload_n 0 d_X12_settle_22 rfl rfl ?_
  refine sim_geta d_X12_settle_23 fl_X12_89 ob_R_0 rfl ?_
  refine sim_aload_n 0 d_X12_settle_26 rfl rfl ?_
  refine sim_geti d_X12_settle_27 fl_X12_293 ob_R_0 rfl ?_
  refine sim_iconst (1 : Int32) d_X12_settle_30 rfl ?_
  refine sim_isub d_X12_settle_31 ?_
  refine sim_zald d_X12_settle_32 ar_R_27 ?_
  refine sim_nmi (fun v1 => ?_)
  refine sim_istore_n (L' := [(0, .ref 0), (1, .int (x1)), (2, .int (v1))]) d_X12_settle_33 rfl (Nat.le_of_ble_eq_true rfl) rfl ?_
  refine sim_aload_n 0 d_X12_settle_34 rfl rfl ?_
  refine sim_geta d_X12_settle_35 fl_X12_89 ob_R_0 rfl ?_
  refine sim_aload_n 0 d_X12_settle_38 rfl rfl ?_
  refine sim_geti d_X12_settle_39 fl_X12_293 ob_R_0 rfl ?_
  refine sim_iconst (2 : Int32) d_X12_settle_42 rfl ?_
  refine sim_isub d_X12_settle_43 ?_
  refine sim_zald d_X12_settle_44 ar_R_27 ?_
  refine sim_nmi (fun v2 => ?_)
  refine sim_istore_n (L' := [(0, .ref 0), (1, .int (x1)), (2, .int (v1)), (3, .int (v2))]) d_X12_settle_45 rfl (Nat.le_of_ble_eq_true rfl) rfl ?_
  refine sim_aload_n 0 d_X12_settle_46 rfl rfl ?_
  refine sim_geta d_X12_settle_47 fl_X12_89 ob_R_0 rfl ?_
  refine sim_aload_n 0 d_X12_settle_50 rfl rfl ?_
  refine sim_geti d_X12_settle_51 fl_X12_293 ob_R_0 rfl ?_
  refine sim_iconst (2 : Int32) d_X12_settle_54 rfl ?_
  refine sim_isub d_X12_settle_55 ?_
  refine sim_aload_n 0 d_X12_settle_56 rfl rfl ?_
  refine sim_callVi Y_X12_topSign 0 [] [.int ((mI M 0 41) - (2 : Int32)), .ref 27] d_X12_settle_57 lk_X12_290 cv_X12_topSign ob_R_0 rfl (by omega) (Nat.le_of_ble_eq_true rfl) (ct_X12_topSign M) (fun r1 M1 => ?_)
  refine sim_bipush (38 : Int32) d_X12_settle_60 rfl ?_
  refine sim_icmp_ne d_X12_settle_62 ?_ ?_
  ·
    refine sim_iload_n 3 d_X12_settle_81 rfl rfl ?_
    refine sim_if_ne d_X12_settle_82 ?_ ?_
    ·
      exact sim_sub [0, 1] rfl (s_X12_settle_89 k0 hk0 x1 ((mI M 0 41) - (2 : Int32)) M1)
    ·
      refine sim_iload_n 2 d_X12_settle_85 rfl rfl ?_
      refine sim_if_eq d_X12_settle_86 ?_ ?_
      ·
        refine sim_iconst (0 : Int32) d_X12_settle_93 rfl ?_
        exact sim_sub [0, 1] rfl (s_X12_settle_94 k0 hk0 x1 ((mI M 0 41) - (2 : Int32)) (0 : Int32) M1)
      ·
        exact sim_sub [0, 1] rfl (s_X12_settle_89 k0 hk0 x1 ((mI M 0 41) - (2 : Int32)) M1)
  ·
    refine sim_iload_n 3 d_X12_settle_65 rfl rfl ?_
    refine sim_if_eq d_X12_settle_66 ?_ ?_
    ·
      exact sim_sub [0, 1] rfl (s_X12_settle_77 k0 hk0 x1 ((mI M 0 41) - (2 : Int32)) M1)
    ·
      refine sim_iload_n 2 d_X12_settle_69 rfl rfl ?_
      refine sim_if_eq d_X12_settle_70 ?_ ?_
      ·
        exact sim_sub [0, 1] rfl (s_X12_settle_77 k0 hk0 x1 ((mI M 0 41) - (2 : Int32)) M1)
      ·
        refine sim_iconst (1 : Int32) d_X12_settle_73 rfl ?_
        refine sim_goto d_X12_settle_74 ?_
        exact sim_sub [0, 1] rfl (s_X12_settle_94 k0 hk0 x1 ((mI M 0 41) - (2 : Int32)) (1 : Int32) M1)
def f_X12_settle_L0 : Nat → Int32 → mm_M → Option (mm_M)
  | 0, _, _ => none
  | n + 1, x1, M =>
  mm_bi (f_X12_topSign M) (fun r1 M1 =>
  if r1 = (38 : Int32) then
    f_X12_settle_22 (f_X12_settle_L0 n) x1 M1
  else
    if x1 = 0 then
      some M1
    else
      mm_bi (f_X12_topSign M1) (fun r2 M2 =>
      if r2 = (124 : Int32) then
        f_X12_settle_22 (f_X12_settle_L0 n) x1 M2
      else
        some M2))
theorem s_X12_settle_L0 (n : Nat) : ∀ (x1 : Int32) (M : mm_M), Sim sysR Y_X12_settle 1 0 [(0, .ref 0), (1, .int (x1))] [] M mm_fV (f_X12_settle_L0 n x1 M) := by
  induction n with
  | zero => intros; exact sim_none
  | succ n ih =>
    intro x1 M
    rw [f_X12_settle_L0]
    refine sim_aload_n 0 d_X12_settle_0 rfl rfl ?_
    refine sim_callVi Y_X12_topSign 0 [] [] d_X12_settle_1 lk_X12_290 cv_X12_topSign ob_R_0 rfl (by omega) (Nat.le_of_ble_eq_true rfl) (ct_X12_topSign M) (fun r1 M1 => ?_)
    refine sim_bipush (38 : Int32) d_X12_settle_4 rfl ?_
    refine sim_icmp_eq d_X12_settle_6 ?_ ?_
    ·
      exact sim_sub [0, 1] rfl (s_X12_settle_22 (f_X12_settle_L0 n) ih x1 M1)
    ·
      refine sim_iload_n 1 d_X12_settle_9 rfl rfl ?_
      refine sim_if_eq d_X12_settle_10 ?_ ?_
      ·
        exact sim_vret d_X12_settle_118 rfl
      ·
        refine sim_aload_n 0 d_X12_settle_13 rfl rfl ?_
        refine sim_callVi Y_X12_topSign 0 [] [] d_X12_settle_14 lk_X12_290 cv_X12_topSign ob_R_0 rfl (by omega) (Nat.le_of_ble_eq_true rfl) (ct_X12_topSign M1) (fun r2 M2 => ?_)
        refine sim_bipush (124 : Int32) d_X12_settle_17 rfl ?_
        refine sim_icmp_ne d_X12_settle_19 ?_ ?_
        ·
          exact sim_vret d_X12_settle_118 rfl
        ·
          exact sim_sub [0, 1] rfl (s_X12_settle_22 (f_X12_settle_L0 n) ih x1 M2)
def f_X12_settle (a1 : Int32) (M : mm_M) : Option (mm_M) := f_X12_settle_L0 mm_fu a1 M
theorem s_X12_settle (a1 : Int32) (M : mm_M) : Sim sysR Y_X12_settle 1 0 [(0, .ref 0), (1, .int (a1))] [] M mm_fV (f_X12_settle a1 M) :=
  sim_sub [0, 1] rfl (s_X12_settle_L0 mm_fu a1 M)
theorem ct_X12_settle (a1 : Int32) (M : mm_M) : Ct sysR Y_X12_settle 1 [.ref 0, .int (a1)] M mm_fV (f_X12_settle a1 M) :=
  ct_of_sim (by decide) rfl (Nat.le_of_ble_eq_true rfl) (s_X12_settle a1 M)
def f_X12_settleNots_38 (k0 : mm_M → Option (mm_M)) (t1 : Int32) (t2 : Int32) (M : mm_M) : Option (mm_M) :=
  mm_ck t1 100 (
  mm_let (sI M 27 t1.toNatClampNeg (t2 &&& 1)) (fun M1 =>
  mm_let (sI M1 0 39 ((mI M1 0 39) - (1 : Int32))) (fun M2 =>
  mm_let (sI M2 0 42 ((mI M2 0 42) - (1 : Int32))) (fun M3 =>
  k0 M3))))
theorem s_X12_settleNots_38 (k0 : mm_M → Option (mm_M)) (hk0 : ∀  (M : mm_M), Sim sysR Y_X12_settleNots 1 0 [(0, .ref 0)] [] M mm_fV (k0 M)) (t1 : Int32) (t2 : Int32) (M : mm_M) : Sim sysR Y_X12_settleNots 1 38 [(0, .ref 0)] [.int (t2), .int (t1), .ref 27] M mm_fV (f_X12_settleNots_38 k0 t1 t2 M) := by
  unfold f_X12_settleNots_38
  refine sim_zast d_X12_settleNots_38 ar_R_27 ?_
  refine sim_nmM (fun M1 => ?_)
  refine sim_aload_n 0 d_X12_settleNots_39 rfl rfl ?_
  refine sim_dup d_X12_settleNots_40 rfl ?_
  refine sim_geti d_X12_settleNots_41 fl_X12_287 ob_R_0 rfl ?_
  refine sim_iconst (1 : Int32) d_X12_settleNots_44 rfl ?_
  refine sim_isub d_X12_settleNots_45 ?_
  refine sim_puti d_X12_settleNots_46 fl_X12_287 ob_R_0 rfl ?_
  refine sim_nmM (fun M2 => ?_)
  refine sim_aload_n 0 d_X12_settleNots_49 rfl rfl ?_
  refine sim_dup d_X12_settleNots_50 rfl ?_
  refine sim_geti d_X12_settleNots_51 fl_X12_296 ob_R_0 rfl ?_
  refine sim_iconst (1 : Int32) d_X12_settleNots_54 rfl ?_
  refine sim_isub d_X12_settleNots_55 ?_
  refine sim_puti d_X12_settleNots_56 fl_X12_296 ob_R_0 rfl ?_
  refine sim_nmM (fun M3 => ?_)
  refine sim_goto d_X12_settleNots_59 ?_
  exact sim_sub [0] rfl (hk0 M3)
def f_X12_settleNots_L0 : Nat → mm_M → Option (mm_M)
  | 0, _ => none
  | n + 1, M =>
  mm_bi (f_X12_topSign M) (fun r1 M1 =>
  if r1 = (33 : Int32) then
    mm_ck ((mI M1 0 41) - (1 : Int32)) 100 (
    if (mI M1 27 ((mI M1 0 41) - (1 : Int32)).toNatClampNeg) = 0 then
      f_X12_settleNots_38 (f_X12_settleNots_L0 n) ((mI M1 0 41) - (1 : Int32)) (1 : Int32) M1
    else
      f_X12_settleNots_38 (f_X12_settleNots_L0 n) ((mI M1 0 41) - (1 : Int32)) (0 : Int32) M1)
  else
    some M1)
theorem s_X12_settleNots_L0 (n : Nat) : ∀ (M : mm_M), Sim sysR Y_X12_settleNots 1 0 [(0, .ref 0)] [] M mm_fV (f_X12_settleNots_L0 n M) := by
  induction n with
  | zero => intros; exact sim_none
  | succ n ih =>
    intro M
    rw [f_X12_settleNots_L0]
    refine sim_aload_n 0 d_X12_settleNots_0 rfl rfl ?_
    refine sim_callVi Y_X12_topSign 0 [] [] d_X12_settleNots_1 lk_X12_290 cv_X12_topSign ob_R_0 rfl (by omega) (Nat.le_of_ble_eq_true rfl) (ct_X12_topSign M) (fun r1 M1 => ?_)
    refine sim_bipush (33 : Int32) d_X12_settleNots_4 rfl ?_
    refine sim_icmp_ne d_X12_settleNots_6 ?_ ?_
    ·
      exact sim_vret d_X12_settleNots_62 rfl
    ·
      refine sim_aload_n 0 d_X12_settleNots_9 rfl rfl ?_
      refine sim_geta d_X12_settleNots_10 fl_X12_89 ob_R_0 rfl ?_
      refine sim_aload_n 0 d_X12_settleNots_13 rfl rfl ?_
      refine sim_geti d_X12_settleNots_14 fl_X12_293 ob_R_0 rfl ?_
      refine sim_iconst (1 : Int32) d_X12_settleNots_17 rfl ?_
      refine sim_isub d_X12_settleNots_18 ?_
      refine sim_aload_n 0 d_X12_settleNots_19 rfl rfl ?_
      refine sim_geta d_X12_settleNots_20 fl_X12_89 ob_R_0 rfl ?_
      refine sim_aload_n 0 d_X12_settleNots_23 rfl rfl ?_
      refine sim_geti d_X12_settleNots_24 fl_X12_293 ob_R_0 rfl ?_
      refine sim_iconst (1 : Int32) d_X12_settleNots_27 rfl ?_
      refine sim_isub d_X12_settleNots_28 ?_
      refine sim_zald d_X12_settleNots_29 ar_R_27 ?_
      refine sim_if_ne d_X12_settleNots_30 ?_ ?_
      ·
        refine sim_iconst (0 : Int32) d_X12_settleNots_37 rfl ?_
        exact sim_sub [0] rfl (s_X12_settleNots_38 (f_X12_settleNots_L0 n) ih ((mI M1 0 41) - (1 : Int32)) (0 : Int32) M1)
      ·
        refine sim_iconst (1 : Int32) d_X12_settleNots_33 rfl ?_
        refine sim_goto d_X12_settleNots_34 ?_
        exact sim_sub [0] rfl (s_X12_settleNots_38 (f_X12_settleNots_L0 n) ih ((mI M1 0 41) - (1 : Int32)) (1 : Int32) M1)
def f_X12_settleNots (M : mm_M) : Option (mm_M) := f_X12_settleNots_L0 mm_fu M
theorem s_X12_settleNots (M : mm_M) : Sim sysR Y_X12_settleNots 1 0 [(0, .ref 0)] [] M mm_fV (f_X12_settleNots M) :=
  sim_sub [0] rfl (s_X12_settleNots_L0 mm_fu M)
theorem ct_X12_settleNots (M : mm_M) : Ct sysR Y_X12_settleNots 1 [.ref 0] M mm_fV (f_X12_settleNots M) :=
  ct_of_sim (by decide) rfl (Nat.le_of_ble_eq_true rfl) (s_X12_settleNots M)
def f_X12_wait (a1 : Int32) (M : mm_M) : Option (mm_M) :=
  mm_ck (mI M 0 39) 100 (
  mm_let (sI M 26 (mI M 0 39).toNatClampNeg a1) (fun M1 =>
  mm_let (sI M1 0 39 ((mI M1 0 39) + (1 : Int32))) (fun M2 =>
  mm_let (sI M2 0 35 ((mI M2 0 35) + (1 : Int32))) (fun M3 =>
  some M3))))
theorem s_X12_wait (a1 : Int32) (M : mm_M) : Sim sysR Y_X12_wait 0 0 [(0, .ref 0), (1, .int (a1))] [] M mm_fV (f_X12_wait a1 M) := by
  unfold f_X12_wait
  refine sim_aload_n 0 d_X12_wait_0 rfl rfl ?_
  refine sim_geta d_X12_wait_1 fl_X12_86 ob_R_0 rfl ?_
  refine sim_aload_n 0 d_X12_wait_4 rfl rfl ?_
  refine sim_geti d_X12_wait_5 fl_X12_287 ob_R_0 rfl ?_
  refine sim_iload_n 1 d_X12_wait_8 rfl rfl ?_
  refine sim_iast d_X12_wait_9 ar_R_26 ?_
  refine sim_nmM (fun M1 => ?_)
  refine sim_aload_n 0 d_X12_wait_10 rfl rfl ?_
  refine sim_dup d_X12_wait_11 rfl ?_
  refine sim_geti d_X12_wait_12 fl_X12_287 ob_R_0 rfl ?_
  refine sim_iconst (1 : Int32) d_X12_wait_15 rfl ?_
  refine sim_iadd d_X12_wait_16 ?_
  refine sim_puti d_X12_wait_17 fl_X12_287 ob_R_0 rfl ?_
  refine sim_nmM (fun M2 => ?_)
  refine sim_aload_n 0 d_X12_wait_20 rfl rfl ?_
  refine sim_dup d_X12_wait_21 rfl ?_
  refine sim_geti d_X12_wait_22 fl_X12_263 ob_R_0 rfl ?_
  refine sim_iconst (1 : Int32) d_X12_wait_25 rfl ?_
  refine sim_iadd d_X12_wait_26 ?_
  refine sim_puti d_X12_wait_27 fl_X12_263 ob_R_0 rfl ?_
  refine sim_nmM (fun M3 => ?_)
  exact sim_vret d_X12_wait_30 rfl
theorem ct_X12_wait (a1 : Int32) (M : mm_M) : Ct sysR Y_X12_wait 0 [.ref 0, .int (a1)] M mm_fV (f_X12_wait a1 M) :=
  ct_of_sim (by decide) rfl (Nat.le_of_ble_eq_true rfl) (s_X12_wait a1 M)
def f_X12_byteAt (a1 : Int32) (M : mm_M) : Option (Int32 × mm_M) :=
  if (mI M 0 34) ≤ a1 then
    some ((-1 : Int32), M)
  else
    mm_ck a1 80 (
    some (mI M 24 a1.toNatClampNeg, M))
theorem s_X12_byteAt (a1 : Int32) (M : mm_M) : Sim sysR Y_X12_byteAt 0 0 [(0, .ref 0), (1, .int (a1))] [] M mm_fI (f_X12_byteAt a1 M) := by
  unfold f_X12_byteAt
  refine sim_iload_n 1 d_X12_byteAt_0 rfl rfl ?_
  refine sim_aload_n 0 d_X12_byteAt_1 rfl rfl ?_
  refine sim_geti d_X12_byteAt_2 fl_X12_260 ob_R_0 rfl ?_
  refine sim_icmp_ge d_X12_byteAt_5 ?_ ?_
  ·
    refine sim_iconst (-1 : Int32) d_X12_byteAt_17 rfl ?_
    exact sim_iret d_X12_byteAt_18 rfl
  ·
    refine sim_aload_n 0 d_X12_byteAt_8 rfl rfl ?_
    refine sim_geta d_X12_byteAt_9 fl_X12_80 ob_R_0 rfl ?_
    refine sim_iload_n 1 d_X12_byteAt_12 rfl rfl ?_
    refine sim_iald d_X12_byteAt_13 ar_R_24 ?_
    refine sim_goto d_X12_byteAt_14 ?_
    exact sim_iret d_X12_byteAt_18 rfl
theorem ct_X12_byteAt (a1 : Int32) (M : mm_M) : Ct sysR Y_X12_byteAt 0 [.ref 0, .int (a1)] M mm_fI (f_X12_byteAt a1 M) :=
  ct_of_sim (by decide) rfl (Nat.le_of_ble_eq_true rfl) (s_X12_byteAt a1 M)
def f_X12_isDigit (a1 : Int32) (M : mm_M) : Option (Int32 × mm_M) :=
  mm_bi (f_X12_in a1 (48 : Int32) (57 : Int32) M) (fun r1 M1 =>
  mm_bz r1 (some (r1, M1)))
theorem s_X12_isDigit (a1 : Int32) (M : mm_M) : Sim sysR Y_X12_isDigit 1 0 [(0, .int (a1))] [] M mm_fI (f_X12_isDigit a1 M) := by
  unfold f_X12_isDigit
  refine sim_iload_n 0 d_X12_isDigit_0 rfl rfl ?_
  refine sim_bipush (48 : Int32) d_X12_isDigit_1 rfl ?_
  refine sim_bipush (57 : Int32) d_X12_isDigit_3 rfl ?_
  refine sim_callSi Y_X12_in 0 [.int (a1), .int ((48 : Int32)), .int ((57 : Int32))] [] d_X12_isDigit_5 lk_X12_183 cs_X12_in rfl (by omega) (Nat.le_of_ble_eq_true rfl) (ct_X12_in a1 (48 : Int32) (57 : Int32) M) (fun r1 M1 => ?_)
  exact sim_zretb d_X12_isDigit_8 rfl
theorem ct_X12_isDigit (a1 : Int32) (M : mm_M) : Ct sysR Y_X12_isDigit 1 [.int (a1)] M mm_fI (f_X12_isDigit a1 M) :=
  ct_of_sim (by decide) rfl (Nat.le_of_ble_eq_true rfl) (s_X12_isDigit a1 M)

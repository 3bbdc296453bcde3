def f_X8_peek (M : mm_M) : Option (Int32 × mm_M) :=
  if 0 ≤ (mI M 9 5) then
    some ((-1 : Int32), M)
  else
    if (mI M 9 4) < 0 then
      some ((-1 : Int32), M)
    else
      if (mI M 9 2) ≤ (mI M 9 4) then
        some ((-1 : Int32), M)
      else
        if (mI M 9 4) < (80 : Int32) then
          mm_ck (mI M 9 4) 80 (
          some (mI M 59 (mI M 9 4).toNatClampNeg, M))
        else
          some ((-1 : Int32), M)
theorem s_X8_peek (M : mm_M) : Sim sysC Y_X8_peek 0 0 [(0, .ref 9)] [] M mm_fI (f_X8_peek M) := by
  unfold f_X8_peek
  refine sim_aload_n 0 d_X8_peek_0 rfl rfl ?_
  refine sim_geti d_X8_peek_1 fl_X8_28 ob_C_9 rfl ?_
  refine sim_if_ge d_X8_peek_4 ?_ ?_
  ·
    refine sim_iconst (-1 : Int32) d_X8_peek_34 rfl ?_
    refine sim_goto d_X8_peek_35 ?_
    exact sim_iret d_X8_peek_47 rfl
  ·
    refine sim_aload_n 0 d_X8_peek_7 rfl rfl ?_
    refine sim_geti d_X8_peek_8 fl_X8_25 ob_C_9 rfl ?_
    refine sim_if_lt d_X8_peek_11 ?_ ?_
    ·
      refine sim_iconst (-1 : Int32) d_X8_peek_34 rfl ?_
      refine sim_goto d_X8_peek_35 ?_
      exact sim_iret d_X8_peek_47 rfl
    ·
      refine sim_aload_n 0 d_X8_peek_14 rfl rfl ?_
      refine sim_geti d_X8_peek_15 fl_X8_25 ob_C_9 rfl ?_
      refine sim_aload_n 0 d_X8_peek_18 rfl rfl ?_
      refine sim_geti d_X8_peek_19 fl_X8_18 ob_C_9 rfl ?_
      refine sim_icmp_ge d_X8_peek_22 ?_ ?_
      ·
        refine sim_iconst (-1 : Int32) d_X8_peek_34 rfl ?_
        refine sim_goto d_X8_peek_35 ?_
        exact sim_iret d_X8_peek_47 rfl
      ·
        refine sim_aload_n 0 d_X8_peek_25 rfl rfl ?_
        refine sim_geti d_X8_peek_26 fl_X8_25 ob_C_9 rfl ?_
        refine sim_bipush (80 : Int32) d_X8_peek_29 rfl ?_
        refine sim_icmp_lt d_X8_peek_31 ?_ ?_
        ·
          refine sim_aload_n 0 d_X8_peek_38 rfl rfl ?_
          refine sim_geta d_X8_peek_39 fl_X8_9 ob_C_9 rfl ?_
          refine sim_aload_n 0 d_X8_peek_42 rfl rfl ?_
          refine sim_geti d_X8_peek_43 fl_X8_25 ob_C_9 rfl ?_
          refine sim_iald d_X8_peek_46 ar_C_59 ?_
          exact sim_iret d_X8_peek_47 rfl
        ·
          refine sim_iconst (-1 : Int32) d_X8_peek_34 rfl ?_
          refine sim_goto d_X8_peek_35 ?_
          exact sim_iret d_X8_peek_47 rfl
theorem ct_X8_peek (M : mm_M) : Ct sysC Y_X8_peek 0 [.ref 9] M mm_fI (f_X8_peek M) :=
  ct_of_sim (by decide) rfl (Nat.le_of_ble_eq_true rfl) (s_X8_peek M)
def f_X8_fail (M : mm_M) : Option (mm_M) :=
  if 0 ≤ (mI M 9 5) then
    some M
  else
    mm_let (sI M 9 5 (mI M 9 4)) (fun M1 =>
    some M1)
theorem s_X8_fail (M : mm_M) : Sim sysC Y_X8_fail 0 0 [(0, .ref 9)] [] M mm_fV (f_X8_fail M) := by
  unfold f_X8_fail
  refine sim_aload_n 0 d_X8_fail_0 rfl rfl ?_
  refine sim_geti d_X8_fail_1 fl_X8_28 ob_C_9 rfl ?_
  refine sim_if_ge d_X8_fail_4 ?_ ?_
  ·
    exact sim_vret d_X8_fail_15 rfl
  ·
    refine sim_aload_n 0 d_X8_fail_7 rfl rfl ?_
    refine sim_aload_n 0 d_X8_fail_8 rfl rfl ?_
    refine sim_geti d_X8_fail_9 fl_X8_25 ob_C_9 rfl ?_
    refine sim_puti d_X8_fail_12 fl_X8_28 ob_C_9 rfl ?_
    refine sim_nmM (fun M1 => ?_)
    exact sim_vret d_X8_fail_15 rfl
theorem ct_X8_fail (M : mm_M) : Ct sysC Y_X8_fail 0 [.ref 9] M mm_fV (f_X8_fail M) :=
  ct_of_sim (by decide) rfl (Nat.le_of_ble_eq_true rfl) (s_X8_fail M)
def f_X8_put (a1 : Int32) (M : mm_M) : Option (mm_M) :=
  if (80 : Int32) ≤ (mI M 9 3) then
    some M
  else
    mm_ck (mI M 9 3) 80 (
    mm_let (sI M 60 (mI M 9 3).toNatClampNeg a1) (fun M1 =>
    mm_let (sI M1 9 3 ((mI M1 9 3) + (1 : Int32))) (fun M2 =>
    some M2)))
theorem s_X8_put (a1 : Int32) (M : mm_M) : Sim sysC Y_X8_put 0 0 [(0, .ref 9), (1, .int (a1))] [] M mm_fV (f_X8_put a1 M) := by
  unfold f_X8_put
  refine sim_aload_n 0 d_X8_put_0 rfl rfl ?_
  refine sim_geti d_X8_put_1 fl_X8_22 ob_C_9 rfl ?_
  refine sim_bipush (80 : Int32) d_X8_put_4 rfl ?_
  refine sim_icmp_ge d_X8_put_6 ?_ ?_
  ·
    exact sim_vret d_X8_put_29 rfl
  ·
    refine sim_aload_n 0 d_X8_put_9 rfl rfl ?_
    refine sim_geta d_X8_put_10 fl_X8_15 ob_C_9 rfl ?_
    refine sim_aload_n 0 d_X8_put_13 rfl rfl ?_
    refine sim_geti d_X8_put_14 fl_X8_22 ob_C_9 rfl ?_
    refine sim_iload_n 1 d_X8_put_17 rfl rfl ?_
    refine sim_iast d_X8_put_18 ar_C_60 ?_
    refine sim_nmM (fun M1 => ?_)
    refine sim_aload_n 0 d_X8_put_19 rfl rfl ?_
    refine sim_dup d_X8_put_20 rfl ?_
    refine sim_geti d_X8_put_21 fl_X8_22 ob_C_9 rfl ?_
    refine sim_iconst (1 : Int32) d_X8_put_24 rfl ?_
    refine sim_iadd d_X8_put_25 ?_
    refine sim_puti d_X8_put_26 fl_X8_22 ob_C_9 rfl ?_
    refine sim_nmM (fun M2 => ?_)
    exact sim_vret d_X8_put_29 rfl
theorem ct_X8_put (a1 : Int32) (M : mm_M) : Ct sysC Y_X8_put 0 [.ref 9, .int (a1)] M mm_fV (f_X8_put a1 M) :=
  ct_of_sim (by decide) rfl (Nat.le_of_ble_eq_true rfl) (s_X8_put a1 M)
def f_X8_readDeeper (rp : Int32 → mm_M → Option (mm_M)) (rc : Int32 → mm_M → Option (mm_M)) (a1 : Int32) (a2 : Int32) (M : mm_M) : Option (mm_M) :=
  if a2 < (6 : Int32) then
    mm_let (sI M 9 4 ((mI M 9 4) + (1 : Int32))) (fun M1 =>
    if a1 = (33 : Int32) then
      mm_bv (rp (a2 + (1 : Int32)) M1) (fun M6 =>
      mm_bv (f_X8_put (-3 : Int32) M6) (fun M7 =>
      some M7))
    else
      mm_bv (rc (a2 + (1 : Int32)) M1) (fun M2 =>
      mm_bi (f_X8_peek M2) (fun r1 M3 =>
      if r1 = (41 : Int32) then
        mm_let (sI M3 9 4 ((mI M3 9 4) + (1 : Int32))) (fun M5 =>
        some M5)
      else
        mm_bv (f_X8_fail M3) (fun M4 =>
        some M4))))
  else
    mm_bv (f_X8_fail M) (fun M8 =>
    some M8)
theorem s_X8_readDeeper (rp : Int32 → mm_M → Option (mm_M)) (rc : Int32 → mm_M → Option (mm_M)) (dd : Nat) (hdd : 5 ≤ dd) (e_rp : Nat) (he_rp : e_rp + 1 ≤ dd) (hrp : ∀ (a1 : Int32) (M : mm_M), Ct sysC Y_X8_readPart e_rp [.ref 9, .int (a1)] M mm_fV (rp a1 M)) (e_rc : Nat) (he_rc : e_rc + 1 ≤ dd) (hrc : ∀ (a1 : Int32) (M : mm_M), Ct sysC Y_X8_readChoice e_rc [.ref 9, .int (a1)] M mm_fV (rc a1 M)) (a1 : Int32) (a2 : Int32) (M : mm_M) : Sim sysC Y_X8_readDeeper dd 0 [(0, .ref 9), (1, .int (a1)), (2, .int (a2))] [] M mm_fV (f_X8_readDeeper rp rc a1 a2 M) := by
  unfold f_X8_readDeeper
  refine sim_iload_n 2 d_X8_readDeeper_0 rfl rfl ?_
  refine sim_bipush (6 : Int32) d_X8_readDeeper_1 rfl ?_
  refine sim_icmp_lt d_X8_readDeeper_3 ?_ ?_
  ·
    refine sim_aload_n 0 d_X8_readDeeper_11 rfl rfl ?_
    refine sim_dup d_X8_readDeeper_12 rfl ?_
    refine sim_geti d_X8_readDeeper_13 fl_X8_25 ob_C_9 rfl ?_
    refine sim_iconst (1 : Int32) d_X8_readDeeper_16 rfl ?_
    refine sim_iadd d_X8_readDeeper_17 ?_
    refine sim_puti d_X8_readDeeper_18 fl_X8_25 ob_C_9 rfl ?_
    refine sim_nmM (fun M1 => ?_)
    refine sim_iload_n 1 d_X8_readDeeper_21 rfl rfl ?_
    refine sim_bipush (33 : Int32) d_X8_readDeeper_22 rfl ?_
    refine sim_icmp_ne d_X8_readDeeper_24 ?_ ?_
    ·
      refine sim_aload_n 0 d_X8_readDeeper_41 rfl rfl ?_
      refine sim_iload_n 2 d_X8_readDeeper_42 rfl rfl ?_
      refine sim_iconst (1 : Int32) d_X8_readDeeper_43 rfl ?_
      refine sim_iadd d_X8_readDeeper_44 ?_
      refine sim_callVv Y_X8_readChoice e_rc [.int (a2 + (1 : Int32))] [] d_X8_readDeeper_45 lk_X8_33 cv_X8_readChoice ob_C_9 rfl (by omega) (Nat.le_of_ble_eq_true rfl) (hrc (a2 + (1 : Int32)) M1) (fun M2 => ?_)
      refine sim_aload_n 0 d_X8_readDeeper_48 rfl rfl ?_
      refine sim_callVi Y_X8_peek 0 [] [] d_X8_readDeeper_49 lk_X8_43 cv_X8_peek ob_C_9 rfl (by omega) (Nat.le_of_ble_eq_true rfl) (ct_X8_peek M2) (fun r1 M3 => ?_)
      refine sim_bipush (41 : Int32) d_X8_readDeeper_52 rfl ?_
      refine sim_icmp_ne d_X8_readDeeper_54 ?_ ?_
      ·
        refine sim_aload_n 0 d_X8_readDeeper_70 rfl rfl ?_
        refine sim_callVv Y_X8_fail 0 [] [] d_X8_readDeeper_71 lk_X8_37 cv_X8_fail ob_C_9 rfl (by omega) (Nat.le_of_ble_eq_true rfl) (ct_X8_fail M3) (fun M4 => ?_)
        exact sim_vret d_X8_readDeeper_74 rfl
      ·
        refine sim_aload_n 0 d_X8_readDeeper_57 rfl rfl ?_
        refine sim_dup d_X8_readDeeper_58 rfl ?_
        refine sim_geti d_X8_readDeeper_59 fl_X8_25 ob_C_9 rfl ?_
        refine sim_iconst (1 : Int32) d_X8_readDeeper_62 rfl ?_
        refine sim_iadd d_X8_readDeeper_63 ?_
        refine sim_puti d_X8_readDeeper_64 fl_X8_25 ob_C_9 rfl ?_
        refine sim_nmM (fun M5 => ?_)
        refine sim_goto d_X8_readDeeper_67 ?_
        exact sim_vret d_X8_readDeeper_74 rfl
    ·
      refine sim_aload_n 0 d_X8_readDeeper_27 rfl rfl ?_
      refine sim_iload_n 2 d_X8_readDeeper_28 rfl rfl ?_
      refine sim_iconst (1 : Int32) d_X8_readDeeper_29 rfl ?_
      refine sim_iadd d_X8_readDeeper_30 ?_
      refine sim_callVv Y_X8_readPart e_rp [.int (a2 + (1 : Int32))] [] d_X8_readDeeper_31 lk_X8_50 cv_X8_readPart ob_C_9 rfl (by omega) (Nat.le_of_ble_eq_true rfl) (hrp (a2 + (1 : Int32)) M1) (fun M6 => ?_)
      refine sim_aload_n 0 d_X8_readDeeper_34 rfl rfl ?_
      refine sim_bipush (-3 : Int32) d_X8_readDeeper_35 rfl ?_
      refine sim_callVv Y_X8_put 0 [.int ((-3 : Int32))] [] d_X8_readDeeper_37 lk_X8_47 cv_X8_put ob_C_9 rfl (by omega) (Nat.le_of_ble_eq_true rfl) (ct_X8_put (-3 : Int32) M6) (fun M7 => ?_)
      exact sim_vret d_X8_readDeeper_40 rfl
  ·
    refine sim_aload_n 0 d_X8_readDeeper_6 rfl rfl ?_
    refine sim_callVv Y_X8_fail 0 [] [] d_X8_readDeeper_7 lk_X8_37 cv_X8_fail ob_C_9 rfl (by omega) (Nat.le_of_ble_eq_true rfl) (ct_X8_fail M) (fun M8 => ?_)
    exact sim_vret d_X8_readDeeper_10 rfl
theorem ct_X8_readDeeper (rp : Int32 → mm_M → Option (mm_M)) (rc : Int32 → mm_M → Option (mm_M)) (dd : Nat) (hdd : 5 ≤ dd) (e_rp : Nat) (he_rp : e_rp + 1 ≤ dd) (hrp : ∀ (a1 : Int32) (M : mm_M), Ct sysC Y_X8_readPart e_rp [.ref 9, .int (a1)] M mm_fV (rp a1 M)) (e_rc : Nat) (he_rc : e_rc + 1 ≤ dd) (hrc : ∀ (a1 : Int32) (M : mm_M), Ct sysC Y_X8_readChoice e_rc [.ref 9, .int (a1)] M mm_fV (rc a1 M)) (a1 : Int32) (a2 : Int32) (M : mm_M) : Ct sysC Y_X8_readDeeper dd [.ref 9, .int (a1), .int (a2)] M mm_fV (f_X8_readDeeper rp rc a1 a2 M) :=
  ct_of_sim (by decide) rfl (Nat.le_of_ble_eq_true rfl) (s_X8_readDeeper rp rc dd hdd e_rp he_rp hrp e_rc he_rc hrc a1 a2 M)
def f_X8_isDigit (a1 : Int32) (M : mm_M) : Option (Int32 × mm_M) :=
  if a1 < (48 : Int32) then
    some ((0 : Int32), M)
  else
    if (57 : Int32) < a1 then
      some ((0 : Int32), M)
    else
      some ((1 : Int32), M)
theorem s_X8_isDigit (a1 : Int32) (M : mm_M) : Sim sysC Y_X8_isDigit 0 0 [(0, .int (a1))] [] M mm_fI (f_X8_isDigit a1 M) := by
  unfold f_X8_isDigit
  refine sim_iload_n 0 d_X8_isDigit_0 rfl rfl ?_
  refine sim_bipush (48 : Int32) d_X8_isDigit_1 rfl ?_
  refine sim_icmp_lt d_X8_isDigit_3 ?_ ?_
  ·
    refine sim_iconst (0 : Int32) d_X8_isDigit_16 rfl ?_
    exact sim_zret d_X8_isDigit_17 rfl rfl
  ·
    refine sim_iload_n 0 d_X8_isDigit_6 rfl rfl ?_
    refine sim_bipush (57 : Int32) d_X8_isDigit_7 rfl ?_
    refine sim_icmp_gt d_X8_isDigit_9 ?_ ?_
    ·
      refine sim_iconst (0 : Int32) d_X8_isDigit_16 rfl ?_
      exact sim_zret d_X8_isDigit_17 rfl rfl
    ·
      refine sim_iconst (1 : Int32) d_X8_isDigit_12 rfl ?_
      refine sim_goto d_X8_isDigit_13 ?_
      exact sim_zret d_X8_isDigit_17 rfl rfl
theorem ct_X8_isDigit (a1 : Int32) (M : mm_M) : Ct sysC Y_X8_isDigit 0 [.int (a1)] M mm_fI (f_X8_isDigit a1 M) :=
  ct_of_sim (by decide) rfl (Nat.le_of_ble_eq_true rfl) (s_X8_isDigit a1 M)
def f_X11_isFact (a1 : Int32) (M : mm_M) : Option (Int32 × mm_M) :=
  mm_case a1 [97, 98, 99, 100, 103, 104, 107, 109, 110, 111, 112, 115, 121] [
    some ((1 : Int32), M),
    some ((1 : Int32), M),
    some ((1 : Int32), M),
    some ((1 : Int32), M),
    some ((1 : Int32), M),
    some ((1 : Int32), M),
    some ((1 : Int32), M),
    some ((1 : Int32), M),
    some ((1 : Int32), M),
    some ((1 : Int32), M),
    some ((1 : Int32), M),
    some ((1 : Int32), M),
    some ((1 : Int32), M)]
  (
    some ((0 : Int32), M))
theorem s_X11_isFact (a1 : Int32) (M : mm_M) : Sim sysC Y_X11_isFact 0 0 [(0, .int (a1))] [] M mm_fI (f_X11_isFact a1 M) := by
  unfold f_X11_isFact
  refine sim_iload_n 0 d_X11_isFact_0 rfl rfl ?_
  refine sim_tsw (td := 118) [116, 116, 116, 116, 116, 116, 116, 116, 116, 116, 116, 116, 116] d_X11_isFact_1 (by decide +kernel) ⟨?_, ?_, ?_, ?_, ?_, ?_, ?_, ?_, ?_, ?_, ?_, ?_, ?_, trivial⟩ ?_
  ·
    refine sim_iconst (1 : Int32) d_X11_isFact_116 rfl ?_
    exact sim_zret d_X11_isFact_117 rfl rfl
  ·
    refine sim_iconst (1 : Int32) d_X11_isFact_116 rfl ?_
    exact sim_zret d_X11_isFact_117 rfl rfl
  ·
    refine sim_iconst (1 : Int32) d_X11_isFact_116 rfl ?_
    exact sim_zret d_X11_isFact_117 rfl rfl
  ·
    refine sim_iconst (1 : Int32) d_X11_isFact_116 rfl ?_
    exact sim_zret d_X11_isFact_117 rfl rfl
  ·
    refine sim_iconst (1 : Int32) d_X11_isFact_116 rfl ?_
    exact sim_zret d_X11_isFact_117 rfl rfl
  ·
    refine sim_iconst (1 : Int32) d_X11_isFact_116 rfl ?_
    exact sim_zret d_X11_isFact_117 rfl rfl
  ·
    refine sim_iconst (1 : Int32) d_X11_isFact_116 rfl ?_
    exact sim_zret d_X11_isFact_117 rfl rfl
  ·
    refine sim_iconst (1 : Int32) d_X11_isFact_116 rfl ?_
    exact sim_zret d_X11_isFact_117 rfl rfl
  ·
    refine sim_iconst (1 : Int32) d_X11_isFact_116 rfl ?_
    exact sim_zret d_X11_isFact_117 rfl rfl
  ·
    refine sim_iconst (1 : Int32) d_X11_isFact_116 rfl ?_
    exact sim_zret d_X11_isFact_117 rfl rfl
  ·
    refine sim_iconst (1 : Int32) d_X11_isFact_116 rfl ?_
    exact sim_zret d_X11_isFact_117 rfl rfl
  ·
    refine sim_iconst (1 : Int32) d_X11_isFact_116 rfl ?_
    exact sim_zret d_X11_isFact_117 rfl rfl
  ·
    refine sim_iconst (1 : Int32) d_X11_isFact_116 rfl ?_
    exact sim_zret d_X11_isFact_117 rfl rfl
  ·
    refine sim_iconst (0 : Int32) d_X11_isFact_118 rfl ?_
    exact sim_zret d_X11_isFact_119 rfl rfl
theorem ct_X11_isFact (a1 : Int32) (M : mm_M) : Ct sysC Y_X11_isFact 0 [.int (a1)] M mm_fI (f_X11_isFact a1 M) :=
  ct_of_sim (by decide) rfl (Nat.le_of_ble_eq_true rfl) (s_X11_isFact a1 M)
def f_X8_readUnit_51 (k95 : Int32 → mm_M → Option (mm_M)) : Nat → Int32 → Int32 → mm_M → Option (mm_M)
  | 0, _, _, _ => none
  | n + 1, x2, x3, M =>
  if (4 : Int32) ≤ x3 then
    k95 x2 M
  else
    mm_bi (f_X8_peek M) (fun r1 M1 =>
    mm_bi (f_X8_isDigit r1 M1) (fun r2 M2 =>
    if r2 = 0 then
      k95 x2 M2
    else
      mm_bi (f_X8_peek M2) (fun r3 M3 =>
      mm_let (((x2 * (10 : Int32)) + r3) - (48 : Int32)) (fun v1 =>
      mm_let (sI M3 9 4 ((mI M3 9 4) + (1 : Int32))) (fun M4 =>
      f_X8_readUnit_51 k95 n v1 (x3 + (1 : Int32)) M4)))))
theorem s_X8_readUnit_51 (k95 : Int32 → mm_M → Option (mm_M)) (hk95 : ∀ (x2 : Int32) (M : mm_M), Sim sysC Y_X8_readUnit 1 95 [(0, .ref 9), (2, .int (x2))] [] M mm_fV (k95 x2 M)) (n : Nat) : ∀ (x2 : Int32) (x3 : Int32) (M : mm_M), Sim sysC Y_X8_readUnit 1 51 [(0, .ref 9), (2, .int (x2)), (3, .int (x3))] [] M mm_fV (f_X8_readUnit_51 k95 n x2 x3 M) := by
  induction n with
  | zero => intros; exact sim_none
  | succ n ih =>
    intro x2 x3 M
    rw [f_X8_readUnit_51]
    refine sim_iload_n 2 d_X8_readUnit_51 rfl rfl ?_
    refine sim_iconst (4 : Int32) d_X8_readUnit_52 rfl ?_
    refine sim_icmp_ge d_X8_readUnit_53 ?_ ?_
    ·
      exact sim_sub [0, 1] rfl (hk95 x2 M)
    ·
      refine sim_aload_n 0 d_X8_readUnit_56 rfl rfl ?_
      refine sim_callVi Y_X8_peek 0 [] [] d_X8_readUnit_57 lk_X8_43 cv_X8_peek ob_C_9 rfl (by omega) (Nat.le_of_ble_eq_true rfl) (ct_X8_peek M) (fun r1 M1 => ?_)
      refine sim_callSi Y_X8_isDigit 0 [.int (r1)] [] d_X8_readUnit_60 lk_X8_67 cs_X8_isDigit rfl (by omega) (Nat.le_of_ble_eq_true rfl) (ct_X8_isDigit r1 M1) (fun r2 M2 => ?_)
      refine sim_if_eq d_X8_readUnit_63 ?_ ?_
      ·
        exact sim_sub [0, 1] rfl (hk95 x2 M2)
      ·
        refine sim_iload_n 1 d_X8_readUnit_66 rfl rfl ?_
        refine sim_bipush (10 : Int32) d_X8_readUnit_67 rfl ?_
        refine sim_imul d_X8_readUnit_69 ?_
        refine sim_aload_n 0 d_X8_readUnit_70 rfl rfl ?_
        refine sim_callVi Y_X8_peek 0 [] [.int (x2 * (10 : Int32))] d_X8_readUnit_71 lk_X8_43 cv_X8_peek ob_C_9 rfl (by omega) (Nat.le_of_ble_eq_true rfl) (ct_X8_peek M2) (fun r3 M3 => ?_)
        refine sim_iadd d_X8_readUnit_74 ?_
        refine sim_bipush (48 : Int32) d_X8_readUnit_75 rfl ?_
        refine sim_isub d_X8_readUnit_77 ?_
        refine sim_nmi (fun v1 => ?_)
        refine sim_istore_n (L' := [(0, .ref 9), (3, .int (x3)), (2, .int (v1))]) d_X8_readUnit_78 rfl (Nat.le_of_ble_eq_true rfl) rfl ?_
        refine sim_aload_n 0 d_X8_readUnit_79 rfl rfl ?_
        refine sim_dup d_X8_readUnit_80 rfl ?_
        refine sim_geti d_X8_readUnit_81 fl_X8_25 ob_C_9 rfl ?_
        refine sim_iconst (1 : Int32) d_X8_readUnit_84 rfl ?_
        refine sim_iadd d_X8_readUnit_85 ?_
        refine sim_puti d_X8_readUnit_86 fl_X8_25 ob_C_9 rfl ?_
        refine sim_nmM (fun M4 => ?_)
        refine sim_iinc (v := x3 + (1 : Int32)) (L' := [(0, .ref 9), (2, .int (v1)), (3, .int (x3 + (1 : Int32)))]) 1 d_X8_readUnit_89 (Nat.le_of_ble_eq_true rfl) rfl rfl rfl ?_
        refine sim_goto d_X8_readUnit_92 ?_
        exact sim_sub [0, 1, 2] rfl (ih v1 (x3 + (1 : Int32)) M4)
def f_X8_readUnit_95 (x2 : Int32) (M : mm_M) : Option (mm_M) :=
  mm_bv (f_X8_put x2 M) (fun M1 =>
  some M1)
theorem s_X8_readUnit_95 (x2 : Int32) (M : mm_M) : Sim sysC Y_X8_readUnit 1 95 [(0, .ref 9), (2, .int (x2))] [] M mm_fV (f_X8_readUnit_95 x2 M) := by
  unfold f_X8_readUnit_95
  refine sim_aload_n 0 d_X8_readUnit_95 rfl rfl ?_
  refine sim_iload_n 1 d_X8_readUnit_96 rfl rfl ?_
  refine sim_callVv Y_X8_put 0 [.int (x2)] [] d_X8_readUnit_97 lk_X8_47 cv_X8_put ob_C_9 rfl (by omega) (Nat.le_of_ble_eq_true rfl) (ct_X8_put x2 M) (fun M1 => ?_)
  exact sim_vret d_X8_readUnit_100 rfl
def f_X8_readUnit (M : mm_M) : Option (mm_M) :=
  mm_bi (f_X8_peek M) (fun r1 M1 =>
  mm_bi (f_X11_isFact r1 M1) (fun r2 M2 =>
  if r2 = 0 then
    mm_bi (f_X8_isDigit r1 M2) (fun r3 M3 =>
    if r3 = 0 then
      mm_bv (f_X8_fail M3) (fun M4 =>
      some M4)
    else
      f_X8_readUnit_51 f_X8_readUnit_95 mm_fu (0 : Int32) (0 : Int32) M3)
  else
    mm_bv (f_X8_put (((10000 : Int32) + r1) - (97 : Int32)) M2) (fun M5 =>
    mm_let (sI M5 9 4 ((mI M5 9 4) + (1 : Int32))) (fun M6 =>
    some M6))))
theorem s_X8_readUnit (M : mm_M) : Sim sysC Y_X8_readUnit 1 0 [(0, .ref 9)] [] M mm_fV (f_X8_readUnit M) := by
  unfold f_X8_readUnit
  refine sim_aload_n 0 d_X8_readUnit_0 rfl rfl ?_
  refine sim_callVi Y_X8_peek 0 [] [] d_X8_readUnit_1 lk_X8_43 cv_X8_peek ob_C_9 rfl (by omega) (Nat.le_of_ble_eq_true rfl) (ct_X8_peek M) (fun r1 M1 => ?_)
  refine sim_istore_n (L' := [(0, .ref 9), (1, .int (r1))]) d_X8_readUnit_4 rfl (Nat.le_of_ble_eq_true rfl) rfl ?_
  refine sim_iload_n 1 d_X8_readUnit_5 rfl rfl ?_
  refine sim_callNi Y_X11_isFact 0 [.int (r1)] [] d_X8_readUnit_6 lk_X8_63 cs_X11_isFact rfl (by omega) (Nat.le_of_ble_eq_true rfl) (ct_X11_isFact r1 M1) (fun r2 M2 => ?_)
  refine sim_if_eq d_X8_readUnit_9 ?_ ?_
  ·
    refine sim_iload_n 1 d_X8_readUnit_35 rfl rfl ?_
    refine sim_callSi Y_X8_isDigit 0 [.int (r1)] [] d_X8_readUnit_36 lk_X8_67 cs_X8_isDigit rfl (by omega) (Nat.le_of_ble_eq_true rfl) (ct_X8_isDigit r1 M2) (fun r3 M3 => ?_)
    refine sim_if_ne d_X8_readUnit_39 ?_ ?_
    ·
      refine sim_iconst (0 : Int32) d_X8_readUnit_47 rfl ?_
      refine sim_istore_n (L' := [(0, .ref 9), (1, .int (r1)), (2, .int ((0 : Int32)))]) d_X8_readUnit_48 rfl (Nat.le_of_ble_eq_true rfl) rfl ?_
      refine sim_iconst (0 : Int32) d_X8_readUnit_49 rfl ?_
      refine sim_istore_n (L' := [(0, .ref 9), (1, .int (r1)), (2, .int ((0 : Int32))), (3, .int ((0 : Int32)))]) d_X8_readUnit_50 rfl (Nat.le_of_ble_eq_true rfl) rfl ?_
      exact sim_sub [0, 2, 3] rfl (s_X8_readUnit_51 f_X8_readUnit_95 s_X8_readUnit_95 mm_fu (0 : Int32) (0 : Int32) M3)
    ·
      refine sim_aload_n 0 d_X8_readUnit_42 rfl rfl ?_
      refine sim_callVv Y_X8_fail 0 [] [] d_X8_readUnit_43 lk_X8_37 cv_X8_fail ob_C_9 rfl (by omega) (Nat.le_of_ble_eq_true rfl) (ct_X8_fail M3) (fun M4 => ?_)
      exact sim_vret d_X8_readUnit_46 rfl
  ·
    refine sim_aload_n 0 d_X8_readUnit_12 rfl rfl ?_
    refine sim_sipush (10000 : Int32) d_X8_readUnit_13 rfl ?_
    refine sim_iload_n 1 d_X8_readUnit_16 rfl rfl ?_
    refine sim_iadd d_X8_readUnit_17 ?_
    refine sim_bipush (97 : Int32) d_X8_readUnit_18 rfl ?_
    refine sim_isub d_X8_readUnit_20 ?_
    refine sim_callVv Y_X8_put 0 [.int (((10000 : Int32) + r1) - (97 : Int32))] [] d_X8_readUnit_21 lk_X8_47 cv_X8_put ob_C_9 rfl (by omega) (Nat.le_of_ble_eq_true rfl) (ct_X8_put (((10000 : Int32) + r1) - (97 : Int32)) M2) (fun M5 => ?_)
    refine sim_aload_n 0 d_X8_readUnit_24 rfl rfl ?_
    refine sim_dup d_X8_readUnit_25 rfl ?_
    refine sim_geti d_X8_readUnit_26 fl_X8_25 ob_C_9 rfl ?_
    refine sim_iconst (1 : Int32) d_X8_readUnit_29 rfl ?_
    refine sim_iadd d_X8_readUnit_30 ?_
    refine sim_puti d_X8_readUnit_31 fl_X8_25 ob_C_9 rfl ?_
    refine sim_nmM (fun M6 => ?_)
    exact sim_vret d_X8_readUnit_34 rfl
theorem ct_X8_readUnit (M : mm_M) : Ct sysC Y_X8_readUnit 1 [.ref 9] M mm_fV (f_X8_readUnit M) :=
  ct_of_sim (by decide) rfl (Nat.le_of_ble_eq_true rfl) (s_X8_readUnit M)
def f_X8_readSum_60 (k6 : Int32 → mm_M → Option (mm_M)) (x1 : Int32) (t1 : Int32) (M : mm_M) : Option (mm_M) :=
  mm_bv (f_X8_put t1 M) (fun M1 =>
  k6 (x1 + (1 : Int32)) M1)
theorem s_X8_readSum_60 (k6 : Int32 → mm_M → Option (mm_M)) (hk6 : ∀ (x1 : Int32) (M : mm_M), Sim sysC Y_X8_readSum 2 6 [(0, .ref 9), (1, .int (x1))] [] M mm_fV (k6 x1 M)) (x1 : Int32) (t1 : Int32) (M : mm_M) : Sim sysC Y_X8_readSum 2 60 [(0, .ref 9), (1, .int (x1))] [.int (t1), .ref 9] M mm_fV (f_X8_readSum_60 k6 x1 t1 M) := by
  unfold f_X8_readSum_60
  refine sim_callVv Y_X8_put 0 [.int (t1)] [] d_X8_readSum_60 lk_X8_47 cv_X8_put ob_C_9 rfl (by omega) (Nat.le_of_ble_eq_true rfl) (ct_X8_put t1 M) (fun M1 => ?_)
  refine sim_iinc (v := x1 + (1 : Int32)) (L' := [(0, .ref 9), (1, .int (x1 + (1 : Int32)))]) 1 d_X8_readSum_63 (Nat.le_of_ble_eq_true rfl) rfl rfl rfl ?_
  refine sim_goto d_X8_readSum_66 ?_
  exact sim_sub [0, 1] rfl (hk6 (x1 + (1 : Int32)) M1)
def f_X8_readSum_32 (k6 : Int32 → mm_M → Option (mm_M)) (x1 : Int32) (x2 : Int32) (M : mm_M) : Option (mm_M) :=
  mm_let (sI M 9 4 ((mI M 9 4) + (1 : Int32))) (fun M1 =>
  mm_bv (f_X8_readUnit M1) (fun M2 =>
  if x2 = (43 : Int32) then
    f_X8_readSum_60 k6 x1 (-7 : Int32) M2
  else
    f_X8_readSum_60 k6 x1 (-8 : Int32) M2))
theorem s_X8_readSum_32 (k6 : Int32 → mm_M → Option (mm_M)) (hk6 : ∀ (x1 : Int32) (M : mm_M), Sim sysC Y_X8_readSum 2 6 [(0, .ref 9), (1, .int (x1))] [] M mm_fV (k6 x1 M)) (x1 : Int32) (x2 : Int32) (M : mm_M) : Sim sysC Y_X8_readSum 2 32 [(0, .ref 9), (1, .int (x1)), (2, .int (x2))] [] M mm_fV (f_X8_readSum_32 k6 x1 x2 M) := by
  unfold f_X8_readSum_32
  refine sim_aload_n 0 d_X8_readSum_32 rfl rfl ?_
  refine sim_dup d_X8_readSum_33 rfl ?_
  refine sim_geti d_X8_readSum_34 fl_X8_25 ob_C_9 rfl ?_
  refine sim_iconst (1 : Int32) d_X8_readSum_37 rfl ?_
  refine sim_iadd d_X8_readSum_38 ?_
  refine sim_puti d_X8_readSum_39 fl_X8_25 ob_C_9 rfl ?_
  refine sim_nmM (fun M1 => ?_)
  refine sim_aload_n 0 d_X8_readSum_42 rfl rfl ?_
  refine sim_callVv Y_X8_readUnit 1 [] [] d_X8_readSum_43 lk_X8_60 cv_X8_readUnit ob_C_9 rfl (by omega) (Nat.le_of_ble_eq_true rfl) (ct_X8_readUnit M1) (fun M2 => ?_)
  refine sim_aload_n 0 d_X8_readSum_46 rfl rfl ?_
  refine sim_iload_n 2 d_X8_readSum_47 rfl rfl ?_
  refine sim_bipush (43 : Int32) d_X8_readSum_48 rfl ?_
  refine sim_icmp_ne d_X8_readSum_50 ?_ ?_
  ·
    refine sim_bipush (-8 : Int32) d_X8_readSum_58 rfl ?_
    exact sim_sub [0, 1] rfl (s_X8_readSum_60 k6 hk6 x1 (-8 : Int32) M2)
  ·
    refine sim_bipush (-7 : Int32) d_X8_readSum_53 rfl ?_
    refine sim_goto d_X8_readSum_55 ?_
    exact sim_sub [0, 1] rfl (s_X8_readSum_60 k6 hk6 x1 (-7 : Int32) M2)
def f_X8_readSum_6 : Nat → Int32 → mm_M → Option (mm_M)
  | 0, _, _ => none
  | n + 1, x1, M =>
  if (80 : Int32) ≤ x1 then
    some M
  else
    mm_bi (f_X8_peek M) (fun r1 M1 =>
    if r1 = (43 : Int32) then
      f_X8_readSum_32 (f_X8_readSum_6 n) x1 r1 M1
    else
      if r1 = (45 : Int32) then
        f_X8_readSum_32 (f_X8_readSum_6 n) x1 r1 M1
      else
        some M1)
theorem s_X8_readSum_6 (n : Nat) : ∀ (x1 : Int32) (M : mm_M), Sim sysC Y_X8_readSum 2 6 [(0, .ref 9), (1, .int (x1))] [] M mm_fV (f_X8_readSum_6 n x1 M) := by
  induction n with
  | zero => intros; exact sim_none
  | succ n ih =>
    intro x1 M
    rw [f_X8_readSum_6]
    refine sim_iload_n 1 d_X8_readSum_6 rfl rfl ?_
    refine sim_bipush (80 : Int32) d_X8_readSum_7 rfl ?_
    refine sim_icmp_ge d_X8_readSum_9 ?_ ?_
    ·
      exact sim_vret d_X8_readSum_69 rfl
    ·
      refine sim_aload_n 0 d_X8_readSum_12 rfl rfl ?_
      refine sim_callVi Y_X8_peek 0 [] [] d_X8_readSum_13 lk_X8_43 cv_X8_peek ob_C_9 rfl (by omega) (Nat.le_of_ble_eq_true rfl) (ct_X8_peek M) (fun r1 M1 => ?_)
      refine sim_istore_n (L' := [(0, .ref 9), (1, .int (x1)), (2, .int (r1))]) d_X8_readSum_16 rfl (Nat.le_of_ble_eq_true rfl) rfl ?_
      refine sim_iload_n 2 d_X8_readSum_17 rfl rfl ?_
      refine sim_bipush (43 : Int32) d_X8_readSum_18 rfl ?_
      refine sim_icmp_eq d_X8_readSum_20 ?_ ?_
      ·
        exact sim_sub [0, 1, 2] rfl (s_X8_readSum_32 (f_X8_readSum_6 n) ih x1 r1 M1)
      ·
        refine sim_iload_n 2 d_X8_readSum_23 rfl rfl ?_
        refine sim_bipush (45 : Int32) d_X8_readSum_24 rfl ?_
        refine sim_icmp_eq d_X8_readSum_26 ?_ ?_
        ·
          exact sim_sub [0, 1, 2] rfl (s_X8_readSum_32 (f_X8_readSum_6 n) ih x1 r1 M1)
        ·
          refine sim_goto d_X8_readSum_29 ?_
          exact sim_vret d_X8_readSum_69 rfl
def f_X8_readSum (M : mm_M) : Option (mm_M) :=
  mm_bv (f_X8_readUnit M) (fun M1 =>
  f_X8_readSum_6 mm_fu (0 : Int32) M1)
theorem s_X8_readSum (M : mm_M) : Sim sysC Y_X8_readSum 2 0 [(0, .ref 9)] [] M mm_fV (f_X8_readSum M) := by
  unfold f_X8_readSum
  refine sim_aload_n 0 d_X8_readSum_0 rfl rfl ?_
  refine sim_callVv Y_X8_readUnit 1 [] [] d_X8_readSum_1 lk_X8_60 cv_X8_readUnit ob_C_9 rfl (by omega) (Nat.le_of_ble_eq_true rfl) (ct_X8_readUnit M) (fun M1 => ?_)
  refine sim_iconst (0 : Int32) d_X8_readSum_4 rfl ?_
  refine sim_istore_n (L' := [(0, .ref 9), (1, .int ((0 : Int32)))]) d_X8_readSum_5 rfl (Nat.le_of_ble_eq_true rfl) rfl ?_
  exact sim_sub [0, 1] rfl (s_X8_readSum_6 mm_fu (0 : Int32) M1)
theorem ct_X8_readSum (M : mm_M) : Ct sysC Y_X8_readSum 2 [.ref 9] M mm_fV (f_X8_readSum M) :=
  ct_of_sim (by decide) rfl (Nat.le_of_ble_eq_true rfl) (s_X8_readSum M)
def f_X8_readPart_90 (rd : Int32 → Int32 → mm_M → Option (mm_M)) (t1 : Int32) (M : mm_M) : Option (mm_M) :=
  mm_bv (f_X8_put t1 M) (fun M1 =>
  some M1)
theorem s_X8_readPart_90 (rd : Int32 → Int32 → mm_M → Option (mm_M)) (dd : Nat) (hdd : 5 ≤ dd) (e_rd : Nat) (he_rd : e_rd + 1 ≤ dd) (hrd : ∀ (a1 : Int32) (a2 : Int32) (M : mm_M), Ct sysC Y_X8_readDeeper e_rd [.ref 9, .int (a1), .int (a2)] M mm_fV (rd a1 a2 M)) (t1 : Int32) (M : mm_M) : Sim sysC Y_X8_readPart dd 90 [] [.int (t1), .ref 9] M mm_fV (f_X8_readPart_90 rd t1 M) := by
  unfold f_X8_readPart_90
  refine sim_callVv Y_X8_put 0 [.int (t1)] [] d_X8_readPart_90 lk_X8_47 cv_X8_put ob_C_9 rfl (by omega) (Nat.le_of_ble_eq_true rfl) (ct_X8_put t1 M) (fun M1 => ?_)
  exact sim_vret d_X8_readPart_93 rfl
def f_X8_readPart_51 (rd : Int32 → Int32 → mm_M → Option (mm_M)) (x2 : Int32) (M : mm_M) : Option (mm_M) :=
  mm_let (sI M 9 4 ((mI M 9 4) + (1 : Int32))) (fun M1 =>
  mm_bv (f_X8_readSum M1) (fun M2 =>
  if x2 = (60 : Int32) then
    f_X8_readPart_90 rd (-4 : Int32) M2
  else
    if x2 = (61 : Int32) then
      f_X8_readPart_90 rd (-5 : Int32) M2
    else
      f_X8_readPart_90 rd (-6 : Int32) M2))
theorem s_X8_readPart_51 (rd : Int32 → Int32 → mm_M → Option (mm_M)) (dd : Nat) (hdd : 5 ≤ dd) (e_rd : Nat) (he_rd : e_rd + 1 ≤ dd) (hrd : ∀ (a1 : Int32) (a2 : Int32) (M : mm_M), Ct sysC Y_X8_readDeeper e_rd [.ref 9, .int (a1), .int (a2)] M mm_fV (rd a1 a2 M)) (x2 : Int32) (M : mm_M) : Sim sysC Y_X8_readPart dd 51 [(0, .ref 9), (2, .int (x2))] [] M mm_fV (f_X8_readPart_51 rd x2 M) := by
  unfold f_X8_readPart_51
  refine sim_aload_n 0 d_X8_readPart_51 rfl rfl ?_
  refine sim_dup d_X8_readPart_52 rfl ?_
  refine sim_geti d_X8_readPart_53 fl_X8_25 ob_C_9 rfl ?_
  refine sim_iconst (1 : Int32) d_X8_readPart_56 rfl ?_
  refine sim_iadd d_X8_readPart_57 ?_
  refine sim_puti d_X8_readPart_58 fl_X8_25 ob_C_9 rfl ?_
  refine sim_nmM (fun M1 => ?_)
  refine sim_aload_n 0 d_X8_readPart_61 rfl rfl ?_
  refine sim_callVv Y_X8_readSum 2 [] [] d_X8_readPart_62 lk_X8_57 cv_X8_readSum ob_C_9 rfl (by omega) (Nat.le_of_ble_eq_true rfl) (ct_X8_readSum M1) (fun M2 => ?_)
  refine sim_aload_n 0 d_X8_readPart_65 rfl rfl ?_
  refine sim_iload_n 1 d_X8_readPart_66 rfl rfl ?_
  refine sim_bipush (60 : Int32) d_X8_readPart_67 rfl ?_
  refine sim_icmp_ne d_X8_readPart_69 ?_ ?_
  ·
    refine sim_iload_n 1 d_X8_readPart_77 rfl rfl ?_
    refine sim_bipush (61 : Int32) d_X8_readPart_78 rfl ?_
    refine sim_icmp_ne d_X8_readPart_80 ?_ ?_
    ·
      refine sim_bipush (-6 : Int32) d_X8_readPart_88 rfl ?_
      exact sim_sub [] rfl (s_X8_readPart_90 rd dd hdd e_rd he_rd hrd (-6 : Int32) M2)
    ·
      refine sim_bipush (-5 : Int32) d_X8_readPart_83 rfl ?_
      refine sim_goto d_X8_readPart_85 ?_
      exact sim_sub [] rfl (s_X8_readPart_90 rd dd hdd e_rd he_rd hrd (-5 : Int32) M2)
  ·
    refine sim_bipush (-4 : Int32) d_X8_readPart_72 rfl ?_
    refine sim_goto d_X8_readPart_74 ?_
    exact sim_sub [] rfl (s_X8_readPart_90 rd dd hdd e_rd he_rd hrd (-4 : Int32) M2)
def f_X8_readPart_17 (rd : Int32 → Int32 → mm_M → Option (mm_M)) (x1 : Int32) (x2 : Int32) (M : mm_M) : Option (mm_M) :=
  mm_bv (rd x2 x1 M) (fun M1 =>
  some M1)
theorem s_X8_readPart_17 (rd : Int32 → Int32 → mm_M → Option (mm_M)) (dd : Nat) (hdd : 5 ≤ dd) (e_rd : Nat) (he_rd : e_rd + 1 ≤ dd) (hrd : ∀ (a1 : Int32) (a2 : Int32) (M : mm_M), Ct sysC Y_X8_readDeeper e_rd [.ref 9, .int (a1), .int (a2)] M mm_fV (rd a1 a2 M)) (x1 : Int32) (x2 : Int32) (M : mm_M) : Sim sysC Y_X8_readPart dd 17 [(0, .ref 9), (1, .int (x1)), (2, .int (x2))] [] M mm_fV (f_X8_readPart_17 rd x1 x2 M) := by
  unfold f_X8_readPart_17
  refine sim_aload_n 0 d_X8_readPart_17 rfl rfl ?_
  refine sim_iload_n 2 d_X8_readPart_18 rfl rfl ?_
  refine sim_iload_n 1 d_X8_readPart_19 rfl rfl ?_
  refine sim_callVv Y_X8_readDeeper e_rd [.int (x2), .int (x1)] [] d_X8_readPart_20 lk_X8_53 cv_X8_readDeeper ob_C_9 rfl (by omega) (Nat.le_of_ble_eq_true rfl) (hrd x2 x1 M) (fun M1 => ?_)
  exact sim_vret d_X8_readPart_23 rfl
def f_X8_readPart (rd : Int32 → Int32 → mm_M → Option (mm_M)) (a1 : Int32) (M : mm_M) : Option (mm_M) :=
  mm_bi (f_X8_peek M) (fun r1 M1 =>
  if r1 = (33 : Int32) then
    f_X8_readPart_17 rd a1 r1 M1
  else
    if r1 = (40 : Int32) then
      f_X8_readPart_17 rd a1 r1 M1
    else
      mm_bv (f_X8_readSum M1) (fun M2 =>
      mm_bi (f_X8_peek M2) (fun r2 M3 =>
      if r2 = (60 : Int32) then
        f_X8_readPart_51 rd r2 M3
      else
        if r2 = (61 : Int32) then
          f_X8_readPart_51 rd r2 M3
        else
          if r2 = (62 : Int32) then
            f_X8_readPart_51 rd r2 M3
          else
            some M3)))
theorem s_X8_readPart (rd : Int32 → Int32 → mm_M → Option (mm_M)) (dd : Nat) (hdd : 5 ≤ dd) (e_rd : Nat) (he_rd : e_rd + 1 ≤ dd) (hrd : ∀ (a1 : Int32) (a2 : Int32) (M : mm_M), Ct sysC Y_X8_readDeeper e_rd [.ref 9, .int (a1), .int (a2)] M mm_fV (rd a1 a2 M)) (a1 : Int32) (M : mm_M) : Sim sysC Y_X8_readPart dd 0 [(0, .ref 9), (1, .int (a1))] [] M mm_fV (f_X8_readPart rd a1 M) := by
  unfold f_X8_readPart
  refine sim_aload_n 0 d_X8_readPart_0 rfl rfl ?_
  refine sim_callVi Y_X8_peek 0 [] [] d_X8_readPart_1 lk_X8_43 cv_X8_peek ob_C_9 rfl (by omega) (Nat.le_of_ble_eq_true rfl) (ct_X8_peek M) (fun r1 M1 => ?_)
  refine sim_istore_n (L' := [(0, .ref 9), (1, .int (a1)), (2, .int (r1))]) d_X8_readPart_4 rfl (Nat.le_of_ble_eq_true rfl) rfl ?_
  refine sim_iload_n 2 d_X8_readPart_5 rfl rfl ?_
  refine sim_bipush (33 : Int32) d_X8_readPart_6 rfl ?_
  refine sim_icmp_eq d_X8_readPart_8 ?_ ?_
  ·
    exact sim_sub [0, 1, 2] rfl (s_X8_readPart_17 rd dd hdd e_rd he_rd hrd a1 r1 M1)
  ·
    refine sim_iload_n 2 d_X8_readPart_11 rfl rfl ?_
    refine sim_bipush (40 : Int32) d_X8_readPart_12 rfl ?_
    refine sim_icmp_ne d_X8_readPart_14 ?_ ?_
    ·
      refine sim_aload_n 0 d_X8_readPart_24 rfl rfl ?_
      refine sim_callVv Y_X8_readSum 2 [] [] d_X8_readPart_25 lk_X8_57 cv_X8_readSum ob_C_9 rfl (by omega) (Nat.le_of_ble_eq_true rfl) (ct_X8_readSum M1) (fun M2 => ?_)
      refine sim_aload_n 0 d_X8_readPart_28 rfl rfl ?_
      refine sim_callVi Y_X8_peek 0 [] [] d_X8_readPart_29 lk_X8_43 cv_X8_peek ob_C_9 rfl (by omega) (Nat.le_of_ble_eq_true rfl) (ct_X8_peek M2) (fun r2 M3 => ?_)
      refine sim_istore_n (L' := [(0, .ref 9), (1, .int (a1)), (2, .int (r2))]) d_X8_readPart_32 rfl (Nat.le_of_ble_eq_true rfl) rfl ?_
      refine sim_iload_n 2 d_X8_readPart_33 rfl rfl ?_
      refine sim_bipush (60 : Int32) d_X8_readPart_34 rfl ?_
      refine sim_icmp_eq d_X8_readPart_36 ?_ ?_
      ·
        exact sim_sub [0, 2] rfl (s_X8_readPart_51 rd dd hdd e_rd he_rd hrd r2 M3)
      ·
        refine sim_iload_n 2 d_X8_readPart_39 rfl rfl ?_
        refine sim_bipush (61 : Int32) d_X8_readPart_40 rfl ?_
        refine sim_icmp_eq d_X8_readPart_42 ?_ ?_
        ·
          exact sim_sub [0, 2] rfl (s_X8_readPart_51 rd dd hdd e_rd he_rd hrd r2 M3)
        ·
          refine sim_iload_n 2 d_X8_readPart_45 rfl rfl ?_
          refine sim_bipush (62 : Int32) d_X8_readPart_46 rfl ?_
          refine sim_icmp_ne d_X8_readPart_48 ?_ ?_
          ·
            exact sim_vret d_X8_readPart_93 rfl
          ·
            exact sim_sub [0, 2] rfl (s_X8_readPart_51 rd dd hdd e_rd he_rd hrd r2 M3)
    ·
      exact sim_sub [0, 1, 2] rfl (s_X8_readPart_17 rd dd hdd e_rd he_rd hrd a1 r1 M1)
theorem ct_X8_readPart (rd : Int32 → Int32 → mm_M → Option (mm_M)) (dd : Nat) (hdd : 5 ≤ dd) (e_rd : Nat) (he_rd : e_rd + 1 ≤ dd) (hrd : ∀ (a1 : Int32) (a2 : Int32) (M : mm_M), Ct sysC Y_X8_readDeeper e_rd [.ref 9, .int (a1), .int (a2)] M mm_fV (rd a1 a2 M)) (a1 : Int32) (M : mm_M) : Ct sysC Y_X8_readPart dd [.ref 9, .int (a1)] M mm_fV (f_X8_readPart rd a1 M) :=
  ct_of_sim (by decide) rfl (Nat.le_of_ble_eq_true rfl) (s_X8_readPart rd dd hdd e_rd he_rd hrd a1 M)
def f_X8_readTerm_7 (rp : Int32 → mm_M → Option (mm_M)) : Nat → Int32 → Int32 → mm_M → Option (mm_M)
  | 0, _, _, _ => none
  | n + 1, x1, x2, M =>
  if (80 : Int32) ≤ x2 then
    some M
  else
    mm_bi (f_X8_peek M) (fun r1 M1 =>
    if r1 = (38 : Int32) then
      mm_let (sI M1 9 4 ((mI M1 9 4) + (1 : Int32))) (fun M2 =>
      mm_bv (rp x1 M2) (fun M3 =>
      mm_bv (f_X8_put (-2 : Int32) M3) (fun M4 =>
      f_X8_readTerm_7 rp n x1 (x2 + (1 : Int32)) M4)))
    else
      some M1)
theorem s_X8_readTerm_7 (rp : Int32 → mm_M → Option (mm_M)) (dd : Nat) (hdd : 5 ≤ dd) (e_rp : Nat) (he_rp : e_rp + 1 ≤ dd) (hrp : ∀ (a1 : Int32) (M : mm_M), Ct sysC Y_X8_readPart e_rp [.ref 9, .int (a1)] M mm_fV (rp a1 M)) (n : Nat) : ∀ (x1 : Int32) (x2 : Int32) (M : mm_M), Sim sysC Y_X8_readTerm dd 7 [(0, .ref 9), (1, .int (x1)), (2, .int (x2))] [] M mm_fV (f_X8_readTerm_7 rp n x1 x2 M) := by
  induction n with
  | zero => intros; exact sim_none
  | succ n ih =>
    intro x1 x2 M
    rw [f_X8_readTerm_7]
    refine sim_iload_n 2 d_X8_readTerm_7 rfl rfl ?_
    refine sim_bipush (80 : Int32) d_X8_readTerm_8 rfl ?_
    refine sim_icmp_ge d_X8_readTerm_10 ?_ ?_
    ·
      exact sim_vret d_X8_readTerm_49 rfl
    ·
      refine sim_aload_n 0 d_X8_readTerm_13 rfl rfl ?_
      refine sim_callVi Y_X8_peek 0 [] [] d_X8_readTerm_14 lk_X8_43 cv_X8_peek ob_C_9 rfl (by omega) (Nat.le_of_ble_eq_true rfl) (ct_X8_peek M) (fun r1 M1 => ?_)
      refine sim_bipush (38 : Int32) d_X8_readTerm_17 rfl ?_
      refine sim_icmp_ne d_X8_readTerm_19 ?_ ?_
      ·
        exact sim_vret d_X8_readTerm_49 rfl
      ·
        refine sim_aload_n 0 d_X8_readTerm_22 rfl rfl ?_
        refine sim_dup d_X8_readTerm_23 rfl ?_
        refine sim_geti d_X8_readTerm_24 fl_X8_25 ob_C_9 rfl ?_
        refine sim_iconst (1 : Int32) d_X8_readTerm_27 rfl ?_
        refine sim_iadd d_X8_readTerm_28 ?_
        refine sim_puti d_X8_readTerm_29 fl_X8_25 ob_C_9 rfl ?_
        refine sim_nmM (fun M2 => ?_)
        refine sim_aload_n 0 d_X8_readTerm_32 rfl rfl ?_
        refine sim_iload_n 1 d_X8_readTerm_33 rfl rfl ?_
        refine sim_callVv Y_X8_readPart e_rp [.int (x1)] [] d_X8_readTerm_34 lk_X8_50 cv_X8_readPart ob_C_9 rfl (by omega) (Nat.le_of_ble_eq_true rfl) (hrp x1 M2) (fun M3 => ?_)
        refine sim_aload_n 0 d_X8_readTerm_37 rfl rfl ?_
        refine sim_bipush (-2 : Int32) d_X8_readTerm_38 rfl ?_
        refine sim_callVv Y_X8_put 0 [.int ((-2 : Int32))] [] d_X8_readTerm_40 lk_X8_47 cv_X8_put ob_C_9 rfl (by omega) (Nat.le_of_ble_eq_true rfl) (ct_X8_put (-2 : Int32) M3) (fun M4 => ?_)
        refine sim_iinc (v := x2 + (1 : Int32)) (L' := [(0, .ref 9), (1, .int (x1)), (2, .int (x2 + (1 : Int32)))]) 2 d_X8_readTerm_43 (Nat.le_of_ble_eq_true rfl) rfl rfl rfl ?_
        refine sim_goto d_X8_readTerm_46 ?_
        exact sim_sub [0, 1, 2] rfl (ih x1 (x2 + (1 : Int32)) M4)
def f_X8_readTerm (rp : Int32 → mm_M → Option (mm_M)) (a1 : Int32) (M : mm_M) : Option (mm_M) :=
  mm_bv (rp a1 M) (fun M1 =>
  f_X8_readTerm_7 rp mm_fu a1 (0 : Int32) M1)
theorem s_X8_readTerm (rp : Int32 → mm_M → Option (mm_M)) (dd : Nat) (hdd : 5 ≤ dd) (e_rp : Nat) (he_rp : e_rp + 1 ≤ dd) (hrp : ∀ (a1 : Int32) (M : mm_M), Ct sysC Y_X8_readPart e_rp [.ref 9, .int (a1)] M mm_fV (rp a1 M)) (a1 : Int32) (M : mm_M) : Sim sysC Y_X8_readTerm dd 0 [(0, .ref 9), (1, .int (a1))] [] M mm_fV (f_X8_readTerm rp a1 M) := by
  unfold f_X8_readTerm
  refine sim_aload_n 0 d_X8_readTerm_0 rfl rfl ?_
  refine sim_iload_n 1 d_X8_readTerm_1 rfl rfl ?_
  refine sim_callVv Y_X8_readPart e_rp [.int (a1)] [] d_X8_readTerm_2 lk_X8_50 cv_X8_readPart ob_C_9 rfl (by omega) (Nat.le_of_ble_eq_true rfl) (hrp a1 M) (fun M1 => ?_)
  refine sim_iconst (0 : Int32) d_X8_readTerm_5 rfl ?_
  refine sim_istore_n (L' := [(0, .ref 9), (1, .int (a1)), (2, .int ((0 : Int32)))]) d_X8_readTerm_6 rfl (Nat.le_of_ble_eq_true rfl) rfl ?_
  exact sim_sub [0, 1, 2] rfl (s_X8_readTerm_7 rp dd hdd e_rp he_rp hrp mm_fu a1 (0 : Int32) M1)
theorem ct_X8_readTerm (rp : Int32 → mm_M → Option (mm_M)) (dd : Nat) (hdd : 5 ≤ dd) (e_rp : Nat) (he_rp : e_rp + 1 ≤ dd) (hrp : ∀ (a1 : Int32) (M : mm_M), Ct sysC Y_X8_readPart e_rp [.ref 9, .int (a1)] M mm_fV (rp a1 M)) (a1 : Int32) (M : mm_M) : Ct sysC Y_X8_readTerm dd [.ref 9, .int (a1)] M mm_fV (f_X8_readTerm rp a1 M) :=
  ct_of_sim (by decide) rfl (Nat.le_of_ble_eq_true rfl) (s_X8_readTerm rp dd hdd e_rp he_rp hrp a1 M)
def f_X8_readChoice_7 (rt : Int32 → mm_M → Option (mm_M)) : Nat → Int32 → Int32 → mm_M → Option (mm_M)
  | 0, _, _, _ => none
  | n + 1, x1, x2, M =>
  if (80 : Int32) ≤ x2 then
    some M
  else
    mm_bi (f_X8_peek M) (fun r1 M1 =>
    if r1 = (124 : Int32) then
      mm_let (sI M1 9 4 ((mI M1 9 4) + (1 : Int32))) (fun M2 =>
      mm_bv (rt x1 M2) (fun M3 =>
      mm_bv (f_X8_put (-1 : Int32) M3) (fun M4 =>
      f_X8_readChoice_7 rt n x1 (x2 + (1 : Int32)) M4)))
    else
      some M1)
theorem s_X8_readChoice_7 (rt : Int32 → mm_M → Option (mm_M)) (dd : Nat) (hdd : 5 ≤ dd) (e_rt : Nat) (he_rt : e_rt + 1 ≤ dd) (hrt : ∀ (a1 : Int32) (M : mm_M), Ct sysC Y_X8_readTerm e_rt [.ref 9, .int (a1)] M mm_fV (rt a1 M)) (n : Nat) : ∀ (x1 : Int32) (x2 : Int32) (M : mm_M), Sim sysC Y_X8_readChoice dd 7 [(0, .ref 9), (1, .int (x1)), (2, .int (x2))] [] M mm_fV (f_X8_readChoice_7 rt n x1 x2 M) := by
  induction n with
  | zero => intros; exact sim_none
  | succ n ih =>
    intro x1 x2 M
    rw [f_X8_readChoice_7]
    refine sim_iload_n 2 d_X8_readChoice_7 rfl rfl ?_
    refine sim_bipush (80 : Int32) d_X8_readChoice_8 rfl ?_
    refine sim_icmp_ge d_X8_readChoice_10 ?_ ?_
    ·
      exact sim_vret d_X8_readChoice_48 rfl
    ·
      refine sim_aload_n 0 d_X8_readChoice_13 rfl rfl ?_
      refine sim_callVi Y_X8_peek 0 [] [] d_X8_readChoice_14 lk_X8_43 cv_X8_peek ob_C_9 rfl (by omega) (Nat.le_of_ble_eq_true rfl) (ct_X8_peek M) (fun r1 M1 => ?_)
      refine sim_bipush (124 : Int32) d_X8_readChoice_17 rfl ?_
      refine sim_icmp_ne d_X8_readChoice_19 ?_ ?_
      ·
        exact sim_vret d_X8_readChoice_48 rfl
      ·
        refine sim_aload_n 0 d_X8_readChoice_22 rfl rfl ?_
        refine sim_dup d_X8_readChoice_23 rfl ?_
        refine sim_geti d_X8_readChoice_24 fl_X8_25 ob_C_9 rfl ?_
        refine sim_iconst (1 : Int32) d_X8_readChoice_27 rfl ?_
        refine sim_iadd d_X8_readChoice_28 ?_
        refine sim_puti d_X8_readChoice_29 fl_X8_25 ob_C_9 rfl ?_
        refine sim_nmM (fun M2 => ?_)
        refine sim_aload_n 0 d_X8_readChoice_32 rfl rfl ?_
        refine sim_iload_n 1 d_X8_readChoice_33 rfl rfl ?_
        refine sim_callVv Y_X8_readTerm e_rt [.int (x1)] [] d_X8_readChoice_34 lk_X8_40 cv_X8_readTerm ob_C_9 rfl (by omega) (Nat.le_of_ble_eq_true rfl) (hrt x1 M2) (fun M3 => ?_)
        refine sim_aload_n 0 d_X8_readChoice_37 rfl rfl ?_
        refine sim_iconst (-1 : Int32) d_X8_readChoice_38 rfl ?_
        refine sim_callVv Y_X8_put 0 [.int ((-1 : Int32))] [] d_X8_readChoice_39 lk_X8_47 cv_X8_put ob_C_9 rfl (by omega) (Nat.le_of_ble_eq_true rfl) (ct_X8_put (-1 : Int32) M3) (fun M4 => ?_)
        refine sim_iinc (v := x2 + (1 : Int32)) (L' := [(0, .ref 9), (1, .int (x1)), (2, .int (x2 + (1 : Int32)))]) 2 d_X8_readChoice_42 (Nat.le_of_ble_eq_true rfl) rfl rfl rfl ?_
        refine sim_goto d_X8_readChoice_45 ?_
        exact sim_sub [0, 1, 2] rfl (ih x1 (x2 + (1 : Int32)) M4)
def f_X8_readChoice (rt : Int32 → mm_M → Option (mm_M)) (a1 : Int32) (M : mm_M) : Option (mm_M) :=
  mm_bv (rt a1 M) (fun M1 =>
  f_X8_readChoice_7 rt mm_fu a1 (0 : Int32) M1)
theorem s_X8_readChoice (rt : Int32 → mm_M → Option (mm_M)) (dd : Nat) (hdd : 5 ≤ dd) (e_rt : Nat) (he_rt : e_rt + 1 ≤ dd) (hrt : ∀ (a1 : Int32) (M : mm_M), Ct sysC Y_X8_readTerm e_rt [.ref 9, .int (a1)] M mm_fV (rt a1 M)) (a1 : Int32) (M : mm_M) : Sim sysC Y_X8_readChoice dd 0 [(0, .ref 9), (1, .int (a1))] [] M mm_fV (f_X8_readChoice rt a1 M) := by
  unfold f_X8_readChoice
  refine sim_aload_n 0 d_X8_readChoice_0 rfl rfl ?_
  refine sim_iload_n 1 d_X8_readChoice_1 rfl rfl ?_
  refine sim_callVv Y_X8_readTerm e_rt [.int (a1)] [] d_X8_readChoice_2 lk_X8_40 cv_X8_readTerm ob_C_9 rfl (by omega) (Nat.le_of_ble_eq_true rfl) (hrt a1 M) (fun M1 => ?_)
  refine sim_iconst (0 : Int32) d_X8_readChoice_5 rfl ?_
  refine sim_istore_n (L' := [(0, .ref 9), (1, .int (a1)), (2, .int ((0 : Int32)))]) d_X8_readChoice_6 rfl (Nat.le_of_ble_eq_true rfl) rfl ?_
  exact sim_sub [0, 1, 2] rfl (s_X8_readChoice_7 rt dd hdd e_rt he_rt hrt mm_fu a1 (0 : Int32) M1)
theorem ct_X8_readChoice (rt : Int32 → mm_M → Option (mm_M)) (dd : Nat) (hdd : 5 ≤ dd) (e_rt : Nat) (he_rt : e_rt + 1 ≤ dd) (hrt : ∀ (a1 : Int32) (M : mm_M), Ct sysC Y_X8_readTerm e_rt [.ref 9, .int (a1)] M mm_fV (rt a1 M)) (a1 : Int32) (M : mm_M) : Ct sysC Y_X8_readChoice dd [.ref 9, .int (a1)] M mm_fV (f_X8_readChoice rt a1 M) :=
  ct_of_sim (by decide) rfl (Nat.le_of_ble_eq_true rfl) (s_X8_readChoice rt dd hdd e_rt he_rt hrt a1 M)
def f_X8_translate (rc : Int32 → mm_M → Option (mm_M)) (M : mm_M) : Option (Int32 × mm_M) :=
  mm_let (sI M 9 4 (0 : Int32)) (fun M1 =>
  mm_let (sI M1 9 5 (-1 : Int32)) (fun M2 =>
  mm_let (sI M2 9 3 (0 : Int32)) (fun M3 =>
  mm_bv (rc (0 : Int32) M3) (fun M4 =>
  if (mI M4 9 2) ≤ (mI M4 9 4) then
    some (mI M4 9 5, M4)
  else
    mm_bv (f_X8_fail M4) (fun M5 =>
    some (mI M5 9 5, M5))))))
theorem s_X8_translate (rc : Int32 → mm_M → Option (mm_M)) (dd : Nat) (hdd : 5 ≤ dd) (e_rc : Nat) (he_rc : e_rc + 1 ≤ dd) (hrc : ∀ (a1 : Int32) (M : mm_M), Ct sysC Y_X8_readChoice e_rc [.ref 9, .int (a1)] M mm_fV (rc a1 M)) (M : mm_M) : Sim sysC Y_X8_translate dd 0 [(0, .ref 9)] [] M mm_fI (f_X8_translate rc M) := by
  unfold f_X8_translate
  refine sim_aload_n 0 d_X8_translate_0 rfl rfl ?_
  refine sim_iconst (0 : Int32) d_X8_translate_1 rfl ?_
  refine sim_puti d_X8_translate_2 fl_X8_25 ob_C_9 rfl ?_
  refine sim_nmM (fun M1 => ?_)
  refine sim_aload_n 0 d_X8_translate_5 rfl rfl ?_
  refine sim_iconst (-1 : Int32) d_X8_translate_6 rfl ?_
  refine sim_puti d_X8_translate_7 fl_X8_28 ob_C_9 rfl ?_
  refine sim_nmM (fun M2 => ?_)
  refine sim_aload_n 0 d_X8_translate_10 rfl rfl ?_
  refine sim_iconst (0 : Int32) d_X8_translate_11 rfl ?_
  refine sim_puti d_X8_translate_12 fl_X8_22 ob_C_9 rfl ?_
  refine sim_nmM (fun M3 => ?_)
  refine sim_aload_n 0 d_X8_translate_15 rfl rfl ?_
  refine sim_iconst (0 : Int32) d_X8_translate_16 rfl ?_
  refine sim_callVv Y_X8_readChoice e_rc [.int ((0 : Int32))] [] d_X8_translate_17 lk_X8_33 cv_X8_readChoice ob_C_9 rfl (by omega) (Nat.le_of_ble_eq_true rfl) (hrc (0 : Int32) M3) (fun M4 => ?_)
  refine sim_aload_n 0 d_X8_translate_20 rfl rfl ?_
  refine sim_geti d_X8_translate_21 fl_X8_25 ob_C_9 rfl ?_
  refine sim_aload_n 0 d_X8_translate_24 rfl rfl ?_
  refine sim_geti d_X8_translate_25 fl_X8_18 ob_C_9 rfl ?_
  refine sim_icmp_ge d_X8_translate_28 ?_ ?_
  ·
    refine sim_aload_n 0 d_X8_translate_35 rfl rfl ?_
    refine sim_geti d_X8_translate_36 fl_X8_28 ob_C_9 rfl ?_
    exact sim_iret d_X8_translate_39 rfl
  ·
    refine sim_aload_n 0 d_X8_translate_31 rfl rfl ?_
    refine sim_callVv Y_X8_fail 0 [] [] d_X8_translate_32 lk_X8_37 cv_X8_fail ob_C_9 rfl (by omega) (Nat.le_of_ble_eq_true rfl) (ct_X8_fail M4) (fun M5 => ?_)
    refine sim_aload_n 0 d_X8_translate_35 rfl rfl ?_
    refine sim_geti d_X8_translate_36 fl_X8_28 ob_C_9 rfl ?_
    exact sim_iret d_X8_translate_39 rfl
theorem ct_X8_translate (rc : Int32 → mm_M → Option (mm_M)) (dd : Nat) (hdd : 5 ≤ dd) (e_rc : Nat) (he_rc : e_rc + 1 ≤ dd) (hrc : ∀ (a1 : Int32) (M : mm_M), Ct sysC Y_X8_readChoice e_rc [.ref 9, .int (a1)] M mm_fV (rc a1 M)) (M : mm_M) : Ct sysC Y_X8_translate dd [.ref 9] M mm_fI (f_X8_translate rc M) :=
  ct_of_sim (by decide) rfl (Nat.le_of_ble_eq_true rfl) (s_X8_translate rc dd hdd e_rc he_rc hrc M)
/-! the parser's recursion: readPart by its depth -/
def t_part : Nat → Int32 → mm_M → Option mm_M
  | 0, _, _ => none
  | n + 1, a, M => f_X8_readPart (f_X8_readDeeper (t_part n) (f_X8_readChoice (f_X8_readTerm (t_part n)))) a M
theorem ct_t_part (n : Nat) : ∀ (a1 : Int32) (M : mm_M), Ct sysC Y_X8_readPart (10 + 4 * n) [.ref 9, .int (a1)] M mm_fV (t_part n a1 M) := by
  induction n with
  | zero => intro a M res h; cases h
  | succ n ih =>
    intro a M
    have h1 := fun (b : Int32) (M : mm_M) => ct_X8_readTerm (t_part n) (10 + 4 * n + 1) (by omega) (10 + 4 * n) (by omega) ih b M
    have h2 := fun (b : Int32) (M : mm_M) => ct_X8_readChoice (f_X8_readTerm (t_part n)) (10 + 4 * n + 2) (by omega) (10 + 4 * n + 1) (by omega) h1 b M
    have h3 := fun (b c : Int32) (M : mm_M) => ct_X8_readDeeper (t_part n) (f_X8_readChoice (f_X8_readTerm (t_part n))) (10 + 4 * n + 3) (by omega) (10 + 4 * n) (by omega) ih (10 + 4 * n + 2) (by omega) h2 b c M
    exact ct_X8_readPart (f_X8_readDeeper (t_part n) (f_X8_readChoice (f_X8_readTerm (t_part n)))) (10 + 4 * (n + 1)) (by omega) (10 + 4 * n + 3) (by omega) h3 a M
def t_choice : Int32 → mm_M → Option mm_M := f_X8_readChoice (f_X8_readTerm (t_part 8))
def t_translate (M : mm_M) : Option (Int32 × mm_M) := f_X8_translate t_choice M
theorem ct_t_translate (M : mm_M) : Ct sysC Y_X8_translate 45 [.ref 9] M mm_fI (t_translate M) := by
  have h1 := fun (b : Int32) (M : mm_M) => ct_X8_readTerm (t_part 8) 43 (by omega) 42 (by omega) (ct_t_part 8) b M
  have h2 := fun (b : Int32) (M : mm_M) => ct_X8_readChoice (f_X8_readTerm (t_part 8)) 44 (by omega) 43 (by omega) h1 b M
  exact ct_X8_translate t_choice 45 (by omega) 44 (by omega) h2 M

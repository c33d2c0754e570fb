-- Search.begin ()V
def mt_Search_begin : Mt := ("ShakeHands$Search", b_Search_begin, 1, none, 2, SHx)
theorem d_Search_begin_0 : decode b_Search_begin 0 = .ok (.aload_n 0, 1) := by decide +kernel
theorem d_Search_begin_1 : decode b_Search_begin 1 = .ok (.aload_n 0, 1) := by decide +kernel
theorem d_Search_begin_2 : decode b_Search_begin 2 = .ok (.getfield 23, 3) := by decide +kernel
theorem d_Search_begin_5 : decode b_Search_begin 5 = .ok (.getfield 31, 3) := by decide +kernel
theorem d_Search_begin_8 : decode b_Search_begin 8 = .ok (.aload_n 0, 1) := by decide +kernel
theorem d_Search_begin_9 : decode b_Search_begin 9 = .ok (.getfield 23, 3) := by decide +kernel
theorem d_Search_begin_12 : decode b_Search_begin 12 = .ok (.getfield 31, 3) := by decide +kernel
theorem d_Search_begin_15 : decode b_Search_begin 15 = .ok (.iconst 1, 1) := by decide +kernel
theorem d_Search_begin_16 : decode b_Search_begin 16 = .ok (.isub, 1) := by decide +kernel
theorem d_Search_begin_17 : decode b_Search_begin 17 = .ok (.imul, 1) := by decide +kernel
theorem d_Search_begin_18 : decode b_Search_begin 18 = .ok (.iconst 2, 1) := by decide +kernel
theorem d_Search_begin_19 : decode b_Search_begin 19 = .ok (.idiv, 1) := by decide +kernel
theorem d_Search_begin_20 : decode b_Search_begin 20 = .ok (.putfield 37, 3) := by decide +kernel
theorem d_Search_begin_23 : decode b_Search_begin 23 = .ok (.aload_n 0, 1) := by decide +kernel
theorem d_Search_begin_24 : decode b_Search_begin 24 = .ok (.getfield 27, 3) := by decide +kernel
theorem d_Search_begin_27 : decode b_Search_begin 27 = .ok (.getfield 40, 3) := by decide +kernel
theorem d_Search_begin_30 : decode b_Search_begin 30 = .ok (.iconst 0, 1) := by decide +kernel
theorem d_Search_begin_31 : decode b_Search_begin 31 = .ok (.aload_n 0, 1) := by decide +kernel
theorem d_Search_begin_32 : decode b_Search_begin 32 = .ok (.getfield 20, 3) := by decide +kernel
theorem d_Search_begin_35 : decode b_Search_begin 35 = .ok (.iconst 0, 1) := by decide +kernel
theorem d_Search_begin_36 : decode b_Search_begin 36 = .ok (.aaload, 1) := by decide +kernel
theorem d_Search_begin_37 : decode b_Search_begin 37 = .ok (.iconst 0, 1) := by decide +kernel
theorem d_Search_begin_38 : decode b_Search_begin 38 = .ok (.bipush 6, 2) := by decide +kernel
theorem d_Search_begin_40 : decode b_Search_begin 40 = .ok (.invokestatic 46, 3) := by decide +kernel
theorem d_Search_begin_43 : decode b_Search_begin 43 = .ok (.return_, 1) := by decide +kernel
def X_Search_begin (n : Nat) (M : Mem) : Option (Unit × Mem) :=
  (if 2 = 0 then none else
    gd (0 : Int32) 7 (
      nm (si M 26 8 (((M.1 11 0) * ((M.1 11 0) - 1)) / 2)) fun N2 =>
      gc (0 : Int32) (0 : Int32) (6 : Int32) 6 6 (
        some ((), cpL N2 17 ((0 : Int32).toNatClampNeg) (([30, 31, 32, 33, 34, 35, 36] : List Nat).getD (0 : Int32).toNatClampNeg 0) ((0 : Int32).toNatClampNeg) ((6 : Int32).toNatClampNeg)))))
set_option maxRecDepth 20000 in
set_option maxHeartbeats 4000000 in
theorem C_Search_begin (n : Nat)    (M : Mem) : Ct y_Search_begin mt_Search_begin wU [Value.ref 26] M (X_Search_begin n M) := by
  refine ct_of (by decide +kernel) rfl (Nat.le_of_ble_eq_true rfl) ?_
  show J _ _ _ [(0, Value.ref 26)] _ _ _
  unfold X_Search_begin
  refine j_aload_n (pc := 0) (q := 0) d_Search_begin_0 rfl rfl ?_
  refine j_aload_n (pc := 1) (q := 0) d_Search_begin_1 rfl rfl ?_
  refine j_getA (pc := 2) d_Search_begin_2 fl_Search_23 sx_26 (by decide) rfl ?_
  refine j_getI (pc := 5) d_Search_begin_5 fl_Search_31 sx_11 (by decide) rfl ?_
  refine j_aload_n (pc := 8) (q := 0) d_Search_begin_8 rfl rfl ?_
  refine j_getA (pc := 9) d_Search_begin_9 fl_Search_23 sx_26 (by decide) rfl ?_
  refine j_getI (pc := 12) d_Search_begin_12 fl_Search_31 sx_11 (by decide) rfl ?_
  refine j_iconst (pc := 15) d_Search_begin_15 k_i_1 ?_
  refine j_isub (pc := 16) d_Search_begin_16 ?_
  refine j_imul (pc := 17) d_Search_begin_17 ?_
  refine j_iconst (pc := 18) d_Search_begin_18 k_i_2 ?_
  refine j_idiv (pc := 19) d_Search_begin_19 (fun _ => ?_)
  refine j_putI (pc := 20) d_Search_begin_20 fl_Search_37 rfl sx_26 (by decide) rfl ?_
  refine j_aload_n (pc := 23) (q := 0) d_Search_begin_23 rfl rfl ?_
  refine j_getA (pc := 24) d_Search_begin_24 fl_Search_27 sx_26 (by decide) rfl ?_
  refine j_getA (pc := 27) d_Search_begin_27 fl_Search_40 sx_16 (by decide) rfl ?_
  refine j_iconst (pc := 30) d_Search_begin_30 k_i_0 ?_
  refine j_aload_n (pc := 31) (q := 0) d_Search_begin_31 rfl rfl ?_
  refine j_getA (pc := 32) d_Search_begin_32 fl_Search_20 sx_26 (by decide) rfl ?_
  refine j_iconst (pc := 35) d_Search_begin_35 k_i_0 ?_
  refine j_aald2 (pc := 36) (ids := [30, 31, 32, 33, 34, 35, 36]) d_Search_begin_36 sx_29 (fun h1 => ?_)
  refine j_iconst (pc := 37) d_Search_begin_37 k_i_0 ?_
  refine j_bipush (pc := 38) d_Search_begin_38 k_b_6 ?_
  refine j_nmM (fun N2 => ?_)
  refine j_copyL (pc := 40) d_Search_begin_40 cw_Search_46 cw_nat cw_st sx_17 (sh_level h1) (by decide) (Nat.le_of_ble_eq_true rfl) ?_
  exact j_return (pc := 43) d_Search_begin_43 rfl
-- Search.aim (IIII)V
def mt_Search_aim : Mt := ("ShakeHands$Search", b_Search_aim, 5, none, 2, SHx)
theorem d_Search_aim_0 : decode b_Search_aim 0 = .ok (.aload_n 0, 1) := by decide +kernel
theorem d_Search_aim_1 : decode b_Search_aim 1 = .ok (.iload_n 1, 1) := by decide +kernel
theorem d_Search_aim_2 : decode b_Search_aim 2 = .ok (.putfield 52, 3) := by decide +kernel
theorem d_Search_aim_5 : decode b_Search_aim 5 = .ok (.aload_n 0, 1) := by decide +kernel
theorem d_Search_aim_6 : decode b_Search_aim 6 = .ok (.iload_n 2, 1) := by decide +kernel
theorem d_Search_aim_7 : decode b_Search_aim 7 = .ok (.putfield 55, 3) := by decide +kernel
theorem d_Search_aim_10 : decode b_Search_aim 10 = .ok (.aload_n 0, 1) := by decide +kernel
theorem d_Search_aim_11 : decode b_Search_aim 11 = .ok (.iload_n 3, 1) := by decide +kernel
theorem d_Search_aim_12 : decode b_Search_aim 12 = .ok (.putfield 58, 3) := by decide +kernel
theorem d_Search_aim_15 : decode b_Search_aim 15 = .ok (.aload_n 0, 1) := by decide +kernel
theorem d_Search_aim_16 : decode b_Search_aim 16 = .ok (.iload 4, 2) := by decide +kernel
theorem d_Search_aim_18 : decode b_Search_aim 18 = .ok (.putfield 61, 3) := by decide +kernel
theorem d_Search_aim_21 : decode b_Search_aim 21 = .ok (.return_, 1) := by decide +kernel
def X_Search_aim (n : Nat) (p1 : Int32) (p2 : Int32) (p3 : Int32) (p4 : Int32) (M : Mem) : Option (Unit × Mem) :=
  some ((), si (si (si (si M 26 9 p1) 26 10 p2) 26 11 p3) 26 12 p4)
set_option maxRecDepth 20000 in
set_option maxHeartbeats 4000000 in
theorem C_Search_aim (n : Nat)   (p1 : Int32) (p2 : Int32) (p3 : Int32) (p4 : Int32) (M : Mem) : Ct y_Search_aim mt_Search_aim wU [Value.ref 26, Value.int p1, Value.int p2, Value.int p3, Value.int p4] M (X_Search_aim n p1 p2 p3 p4 M) := by
  refine ct_of (by decide +kernel) rfl (Nat.le_of_ble_eq_true rfl) ?_
  show J _ _ _ [(0, Value.ref 26), (1, Value.int p1), (2, Value.int p2), (3, Value.int p3), (4, Value.int p4)] _ _ _
  unfold X_Search_aim
  refine j_aload_n (pc := 0) (q := 0) d_Search_aim_0 rfl rfl ?_
  refine j_iload_n (pc := 1) (q := 1) d_Search_aim_1 rfl rfl ?_
  refine j_putI (pc := 2) d_Search_aim_2 fl_Search_52 rfl sx_26 (by decide) rfl ?_
  refine j_aload_n (pc := 5) (q := 0) d_Search_aim_5 rfl rfl ?_
  refine j_iload_n (pc := 6) (q := 2) d_Search_aim_6 rfl rfl ?_
  refine j_putI (pc := 7) d_Search_aim_7 fl_Search_55 rfl sx_26 (by decide) rfl ?_
  refine j_aload_n (pc := 10) (q := 0) d_Search_aim_10 rfl rfl ?_
  refine j_iload_n (pc := 11) (q := 3) d_Search_aim_11 rfl rfl ?_
  refine j_putI (pc := 12) d_Search_aim_12 fl_Search_58 rfl sx_26 (by decide) rfl ?_
  refine j_aload_n (pc := 15) (q := 0) d_Search_aim_15 rfl rfl ?_
  refine j_iload (pc := 16) (q := 4) d_Search_aim_16 rfl ?_
  refine j_putI (pc := 18) d_Search_aim_18 fl_Search_61 rfl sx_26 (by decide) rfl ?_
  exact j_return (pc := 21) d_Search_aim_21 rfl
-- Search.isBarred ([J)Z
def mt_Search_isBarred : Mt := ("ShakeHands$Search", b_Search_isBarred, 2, some .boolean, 3, SHx)
theorem d_Search_isBarred_0 : decode b_Search_isBarred 0 = .ok (.aload_n 1, 1) := by decide +kernel
theorem d_Search_isBarred_1 : decode b_Search_isBarred 1 = .ok (.aload_n 0, 1) := by decide +kernel
theorem d_Search_isBarred_2 : decode b_Search_isBarred 2 = .ok (.getfield 52, 3) := by decide +kernel
theorem d_Search_isBarred_5 : decode b_Search_isBarred 5 = .ok (.invokestatic 97, 3) := by decide +kernel
theorem d_Search_isBarred_8 : decode b_Search_isBarred 8 = .ok (.aload_n 0, 1) := by decide +kernel
theorem d_Search_isBarred_9 : decode b_Search_isBarred 9 = .ok (.getfield 61, 3) := by decide +kernel
theorem d_Search_isBarred_12 : decode b_Search_isBarred 12 = .ok (.iand, 1) := by decide +kernel
theorem d_Search_isBarred_13 : decode b_Search_isBarred 13 = .ok (.ifCond .eq 7, 3) := by decide +kernel
theorem d_Search_isBarred_16 : decode b_Search_isBarred 16 = .ok (.iconst 1, 1) := by decide +kernel
theorem d_Search_isBarred_17 : decode b_Search_isBarred 17 = .ok (.goto 4, 3) := by decide +kernel
theorem d_Search_isBarred_20 : decode b_Search_isBarred 20 = .ok (.iconst 0, 1) := by decide +kernel
theorem d_Search_isBarred_21 : decode b_Search_isBarred 21 = .ok (.ireturn, 1) := by decide +kernel
def X_Search_isBarred (n : Nat) (rows : Nat) (M : Mem) : Option (Int32 × Mem) :=
  bd (X_Minds_knowers n rows (M.1 26 9) M) fun r1 M2 =>
  (if (r1 &&& (M2.1 26 12)) = 0 then
    some (0, M2)
    else
    some (1, M2))
set_option maxRecDepth 20000 in
set_option maxHeartbeats 4000000 in
theorem C_Search_isBarred (n : Nat) (rows : Nat) (h_rows : SHx[rows]? = some (103, [6]))  (M : Mem) : Ct y_Search_isBarred mt_Search_isBarred wI [Value.ref 26, Value.ref rows] M (X_Search_isBarred n rows M) := by
  refine ct_of (by decide +kernel) rfl (Nat.le_of_ble_eq_true rfl) ?_
  show J _ _ _ [(0, Value.ref 26), (1, Value.ref rows)] _ _ _
  unfold X_Search_isBarred
  refine j_aload_n (pc := 0) (q := 1) d_Search_isBarred_0 rfl rfl ?_
  refine j_aload_n (pc := 1) (q := 0) d_Search_isBarred_1 rfl rfl ?_
  refine j_getI (pc := 2) d_Search_isBarred_2 fl_Search_52 sx_26 (by decide) rfl ?_
  refine j_callS2 (pc := 5) d_Search_isBarred_5 (C_Minds_knowers n rows h_rows (M.1 26 9) M) cS_Search_97 cd_Minds_knowers dn_Minds_knowers rfl (by decide) (Nat.le_of_ble_eq_true rfl) (Nat.le_of_ble_eq_true rfl) nr_I (fun r1 M2 => ?_)
  refine j_aload_n (pc := 8) (q := 0) d_Search_isBarred_8 rfl rfl ?_
  refine j_getI (pc := 9) d_Search_isBarred_9 fl_Search_61 sx_26 (by decide) rfl ?_
  refine j_iand (pc := 12) d_Search_isBarred_12 ?_
  refine j_if_eq (pc := 13) (tgt := 20) d_Search_isBarred_13 (by decide) (fun _ => ?_) (fun _ => ?_)
  · refine j_iconst (pc := 20) d_Search_isBarred_20 k_i_0 ?_
    exact j_zreturn (pc := 21) d_Search_isBarred_21 rfl rfl
  · refine j_iconst (pc := 16) d_Search_isBarred_16 k_i_1 ?_
    refine j_goto (pc := 17) (tgt := 21) d_Search_isBarred_17 (by decide) ?_
    exact j_zreturn (pc := 21) d_Search_isBarred_21 rfl rfl
-- Search.amiss ([J)I
def mt_Search_amiss : Mt := ("ShakeHands$Search", b_Search_amiss, 2, some .int, 3, SHx)
theorem d_Search_amiss_0 : decode b_Search_amiss 0 = .ok (.aload_n 1, 1) := by decide +kernel
theorem d_Search_amiss_1 : decode b_Search_amiss 1 = .ok (.aload_n 0, 1) := by decide +kernel
theorem d_Search_amiss_2 : decode b_Search_amiss 2 = .ok (.getfield 52, 3) := by decide +kernel
theorem d_Search_amiss_5 : decode b_Search_amiss 5 = .ok (.invokestatic 97, 3) := by decide +kernel
theorem d_Search_amiss_8 : decode b_Search_amiss 8 = .ok (.aload_n 0, 1) := by decide +kernel
theorem d_Search_amiss_9 : decode b_Search_amiss 9 = .ok (.getfield 55, 3) := by decide +kernel
theorem d_Search_amiss_12 : decode b_Search_amiss 12 = .ok (.ixor, 1) := by decide +kernel
theorem d_Search_amiss_13 : decode b_Search_amiss 13 = .ok (.aload_n 0, 1) := by decide +kernel
theorem d_Search_amiss_14 : decode b_Search_amiss 14 = .ok (.getfield 55, 3) := by decide +kernel
theorem d_Search_amiss_17 : decode b_Search_amiss 17 = .ok (.aload_n 0, 1) := by decide +kernel
theorem d_Search_amiss_18 : decode b_Search_amiss 18 = .ok (.getfield 58, 3) := by decide +kernel
theorem d_Search_amiss_21 : decode b_Search_amiss 21 = .ok (.ior, 1) := by decide +kernel
theorem d_Search_amiss_22 : decode b_Search_amiss 22 = .ok (.iand, 1) := by decide +kernel
theorem d_Search_amiss_23 : decode b_Search_amiss 23 = .ok (.ireturn, 1) := by decide +kernel
def X_Search_amiss (n : Nat) (rows : Nat) (M : Mem) : Option (Int32 × Mem) :=
  bd (X_Minds_knowers n rows (M.1 26 9) M) fun r1 M2 =>
  some (((r1 ^^^ (M2.1 26 10)) &&& ((M2.1 26 10) ||| (M2.1 26 11))), M2)
set_option maxRecDepth 20000 in
set_option maxHeartbeats 4000000 in
theorem C_Search_amiss (n : Nat) (rows : Nat) (h_rows : SHx[rows]? = some (103, [6]))  (M : Mem) : Ct y_Search_amiss mt_Search_amiss wI [Value.ref 26, Value.ref rows] M (X_Search_amiss n rows M) := by
  refine ct_of (by decide +kernel) rfl (Nat.le_of_ble_eq_true rfl) ?_
  show J _ _ _ [(0, Value.ref 26), (1, Value.ref rows)] _ _ _
  unfold X_Search_amiss
  refine j_aload_n (pc := 0) (q := 1) d_Search_amiss_0 rfl rfl ?_
  refine j_aload_n (pc := 1) (q := 0) d_Search_amiss_1 rfl rfl ?_
  refine j_getI (pc := 2) d_Search_amiss_2 fl_Search_52 sx_26 (by decide) rfl ?_
  refine j_callS2 (pc := 5) d_Search_amiss_5 (C_Minds_knowers n rows h_rows (M.1 26 9) M) cS_Search_97 cd_Minds_knowers dn_Minds_knowers rfl (by decide) (Nat.le_of_ble_eq_true rfl) (Nat.le_of_ble_eq_true rfl) nr_I (fun r1 M2 => ?_)
  refine j_aload_n (pc := 8) (q := 0) d_Search_amiss_8 rfl rfl ?_
  refine j_getI (pc := 9) d_Search_amiss_9 fl_Search_55 sx_26 (by decide) rfl ?_
  refine j_ixor (pc := 12) d_Search_amiss_12 ?_
  refine j_aload_n (pc := 13) (q := 0) d_Search_amiss_13 rfl rfl ?_
  refine j_getI (pc := 14) d_Search_amiss_14 fl_Search_55 sx_26 (by decide) rfl ?_
  refine j_aload_n (pc := 17) (q := 0) d_Search_amiss_17 rfl rfl ?_
  refine j_getI (pc := 18) d_Search_amiss_18 fl_Search_58 sx_26 (by decide) rfl ?_
  refine j_ior (pc := 21) d_Search_amiss_21 ?_
  refine j_iand (pc := 22) d_Search_amiss_22 ?_
  exact j_ireturn (pc := 23) d_Search_amiss_23 rfl
-- Search.bitsOf (I)I
def mt_Search_bitsOf : Mt := ("ShakeHands$Search", b_Search_bitsOf, 1, some .int, 2, SHx)
theorem d_Search_bitsOf_0 : decode b_Search_bitsOf 0 = .ok (.iload_n 0, 1) := by decide +kernel
theorem d_Search_bitsOf_1 : decode b_Search_bitsOf 1 = .ok (.ifCond .lt 9, 3) := by decide +kernel
theorem d_Search_bitsOf_4 : decode b_Search_bitsOf 4 = .ok (.iload_n 0, 1) := by decide +kernel
theorem d_Search_bitsOf_5 : decode b_Search_bitsOf 5 = .ok (.bipush 15, 2) := by decide +kernel
theorem d_Search_bitsOf_7 : decode b_Search_bitsOf 7 = .ok (.if_icmp .lt 7, 3) := by decide +kernel
theorem d_Search_bitsOf_10 : decode b_Search_bitsOf 10 = .ok (.iconst 0, 1) := by decide +kernel
theorem d_Search_bitsOf_11 : decode b_Search_bitsOf 11 = .ok (.goto 18, 3) := by decide +kernel
theorem d_Search_bitsOf_14 : decode b_Search_bitsOf 14 = .ok (.iconst 1, 1) := by decide +kernel
theorem d_Search_bitsOf_15 : decode b_Search_bitsOf 15 = .ok (.getstatic 113, 3) := by decide +kernel
theorem d_Search_bitsOf_18 : decode b_Search_bitsOf 18 = .ok (.iload_n 0, 1) := by decide +kernel
theorem d_Search_bitsOf_19 : decode b_Search_bitsOf 19 = .ok (.iaload, 1) := by decide +kernel
theorem d_Search_bitsOf_20 : decode b_Search_bitsOf 20 = .ok (.ishl, 1) := by decide +kernel
theorem d_Search_bitsOf_21 : decode b_Search_bitsOf 21 = .ok (.iconst 1, 1) := by decide +kernel
theorem d_Search_bitsOf_22 : decode b_Search_bitsOf 22 = .ok (.getstatic 116, 3) := by decide +kernel
theorem d_Search_bitsOf_25 : decode b_Search_bitsOf 25 = .ok (.iload_n 0, 1) := by decide +kernel
theorem d_Search_bitsOf_26 : decode b_Search_bitsOf 26 = .ok (.iaload, 1) := by decide +kernel
theorem d_Search_bitsOf_27 : decode b_Search_bitsOf 27 = .ok (.ishl, 1) := by decide +kernel
theorem d_Search_bitsOf_28 : decode b_Search_bitsOf 28 = .ok (.ior, 1) := by decide +kernel
theorem d_Search_bitsOf_29 : decode b_Search_bitsOf 29 = .ok (.ireturn, 1) := by decide +kernel
def X_Search_bitsOf (n : Nat) (p0 : Int32) (M : Mem) : Option (Int32 × Mem) :=
  (if p0 < 0 then
    some (0, M)
    else
    (if p0 < 15 then
      gd p0 15 (
        gd p0 15 (
          some ((((1 : Int32) <<< ((lsr p0.toNatClampNeg) &&& 31)) ||| ((1 : Int32) <<< ((grt p0.toNatClampNeg) &&& 31))), M)))
      else
      some (0, M)))
set_option maxRecDepth 20000 in
set_option maxHeartbeats 4000000 in
theorem C_Search_bitsOf (n : Nat)   (p0 : Int32) (M : Mem) : Ct y_Search_bitsOf mt_Search_bitsOf wI [Value.int p0] M (X_Search_bitsOf n p0 M) := by
  refine ct_of (by decide +kernel) rfl (Nat.le_of_ble_eq_true rfl) ?_
  show J _ _ _ [(0, Value.int p0)] _ _ _
  unfold X_Search_bitsOf
  refine j_iload_n (pc := 0) (q := 0) d_Search_bitsOf_0 rfl rfl ?_
  refine j_if_lt (pc := 1) (tgt := 10) d_Search_bitsOf_1 (by decide) (fun _ => ?_) (fun _ => ?_)
  · refine j_iconst (pc := 10) d_Search_bitsOf_10 k_i_0 ?_
    refine j_goto (pc := 11) (tgt := 29) d_Search_bitsOf_11 (by decide) ?_
    exact j_ireturn (pc := 29) d_Search_bitsOf_29 rfl
  · refine j_iload_n (pc := 4) (q := 0) d_Search_bitsOf_4 rfl rfl ?_
    refine j_bipush (pc := 5) d_Search_bitsOf_5 k_b_15 ?_
    refine j_icmp_lt (pc := 7) (tgt := 14) d_Search_bitsOf_7 (by decide) (fun _ => ?_) (fun _ => ?_)
    · refine j_iconst (pc := 14) d_Search_bitsOf_14 k_i_1 ?_
      refine j_gets200 (pc := 15) d_Search_bitsOf_15 gs_Search_113 ?_
      refine j_iload_n (pc := 18) (q := 0) d_Search_bitsOf_18 rfl rfl ?_
      refine j_ialdS200 (pc := 19) d_Search_bitsOf_19 (fun _ => ?_)
      refine j_ishl (pc := 20) d_Search_bitsOf_20 ?_
      refine j_iconst (pc := 21) d_Search_bitsOf_21 k_i_1 ?_
      refine j_gets201 (pc := 22) d_Search_bitsOf_22 gs_Search_116 ?_
      refine j_iload_n (pc := 25) (q := 0) d_Search_bitsOf_25 rfl rfl ?_
      refine j_ialdS201 (pc := 26) d_Search_bitsOf_26 (fun _ => ?_)
      refine j_ishl (pc := 27) d_Search_bitsOf_27 ?_
      refine j_ior (pc := 28) d_Search_bitsOf_28 ?_
      exact j_ireturn (pc := 29) d_Search_bitsOf_29 rfl
    · refine j_iconst (pc := 10) d_Search_bitsOf_10 k_i_0 ?_
      refine j_goto (pc := 11) (tgt := 29) d_Search_bitsOf_11 (by decide) ?_
      exact j_ireturn (pc := 29) d_Search_bitsOf_29 rfl
-- Search.canMend (III)Z
def mt_Search_canMend : Mt := ("ShakeHands$Search", b_Search_canMend, 3, some .boolean, 3, SHx)
theorem d_Search_canMend_0 : decode b_Search_canMend 0 = .ok (.iload_n 0, 1) := by decide +kernel
theorem d_Search_canMend_1 : decode b_Search_canMend 1 = .ok (.iload_n 1, 1) := by decide +kernel
theorem d_Search_canMend_2 : decode b_Search_canMend 2 = .ok (.iconst (-1), 1) := by decide +kernel
theorem d_Search_canMend_3 : decode b_Search_canMend 3 = .ok (.ixor, 1) := by decide +kernel
theorem d_Search_canMend_4 : decode b_Search_canMend 4 = .ok (.iand, 1) := by decide +kernel
theorem d_Search_canMend_5 : decode b_Search_canMend 5 = .ok (.invokestatic 119, 3) := by decide +kernel
theorem d_Search_canMend_8 : decode b_Search_canMend 8 = .ok (.iconst 2, 1) := by decide +kernel
theorem d_Search_canMend_9 : decode b_Search_canMend 9 = .ok (.iload_n 2, 1) := by decide +kernel
theorem d_Search_canMend_10 : decode b_Search_canMend 10 = .ok (.imul, 1) := by decide +kernel
theorem d_Search_canMend_11 : decode b_Search_canMend 11 = .ok (.if_icmp .gt 7, 3) := by decide +kernel
theorem d_Search_canMend_14 : decode b_Search_canMend 14 = .ok (.iconst 1, 1) := by decide +kernel
theorem d_Search_canMend_15 : decode b_Search_canMend 15 = .ok (.goto 4, 3) := by decide +kernel
theorem d_Search_canMend_18 : decode b_Search_canMend 18 = .ok (.iconst 0, 1) := by decide +kernel
theorem d_Search_canMend_19 : decode b_Search_canMend 19 = .ok (.ireturn, 1) := by decide +kernel
def X_Search_canMend (n : Nat) (p0 : Int32) (p1 : Int32) (p2 : Int32) (M : Mem) : Option (Int32 × Mem) :=
  bd (X_Integer_bitCount n (p0 &&& (p1 ^^^ (-1))) M) fun r1 M2 =>
  (if ((2 : Int32) * p2) < r1 then
    some (0, M2)
    else
    some (1, M2))
set_option maxRecDepth 20000 in
set_option maxHeartbeats 4000000 in
theorem C_Search_canMend (n : Nat)   (p0 : Int32) (p1 : Int32) (p2 : Int32) (M : Mem) : Ct y_Search_canMend mt_Search_canMend wI [Value.int p0, Value.int p1, Value.int p2] M (X_Search_canMend n p0 p1 p2 M) := by
  refine ct_of (by decide +kernel) rfl (Nat.le_of_ble_eq_true rfl) ?_
  show J _ _ _ [(0, Value.int p0), (1, Value.int p1), (2, Value.int p2)] _ _ _
  unfold X_Search_canMend
  refine j_iload_n (pc := 0) (q := 0) d_Search_canMend_0 rfl rfl ?_
  refine j_iload_n (pc := 1) (q := 1) d_Search_canMend_1 rfl rfl ?_
  refine j_iconst (pc := 2) d_Search_canMend_2 k_i_m1 ?_
  refine j_ixor (pc := 3) d_Search_canMend_3 ?_
  refine j_iand (pc := 4) d_Search_canMend_4 ?_
  refine j_callS1 (pc := 5) d_Search_canMend_5 (C_Integer_bitCount n (p0 &&& (p1 ^^^ (-1))) M) cS_Search_119 cd_Integer_bitCount dn_Integer_bitCount rfl (by decide) (Nat.le_of_ble_eq_true rfl) (Nat.le_of_ble_eq_true rfl) nr_I (fun r1 M2 => ?_)
  refine j_iconst (pc := 8) d_Search_canMend_8 k_i_2 ?_
  refine j_iload_n (pc := 9) (q := 2) d_Search_canMend_9 rfl rfl ?_
  refine j_imul (pc := 10) d_Search_canMend_10 ?_
  refine j_icmp_gt (pc := 11) (tgt := 18) d_Search_canMend_11 (by decide) (fun _ => ?_) (fun _ => ?_)
  · refine j_iconst (pc := 18) d_Search_canMend_18 k_i_0 ?_
    exact j_zreturn (pc := 19) d_Search_canMend_19 rfl rfl
  · refine j_iconst (pc := 14) d_Search_canMend_14 k_i_1 ?_
    refine j_goto (pc := 15) (tgt := 19) d_Search_canMend_15 (by decide) ?_
    exact j_zreturn (pc := 19) d_Search_canMend_19 rfl rfl
-- Search.step (II)Z
def mt_Search_step : Mt := ("ShakeHands$Search", b_Search_step, 3, some .boolean, 6, SHx)
theorem d_Search_step_0 : decode b_Search_step 0 = .ok (.iload_n 1, 1) := by decide +kernel
theorem d_Search_step_1 : decode b_Search_step 1 = .ok (.ifCond .lt 9, 3) := by decide +kernel
theorem d_Search_step_4 : decode b_Search_step 4 = .ok (.iload_n 1, 1) := by decide +kernel
theorem d_Search_step_5 : decode b_Search_step 5 = .ok (.bipush 6, 2) := by decide +kernel
theorem d_Search_step_7 : decode b_Search_step 7 = .ok (.if_icmp .lt 5, 3) := by decide +kernel
theorem d_Search_step_10 : decode b_Search_step 10 = .ok (.iconst 0, 1) := by decide +kernel
theorem d_Search_step_11 : decode b_Search_step 11 = .ok (.ireturn, 1) := by decide +kernel
theorem d_Search_step_12 : decode b_Search_step 12 = .ok (.aload_n 0, 1) := by decide +kernel
theorem d_Search_step_13 : decode b_Search_step 13 = .ok (.getfield 20, 3) := by decide +kernel
theorem d_Search_step_16 : decode b_Search_step 16 = .ok (.iload_n 1, 1) := by decide +kernel
theorem d_Search_step_17 : decode b_Search_step 17 = .ok (.aaload, 1) := by decide +kernel
theorem d_Search_step_18 : decode b_Search_step 18 = .ok (.iconst 0, 1) := by decide +kernel
theorem d_Search_step_19 : decode b_Search_step 19 = .ok (.aload_n 0, 1) := by decide +kernel
theorem d_Search_step_20 : decode b_Search_step 20 = .ok (.getfield 20, 3) := by decide +kernel
theorem d_Search_step_23 : decode b_Search_step 23 = .ok (.iload_n 1, 1) := by decide +kernel
theorem d_Search_step_24 : decode b_Search_step 24 = .ok (.iconst 1, 1) := by decide +kernel
theorem d_Search_step_25 : decode b_Search_step 25 = .ok (.iadd, 1) := by decide +kernel
theorem d_Search_step_26 : decode b_Search_step 26 = .ok (.aaload, 1) := by decide +kernel
theorem d_Search_step_27 : decode b_Search_step 27 = .ok (.iconst 0, 1) := by decide +kernel
theorem d_Search_step_28 : decode b_Search_step 28 = .ok (.bipush 6, 2) := by decide +kernel
theorem d_Search_step_30 : decode b_Search_step 30 = .ok (.invokestatic 46, 3) := by decide +kernel
theorem d_Search_step_33 : decode b_Search_step 33 = .ok (.aload_n 0, 1) := by decide +kernel
theorem d_Search_step_34 : decode b_Search_step 34 = .ok (.getfield 23, 3) := by decide +kernel
theorem d_Search_step_37 : decode b_Search_step 37 = .ok (.aload_n 0, 1) := by decide +kernel
theorem d_Search_step_38 : decode b_Search_step 38 = .ok (.getfield 20, 3) := by decide +kernel
theorem d_Search_step_41 : decode b_Search_step 41 = .ok (.iload_n 1, 1) := by decide +kernel
theorem d_Search_step_42 : decode b_Search_step 42 = .ok (.iconst 1, 1) := by decide +kernel
theorem d_Search_step_43 : decode b_Search_step 43 = .ok (.iadd, 1) := by decide +kernel
theorem d_Search_step_44 : decode b_Search_step 44 = .ok (.aaload, 1) := by decide +kernel
theorem d_Search_step_45 : decode b_Search_step 45 = .ok (.aload_n 0, 1) := by decide +kernel
theorem d_Search_step_46 : decode b_Search_step 46 = .ok (.getfield 27, 3) := by decide +kernel
theorem d_Search_step_49 : decode b_Search_step 49 = .ok (.getfield 125, 3) := by decide +kernel
theorem d_Search_step_52 : decode b_Search_step 52 = .ok (.iload_n 2, 1) := by decide +kernel
theorem d_Search_step_53 : decode b_Search_step 53 = .ok (.invokevirtual 128, 3) := by decide +kernel
theorem d_Search_step_56 : decode b_Search_step 56 = .ok (.ireturn, 1) := by decide +kernel
def X_Search_step (n : Nat) (p1 : Int32) (p2 : Int32) (M : Mem) : Option (Int32 × Mem) :=
  (if p1 < 0 then
    some (0, M)
    else
    (if p1 < 6 then
      gd p1 7 (
        gd (p1 + 1) 7 (
          gc (0 : Int32) (0 : Int32) (6 : Int32) 6 6 (
            gd (p1 + 1) 7 (
              nm (cpL M (([30, 31, 32, 33, 34, 35, 36] : List Nat).getD p1.toNatClampNeg 0) ((0 : Int32).toNatClampNeg) (([30, 31, 32, 33, 34, 35, 36] : List Nat).getD (p1 + 1).toNatClampNeg 0) ((0 : Int32).toNatClampNeg) ((6 : Int32).toNatClampNeg)) fun N4 =>
              bd (X_Circle_meet n (([30, 31, 32, 33, 34, 35, 36] : List Nat).getD (p1 + 1).toNatClampNeg 0) (N4.1 16 1) p2 N4) fun r5 M6 =>
              zr r5 M6))))
      else
      some (0, M)))
set_option maxRecDepth 20000 in
set_option maxHeartbeats 4000000 in
theorem C_Search_step (n : Nat)   (p1 : Int32) (p2 : Int32) (M : Mem) : Ct y_Search_step mt_Search_step wI [Value.ref 26, Value.int p1, Value.int p2] M (X_Search_step n p1 p2 M) := by
  refine ct_of (by decide +kernel) rfl (Nat.le_of_ble_eq_true rfl) ?_
  show J _ _ _ [(0, Value.ref 26), (1, Value.int p1), (2, Value.int p2)] _ _ _
  unfold X_Search_step
  refine j_iload_n (pc := 0) (q := 1) d_Search_step_0 rfl rfl ?_
  refine j_if_lt (pc := 1) (tgt := 10) d_Search_step_1 (by decide) (fun _ => ?_) (fun _ => ?_)
  · refine j_iconst (pc := 10) d_Search_step_10 k_i_0 ?_
    exact j_zreturn (pc := 11) d_Search_step_11 rfl rfl
  · refine j_iload_n (pc := 4) (q := 1) d_Search_step_4 rfl rfl ?_
    refine j_bipush (pc := 5) d_Search_step_5 k_b_6 ?_
    refine j_icmp_lt (pc := 7) (tgt := 12) d_Search_step_7 (by decide) (fun _ => ?_) (fun _ => ?_)
    · refine j_aload_n (pc := 12) (q := 0) d_Search_step_12 rfl rfl ?_
      refine j_getA (pc := 13) d_Search_step_13 fl_Search_20 sx_26 (by decide) rfl ?_
      refine j_iload_n (pc := 16) (q := 1) d_Search_step_16 rfl rfl ?_
      refine j_aald2 (pc := 17) (ids := [30, 31, 32, 33, 34, 35, 36]) d_Search_step_17 sx_29 (fun h1 => ?_)
      refine j_iconst (pc := 18) d_Search_step_18 k_i_0 ?_
      refine j_aload_n (pc := 19) (q := 0) d_Search_step_19 rfl rfl ?_
      refine j_getA (pc := 20) d_Search_step_20 fl_Search_20 sx_26 (by decide) rfl ?_
      refine j_iload_n (pc := 23) (q := 1) d_Search_step_23 rfl rfl ?_
      refine j_iconst (pc := 24) d_Search_step_24 k_i_1 ?_
      refine j_iadd (pc := 25) d_Search_step_25 ?_
      refine j_aald2 (pc := 26) (ids := [30, 31, 32, 33, 34, 35, 36]) d_Search_step_26 sx_29 (fun h2 => ?_)
      refine j_iconst (pc := 27) d_Search_step_27 k_i_0 ?_
      refine j_bipush (pc := 28) d_Search_step_28 k_b_6 ?_
      refine j_copyL (pc := 30) d_Search_step_30 cw_Search_46 cw_nat cw_st (sh_level h1) (sh_level h2) (by decide) (Nat.le_of_ble_eq_true rfl) ?_
      refine j_aload_n (pc := 33) (q := 0) d_Search_step_33 rfl rfl ?_
      refine j_getA (pc := 34) d_Search_step_34 fl_Search_23 sx_26 (by decide) rfl ?_
      refine j_aload_n (pc := 37) (q := 0) d_Search_step_37 rfl rfl ?_
      refine j_getA (pc := 38) d_Search_step_38 fl_Search_20 sx_26 (by decide) rfl ?_
      refine j_iload_n (pc := 41) (q := 1) d_Search_step_41 rfl rfl ?_
      refine j_iconst (pc := 42) d_Search_step_42 k_i_1 ?_
      refine j_iadd (pc := 43) d_Search_step_43 ?_
      refine j_aald2 (pc := 44) (ids := [30, 31, 32, 33, 34, 35, 36]) d_Search_step_44 sx_29 (fun h3 => ?_)
      refine j_aload_n (pc := 45) (q := 0) d_Search_step_45 rfl rfl ?_
      refine j_getA (pc := 46) d_Search_step_46 fl_Search_27 sx_26 (by decide) rfl ?_
      refine j_nmM (fun N4 => ?_)
      refine j_getI (pc := 49) d_Search_step_49 fl_Search_125 sx_16 (by decide) rfl ?_
      refine j_iload_n (pc := 52) (q := 2) d_Search_step_52 rfl rfl ?_
      refine j_callV3 (pc := 53) d_Search_step_53 (C_Circle_meet n (([30, 31, 32, 33, 34, 35, 36] : List Nat).getD (p1 + 1).toNatClampNeg 0) (sh_level h3) (N4.1 16 1) p2 N4) cV_Search_128 cd_Circle_meet dn_Circle_meet rfl (by decide) (Nat.le_of_ble_eq_true rfl) (Nat.le_of_ble_eq_true rfl) nr_I sx_11 (by decide) rfl (fun r5 M6 => ?_)
      exact j_zr (pc := 56) d_Search_step_56 rfl
    · refine j_iconst (pc := 10) d_Search_step_10 k_i_0 ?_
      exact j_zreturn (pc := 11) d_Search_step_11 rfl rfl
-- Search.reaches (LShakeHands$Search;II)Z
def mt_Search_reaches (f : Nat) : Mt := ("ShakeHands$Search", b_Search_reaches, 5, some .boolean, 7 + f, SHx)
theorem d_Search_reaches_0 : decode b_Search_reaches 0 = .ok (.aload_n 0, 1) := by decide +kernel
theorem d_Search_reaches_1 : decode b_Search_reaches 1 = .ok (.aload_n 0, 1) := by decide +kernel
theorem d_Search_reaches_2 : decode b_Search_reaches 2 = .ok (.getfield 20, 3) := by decide +kernel
theorem d_Search_reaches_5 : decode b_Search_reaches 5 = .ok (.iload_n 1, 1) := by decide +kernel
theorem d_Search_reaches_6 : decode b_Search_reaches 6 = .ok (.aaload, 1) := by decide +kernel
theorem d_Search_reaches_7 : decode b_Search_reaches 7 = .ok (.invokevirtual 72, 3) := by decide +kernel
theorem d_Search_reaches_10 : decode b_Search_reaches 10 = .ok (.istore_n 3, 1) := by decide +kernel
theorem d_Search_reaches_11 : decode b_Search_reaches 11 = .ok (.iload_n 1, 1) := by decide +kernel
theorem d_Search_reaches_12 : decode b_Search_reaches 12 = .ok (.iload_n 2, 1) := by decide +kernel
theorem d_Search_reaches_13 : decode b_Search_reaches 13 = .ok (.if_icmp .lt 13, 3) := by decide +kernel
theorem d_Search_reaches_16 : decode b_Search_reaches 16 = .ok (.iload_n 3, 1) := by decide +kernel
theorem d_Search_reaches_17 : decode b_Search_reaches 17 = .ok (.ifCond .ne 7, 3) := by decide +kernel
theorem d_Search_reaches_20 : decode b_Search_reaches 20 = .ok (.iconst 1, 1) := by decide +kernel
theorem d_Search_reaches_21 : decode b_Search_reaches 21 = .ok (.goto 4, 3) := by decide +kernel
theorem d_Search_reaches_24 : decode b_Search_reaches 24 = .ok (.iconst 0, 1) := by decide +kernel
theorem d_Search_reaches_25 : decode b_Search_reaches 25 = .ok (.ireturn, 1) := by decide +kernel
theorem d_Search_reaches_26 : decode b_Search_reaches 26 = .ok (.iconst 0, 1) := by decide +kernel
theorem d_Search_reaches_27 : decode b_Search_reaches 27 = .ok (.istore 4, 2) := by decide +kernel
theorem d_Search_reaches_29 : decode b_Search_reaches 29 = .ok (.iload 4, 2) := by decide +kernel
theorem d_Search_reaches_31 : decode b_Search_reaches 31 = .ok (.aload_n 0, 1) := by decide +kernel
theorem d_Search_reaches_32 : decode b_Search_reaches 32 = .ok (.getfield 37, 3) := by decide +kernel
theorem d_Search_reaches_35 : decode b_Search_reaches 35 = .ok (.if_icmp .ge 72, 3) := by decide +kernel
theorem d_Search_reaches_38 : decode b_Search_reaches 38 = .ok (.iload_n 3, 1) := by decide +kernel
theorem d_Search_reaches_39 : decode b_Search_reaches 39 = .ok (.iload 4, 2) := by decide +kernel
theorem d_Search_reaches_41 : decode b_Search_reaches 41 = .ok (.invokestatic 132, 3) := by decide +kernel
theorem d_Search_reaches_44 : decode b_Search_reaches 44 = .ok (.iload_n 2, 1) := by decide +kernel
theorem d_Search_reaches_45 : decode b_Search_reaches 45 = .ok (.iload_n 1, 1) := by decide +kernel
theorem d_Search_reaches_46 : decode b_Search_reaches 46 = .ok (.isub, 1) := by decide +kernel
theorem d_Search_reaches_47 : decode b_Search_reaches 47 = .ok (.iconst 1, 1) := by decide +kernel
theorem d_Search_reaches_48 : decode b_Search_reaches 48 = .ok (.isub, 1) := by decide +kernel
theorem d_Search_reaches_49 : decode b_Search_reaches 49 = .ok (.invokestatic 135, 3) := by decide +kernel
theorem d_Search_reaches_52 : decode b_Search_reaches 52 = .ok (.ifCond .eq 49, 3) := by decide +kernel
theorem d_Search_reaches_55 : decode b_Search_reaches 55 = .ok (.aload_n 0, 1) := by decide +kernel
theorem d_Search_reaches_56 : decode b_Search_reaches 56 = .ok (.iload_n 1, 1) := by decide +kernel
theorem d_Search_reaches_57 : decode b_Search_reaches 57 = .ok (.iload 4, 2) := by decide +kernel
theorem d_Search_reaches_59 : decode b_Search_reaches 59 = .ok (.invokevirtual 139, 3) := by decide +kernel
theorem d_Search_reaches_62 : decode b_Search_reaches 62 = .ok (.ifCond .eq 39, 3) := by decide +kernel
theorem d_Search_reaches_65 : decode b_Search_reaches 65 = .ok (.aload_n 0, 1) := by decide +kernel
theorem d_Search_reaches_66 : decode b_Search_reaches 66 = .ok (.aload_n 0, 1) := by decide +kernel
theorem d_Search_reaches_67 : decode b_Search_reaches 67 = .ok (.getfield 20, 3) := by decide +kernel
theorem d_Search_reaches_70 : decode b_Search_reaches 70 = .ok (.iload_n 1, 1) := by decide +kernel
theorem d_Search_reaches_71 : decode b_Search_reaches 71 = .ok (.iconst 1, 1) := by decide +kernel
theorem d_Search_reaches_72 : decode b_Search_reaches 72 = .ok (.iadd, 1) := by decide +kernel
theorem d_Search_reaches_73 : decode b_Search_reaches 73 = .ok (.aaload, 1) := by decide +kernel
theorem d_Search_reaches_74 : decode b_Search_reaches 74 = .ok (.invokevirtual 64, 3) := by decide +kernel
theorem d_Search_reaches_77 : decode b_Search_reaches 77 = .ok (.ifCond .ne 24, 3) := by decide +kernel
theorem d_Search_reaches_80 : decode b_Search_reaches 80 = .ok (.aload_n 0, 1) := by decide +kernel
theorem d_Search_reaches_81 : decode b_Search_reaches 81 = .ok (.getfield 11, 3) := by decide +kernel
theorem d_Search_reaches_84 : decode b_Search_reaches 84 = .ok (.iload_n 1, 1) := by decide +kernel
theorem d_Search_reaches_85 : decode b_Search_reaches 85 = .ok (.iload 4, 2) := by decide +kernel
theorem d_Search_reaches_87 : decode b_Search_reaches 87 = .ok (.iastore, 1) := by decide +kernel
theorem d_Search_reaches_88 : decode b_Search_reaches 88 = .ok (.aload_n 0, 1) := by decide +kernel
theorem d_Search_reaches_89 : decode b_Search_reaches 89 = .ok (.iload_n 1, 1) := by decide +kernel
theorem d_Search_reaches_90 : decode b_Search_reaches 90 = .ok (.iconst 1, 1) := by decide +kernel
theorem d_Search_reaches_91 : decode b_Search_reaches 91 = .ok (.iadd, 1) := by decide +kernel
theorem d_Search_reaches_92 : decode b_Search_reaches 92 = .ok (.iload_n 2, 1) := by decide +kernel
theorem d_Search_reaches_93 : decode b_Search_reaches 93 = .ok (.invokestatic 68, 3) := by decide +kernel
theorem d_Search_reaches_96 : decode b_Search_reaches 96 = .ok (.ifCond .eq 5, 3) := by decide +kernel
theorem d_Search_reaches_99 : decode b_Search_reaches 99 = .ok (.iconst 1, 1) := by decide +kernel
theorem d_Search_reaches_100 : decode b_Search_reaches 100 = .ok (.ireturn, 1) := by decide +kernel
theorem d_Search_reaches_101 : decode b_Search_reaches 101 = .ok (.iinc 4 1, 3) := by decide +kernel
theorem d_Search_reaches_104 : decode b_Search_reaches 104 = .ok (.goto (-75), 3) := by decide +kernel
theorem d_Search_reaches_107 : decode b_Search_reaches 107 = .ok (.iconst 0, 1) := by decide +kernel
theorem d_Search_reaches_108 : decode b_Search_reaches 108 = .ok (.ireturn, 1) := by decide +kernel
def X_Search_reaches_L29 (n : Nat) (self : Int32 → Int32 → Mem → Option (Int32 × Mem)) (a1 : Int32) (a2 : Int32) (a3 : Int32) : Nat → Int32 → Mem → Option (Int32 × Mem)
    | 0, _, _ => none
    | m + 1, v4, M => (if (M.1 26 8) ≤ v4 then
    some (0, M)
    else
    bd (X_Search_bitsOf n v4 M) fun r4 M5 =>
    bd (X_Search_canMend n a3 r4 ((a2 - a1) - 1) M5) fun r6 M7 =>
    nm (fun (M8 : Mem) => (X_Search_reaches_L29 n self a1 a2 a3 m (v4 + 1) M8 : Option (Int32 × Mem))) fun k101 =>
    (if r6 = 0 then
      k101 M7
      else
      bd (X_Search_step n a1 v4 M7) fun r9 M10 =>
      (if r9 = 0 then
        k101 M10
        else
        gd (a1 + 1) 7 (
          bd (X_Search_isBarred n (([30, 31, 32, 33, 34, 35, 36] : List Nat).getD (a1 + 1).toNatClampNeg 0) M10) fun r12 M13 =>
          (if r12 = 0 then
            gd a1 6 (
              nm (si M13 27 (a1.toNatClampNeg) v4) fun N14 =>
              bd (self (a1 + 1) a2 N14) fun r15 M16 =>
              (if r15 = 0 then
                k101 M16
                else
                some (1, M16)))
            else
            k101 M13)))))
def X_Search_reaches (n : Nat) : Nat → Int32 → Int32 → Mem → Option (Int32 × Mem)
    | 0, _, _, _ => none
    | f + 1, p1, p2, M => gd p1 7 (
    bd (X_Search_amiss n (([30, 31, 32, 33, 34, 35, 36] : List Nat).getD p1.toNatClampNeg 0) M) fun r2 M3 =>
    (if p1 < p2 then
      X_Search_reaches_L29 n (X_Search_reaches n f) p1 p2 r2 n 0 M3
      else
      (if r2 = 0 then
        some (1, M3)
        else
        some (0, M3))))
set_option maxRecDepth 20000 in
set_option maxHeartbeats 4000000 in
theorem X_Search_reaches_L29_ok {n : Nat} {f : Nat} {self : Int32 → Int32 → Mem → Option (Int32 × Mem)} {a1 : Int32} {a2 : Int32} {a3 : Int32} (hself : ∀ (q0 : Int32) (q1 : Int32) (M : Mem), Ct y_Search_reaches (mt_Search_reaches f) wI [Value.ref 26, Value.int q0, Value.int q1] M (self q0 q1 M)) : ∀ (m : Nat) (v4 : Int32) (M : Mem), J (mt_Search_reaches (f + 1)) wI 29 [(0, Value.ref 26), (1, Value.int a1), (2, Value.int a2), (3, Value.int a3), (4, Value.int v4)] [] M (X_Search_reaches_L29 n self a1 a2 a3 m v4 M) := by
  intro m
  induction m with
  | zero => intro _ _; exact j_none
  | succ m ih =>
    intro v4 M
    show J _ _ _ _ _ _ ((if (M.1 26 8) ≤ v4 then
some (0, M)
else
bd (X_Search_bitsOf n v4 M) fun r4 M5 =>
bd (X_Search_canMend n a3 r4 ((a2 - a1) - 1) M5) fun r6 M7 =>
nm (fun (M8 : Mem) => (X_Search_reaches_L29 n self a1 a2 a3 m (v4 + 1) M8 : Option (Int32 × Mem))) fun k101 =>
(if r6 = 0 then
k101 M7
else
bd (X_Search_step n a1 v4 M7) fun r9 M10 =>
(if r9 = 0 then
k101 M10
else
gd (a1 + 1) 7 (
bd (X_Search_isBarred n (([30, 31, 32, 33, 34, 35, 36] : List Nat).getD (a1 + 1).toNatClampNeg 0) M10) fun r12 M13 =>
(if r12 = 0 then
gd a1 6 (
nm (si M13 27 (a1.toNatClampNeg) v4) fun N14 =>
bd (self (a1 + 1) a2 N14) fun r15 M16 =>
(if r15 = 0 then
k101 M16
else
some (1, M16)))
else
k101 M13))))))
    refine j_iload (pc := 29) (q := 4) d_Search_reaches_29 rfl ?_
    refine j_aload_n (pc := 31) (q := 0) d_Search_reaches_31 rfl rfl ?_
    refine j_getI (pc := 32) d_Search_reaches_32 fl_Search_37 sx_26 (by decide) rfl ?_
    refine j_icmp_ge (pc := 35) (tgt := 107) d_Search_reaches_35 (by decide) (fun _ => ?_) (fun _ => ?_)
    · refine j_iconst (pc := 107) d_Search_reaches_107 k_i_0 ?_
      exact j_zreturn (pc := 108) d_Search_reaches_108 rfl rfl
    · refine j_iload_n (pc := 38) (q := 3) d_Search_reaches_38 rfl rfl ?_
      refine j_iload (pc := 39) (q := 4) d_Search_reaches_39 rfl ?_
      refine j_callS1 (pc := 41) d_Search_reaches_41 (C_Search_bitsOf n v4 M) cS_Search_132 cd_Search_bitsOf dn_Search_bitsOf rfl (by show 2 + 1 ≤ 7 + (f + 1); omega) (Nat.le_of_ble_eq_true rfl) (Nat.le_of_ble_eq_true rfl) nr_I (fun r4 M5 => ?_)
      refine j_iload_n (pc := 44) (q := 2) d_Search_reaches_44 rfl rfl ?_
      refine j_iload_n (pc := 45) (q := 1) d_Search_reaches_45 rfl rfl ?_
      refine j_isub (pc := 46) d_Search_reaches_46 ?_
      refine j_iconst (pc := 47) d_Search_reaches_47 k_i_1 ?_
      refine j_isub (pc := 48) d_Search_reaches_48 ?_
      refine j_callS3 (pc := 49) d_Search_reaches_49 (C_Search_canMend n a3 r4 ((a2 - a1) - 1) M5) cS_Search_135 cd_Search_canMend dn_Search_canMend rfl (by show 3 + 1 ≤ 7 + (f + 1); omega) (Nat.le_of_ble_eq_true rfl) (Nat.le_of_ble_eq_true rfl) nr_I (fun r6 M7 => ?_)
      refine j_nmk (fun k => ∀ (M8 : Mem), J (mt_Search_reaches (f + 1)) wI 101 [(0, Value.ref 26), (1, Value.int a1), (2, Value.int a2), (3, Value.int a3), (4, Value.int v4)] [] M8 (k M8)) (fun M8 => ?_) (fun k101 hk101 => ?_)
      · refine j_iinc (pc := 101) (q := 4) d_Search_reaches_101 rfl (congrArg (v4 + ·) k_i_1) (by show 4 < 5; decide) rfl ?_
        refine j_goto (pc := 104) (tgt := 29) d_Search_reaches_104 (by decide) ?_
        refine j_lv [1, 2, 3, 4, 0] rfl ?_
        exact ih (v4 + 1) M8
      · refine j_if_eq (pc := 52) (tgt := 101) d_Search_reaches_52 (by decide) (fun _ => ?_) (fun _ => ?_)
        · exact hk101 M7
        · refine j_aload_n (pc := 55) (q := 0) d_Search_reaches_55 rfl rfl ?_
          refine j_iload_n (pc := 56) (q := 1) d_Search_reaches_56 rfl rfl ?_
          refine j_iload (pc := 57) (q := 4) d_Search_reaches_57 rfl ?_
          refine j_callV2 (pc := 59) d_Search_reaches_59 (C_Search_step n a1 v4 M7) cV_Search_139 cd_Search_step dn_Search_step rfl (by show 6 + 1 ≤ 7 + (f + 1); omega) (Nat.le_of_ble_eq_true rfl) (Nat.le_of_ble_eq_true rfl) nr_I sx_26 (by decide) rfl (fun r9 M10 => ?_)
          refine j_if_eq (pc := 62) (tgt := 101) d_Search_reaches_62 (by decide) (fun _ => ?_) (fun _ => ?_)
          · exact hk101 M10
          · refine j_aload_n (pc := 65) (q := 0) d_Search_reaches_65 rfl rfl ?_
            refine j_aload_n (pc := 66) (q := 0) d_Search_reaches_66 rfl rfl ?_
            refine j_getA (pc := 67) d_Search_reaches_67 fl_Search_20 sx_26 (by decide) rfl ?_
            refine j_iload_n (pc := 70) (q := 1) d_Search_reaches_70 rfl rfl ?_
            refine j_iconst (pc := 71) d_Search_reaches_71 k_i_1 ?_
            refine j_iadd (pc := 72) d_Search_reaches_72 ?_
            refine j_aald2 (pc := 73) (ids := [30, 31, 32, 33, 34, 35, 36]) d_Search_reaches_73 sx_29 (fun h11 => ?_)
            refine j_callV1 (pc := 74) d_Search_reaches_74 (C_Search_isBarred n (([30, 31, 32, 33, 34, 35, 36] : List Nat).getD (a1 + 1).toNatClampNeg 0) (sh_level h11) M10) cV_Search_64 cd_Search_isBarred dn_Search_isBarred rfl (by show 3 + 1 ≤ 7 + (f + 1); omega) (Nat.le_of_ble_eq_true rfl) (Nat.le_of_ble_eq_true rfl) nr_I sx_26 (by decide) rfl (fun r12 M13 => ?_)
            refine j_if_ne (pc := 77) (tgt := 101) d_Search_reaches_77 (by decide) (fun _ => ?_) (fun _ => ?_)
            · exact hk101 M13
            · refine j_aload_n (pc := 80) (q := 0) d_Search_reaches_80 rfl rfl ?_
              refine j_getA (pc := 81) d_Search_reaches_81 fl_Search_11 sx_26 (by decide) rfl ?_
              refine j_iload_n (pc := 84) (q := 1) d_Search_reaches_84 rfl rfl ?_
              refine j_iload (pc := 85) (q := 4) d_Search_reaches_85 rfl ?_
              refine j_iast (pc := 87) d_Search_reaches_87 sx_27 (fun _ => ?_)
              refine j_aload_n (pc := 88) (q := 0) d_Search_reaches_88 rfl rfl ?_
              refine j_iload_n (pc := 89) (q := 1) d_Search_reaches_89 rfl rfl ?_
              refine j_iconst (pc := 90) d_Search_reaches_90 k_i_1 ?_
              refine j_iadd (pc := 91) d_Search_reaches_91 ?_
              refine j_iload_n (pc := 92) (q := 2) d_Search_reaches_92 rfl rfl ?_
              refine j_nmM (fun N14 => ?_)
              refine j_callS3 (pc := 93) d_Search_reaches_93 (hself (a1 + 1) a2 N14) cS_Search_68 cd_Search_reaches dn_Search_reaches rfl (Nat.le_refl _) (Nat.le_of_ble_eq_true rfl) (Nat.le_of_ble_eq_true rfl) nr_I (fun r15 M16 => ?_)
              refine j_if_eq (pc := 96) (tgt := 101) d_Search_reaches_96 (by decide) (fun _ => ?_) (fun _ => ?_)
              · exact hk101 M16
              · refine j_iconst (pc := 99) d_Search_reaches_99 k_i_1 ?_
                exact j_zreturn (pc := 100) d_Search_reaches_100 rfl rfl
set_option maxRecDepth 20000 in
set_option maxHeartbeats 4000000 in
theorem C_Search_reaches (n : Nat) : ∀ (f : Nat) (p1 : Int32) (p2 : Int32) (M : Mem), Ct y_Search_reaches (mt_Search_reaches f) wI [Value.ref 26, Value.int p1, Value.int p2] M (X_Search_reaches n f p1 p2 M) := by
  intro f
  induction f with
  | zero => intro p1 p2 M r M2 hF; cases hF
  | succ f ihf =>
    intro p1 p2 M
    refine ct_of (by decide +kernel) rfl (Nat.le_of_ble_eq_true rfl) ?_
    show J _ _ _ [(0, Value.ref 26), (1, Value.int p1), (2, Value.int p2)] _ _ (gd p1 7 (
bd (X_Search_amiss n (([30, 31, 32, 33, 34, 35, 36] : List Nat).getD p1.toNatClampNeg 0) M) fun r2 M3 =>
(if p1 < p2 then
X_Search_reaches_L29 n (X_Search_reaches n f) p1 p2 r2 n 0 M3
else
(if r2 = 0 then
some (1, M3)
else
some (0, M3)))))
    refine j_aload_n (pc := 0) (q := 0) d_Search_reaches_0 rfl rfl ?_
    refine j_aload_n (pc := 1) (q := 0) d_Search_reaches_1 rfl rfl ?_
    refine j_getA (pc := 2) d_Search_reaches_2 fl_Search_20 sx_26 (by decide) rfl ?_
    refine j_iload_n (pc := 5) (q := 1) d_Search_reaches_5 rfl rfl ?_
    refine j_aald2 (pc := 6) (ids := [30, 31, 32, 33, 34, 35, 36]) d_Search_reaches_6 sx_29 (fun h1 => ?_)
    refine j_callV1 (pc := 7) d_Search_reaches_7 (C_Search_amiss n (([30, 31, 32, 33, 34, 35, 36] : List Nat).getD p1.toNatClampNeg 0) (sh_level h1) M) cV_Search_72 cd_Search_amiss dn_Search_amiss rfl (by show 3 + 1 ≤ 7 + (f + 1); omega) (Nat.le_of_ble_eq_true rfl) (Nat.le_of_ble_eq_true rfl) nr_I sx_26 (by decide) rfl (fun r2 M3 => ?_)
    refine j_istore_n (pc := 10) d_Search_reaches_10 rfl (by show 3 < 5; decide) rfl ?_
    refine j_iload_n (pc := 11) (q := 2) d_Search_reaches_11 rfl rfl ?_
    refine j_iload_n (pc := 12) (q := 3) d_Search_reaches_12 rfl rfl ?_
    refine j_icmp_lt (pc := 13) (tgt := 26) d_Search_reaches_13 (by decide) (fun _ => ?_) (fun _ => ?_)
    · refine j_iconst (pc := 26) d_Search_reaches_26 k_i_0 ?_
      refine j_istore (pc := 27) d_Search_reaches_27 (by show 4 < 5; decide) rfl ?_
      refine j_lv [2, 3, 4, 1, 0] rfl ?_
      exact X_Search_reaches_L29_ok ihf  n 0 M3
    · refine j_iload_n (pc := 16) (q := 0) d_Search_reaches_16 rfl rfl ?_
      refine j_if_ne (pc := 17) (tgt := 24) d_Search_reaches_17 (by decide) (fun _ => ?_) (fun _ => ?_)
      · refine j_iconst (pc := 24) d_Search_reaches_24 k_i_0 ?_
        exact j_zreturn (pc := 25) d_Search_reaches_25 rfl rfl
      · refine j_iconst (pc := 20) d_Search_reaches_20 k_i_1 ?_
        refine j_goto (pc := 21) (tgt := 25) d_Search_reaches_21 (by decide) ?_
        exact j_zreturn (pc := 25) d_Search_reaches_25 rfl rfl
-- Search.fewestHands ()I
def mt_Search_fewestHands : Mt := ("ShakeHands$Search", b_Search_fewestHands, 2, some .int, 20, SHx)
theorem d_Search_fewestHands_0 : decode b_Search_fewestHands 0 = .ok (.aload_n 0, 1) := by decide +kernel
theorem d_Search_fewestHands_1 : decode b_Search_fewestHands 1 = .ok (.aload_n 0, 1) := by decide +kernel
theorem d_Search_fewestHands_2 : decode b_Search_fewestHands 2 = .ok (.getfield 20, 3) := by decide +kernel
theorem d_Search_fewestHands_5 : decode b_Search_fewestHands 5 = .ok (.iconst 0, 1) := by decide +kernel
theorem d_Search_fewestHands_6 : decode b_Search_fewestHands 6 = .ok (.aaload, 1) := by decide +kernel
theorem d_Search_fewestHands_7 : decode b_Search_fewestHands 7 = .ok (.invokevirtual 64, 3) := by decide +kernel
theorem d_Search_fewestHands_10 : decode b_Search_fewestHands 10 = .ok (.ifCond .eq 6, 3) := by decide +kernel
theorem d_Search_fewestHands_13 : decode b_Search_fewestHands 13 = .ok (.bipush (-4), 2) := by decide +kernel
theorem d_Search_fewestHands_15 : decode b_Search_fewestHands 15 = .ok (.ireturn, 1) := by decide +kernel
theorem d_Search_fewestHands_16 : decode b_Search_fewestHands 16 = .ok (.iconst 0, 1) := by decide +kernel
theorem d_Search_fewestHands_17 : decode b_Search_fewestHands 17 = .ok (.istore_n 1, 1) := by decide +kernel
theorem d_Search_fewestHands_18 : decode b_Search_fewestHands 18 = .ok (.iload_n 1, 1) := by decide +kernel
theorem d_Search_fewestHands_19 : decode b_Search_fewestHands 19 = .ok (.iconst 4, 1) := by decide +kernel
theorem d_Search_fewestHands_20 : decode b_Search_fewestHands 20 = .ok (.if_icmp .gt 20, 3) := by decide +kernel
theorem d_Search_fewestHands_23 : decode b_Search_fewestHands 23 = .ok (.aload_n 0, 1) := by decide +kernel
theorem d_Search_fewestHands_24 : decode b_Search_fewestHands 24 = .ok (.iconst 0, 1) := by decide +kernel
theorem d_Search_fewestHands_25 : decode b_Search_fewestHands 25 = .ok (.iload_n 1, 1) := by decide +kernel
theorem d_Search_fewestHands_26 : decode b_Search_fewestHands 26 = .ok (.invokestatic 68, 3) := by decide +kernel
theorem d_Search_fewestHands_29 : decode b_Search_fewestHands 29 = .ok (.ifCond .eq 5, 3) := by decide +kernel
theorem d_Search_fewestHands_32 : decode b_Search_fewestHands 32 = .ok (.iload_n 1, 1) := by decide +kernel
theorem d_Search_fewestHands_33 : decode b_Search_fewestHands 33 = .ok (.ireturn, 1) := by decide +kernel
theorem d_Search_fewestHands_34 : decode b_Search_fewestHands 34 = .ok (.iinc 1 1, 3) := by decide +kernel
theorem d_Search_fewestHands_37 : decode b_Search_fewestHands 37 = .ok (.goto (-19), 3) := by decide +kernel
theorem d_Search_fewestHands_40 : decode b_Search_fewestHands 40 = .ok (.bipush (-4), 2) := by decide +kernel
theorem d_Search_fewestHands_42 : decode b_Search_fewestHands 42 = .ok (.ireturn, 1) := by decide +kernel
def X_Search_fewestHands_L18 (n : Nat) : Nat → Int32 → Mem → Option (Int32 × Mem)
    | 0, _, _ => none
    | m + 1, v1, M => (if 4 < v1 then
    some ((-4), M)
    else
    bd (X_Search_reaches n 12 0 v1 M) fun r4 M5 =>
    (if r4 = 0 then
      X_Search_fewestHands_L18 n m (v1 + 1) M5
      else
      some (v1, M5)))
def X_Search_fewestHands (n : Nat) (M : Mem) : Option (Int32 × Mem) :=
  gd (0 : Int32) 7 (
    bd (X_Search_isBarred n (([30, 31, 32, 33, 34, 35, 36] : List Nat).getD (0 : Int32).toNatClampNeg 0) M) fun r2 M3 =>
    (if r2 = 0 then
      X_Search_fewestHands_L18 n n 0 M3
      else
      some ((-4), M3)))
set_option maxRecDepth 20000 in
set_option maxHeartbeats 4000000 in
theorem X_Search_fewestHands_L18_ok {n : Nat} : ∀ (m : Nat) (v1 : Int32) (M : Mem), J (mt_Search_fewestHands) wI 18 [(0, Value.ref 26), (1, Value.int v1)] [] M (X_Search_fewestHands_L18 n m v1 M) := by
  intro m
  induction m with
  | zero => intro _ _; exact j_none
  | succ m ih =>
    intro v1 M
    show J _ _ _ _ _ _ ((if 4 < v1 then
some ((-4), M)
else
bd (X_Search_reaches n 12 0 v1 M) fun r4 M5 =>
(if r4 = 0 then
X_Search_fewestHands_L18 n m (v1 + 1) M5
else
some (v1, M5))))
    refine j_iload_n (pc := 18) (q := 1) d_Search_fewestHands_18 rfl rfl ?_
    refine j_iconst (pc := 19) d_Search_fewestHands_19 k_i_4 ?_
    refine j_icmp_gt (pc := 20) (tgt := 40) d_Search_fewestHands_20 (by decide) (fun _ => ?_) (fun _ => ?_)
    · refine j_bipush (pc := 40) d_Search_fewestHands_40 k_b_m4 ?_
      exact j_ireturn (pc := 42) d_Search_fewestHands_42 rfl
    · refine j_aload_n (pc := 23) (q := 0) d_Search_fewestHands_23 rfl rfl ?_
      refine j_iconst (pc := 24) d_Search_fewestHands_24 k_i_0 ?_
      refine j_iload_n (pc := 25) (q := 1) d_Search_fewestHands_25 rfl rfl ?_
      refine j_callS3 (pc := 26) d_Search_fewestHands_26 (C_Search_reaches n 12 0 v1 M) cS_Search_68 cd_Search_reaches dn_Search_reaches rfl (by decide) (Nat.le_of_ble_eq_true rfl) (Nat.le_of_ble_eq_true rfl) nr_I (fun r4 M5 => ?_)
      refine j_if_eq (pc := 29) (tgt := 34) d_Search_fewestHands_29 (by decide) (fun _ => ?_) (fun _ => ?_)
      · refine j_iinc (pc := 34) (q := 1) d_Search_fewestHands_34 rfl (congrArg (v1 + ·) k_i_1) (by decide) rfl ?_
        refine j_goto (pc := 37) (tgt := 18) d_Search_fewestHands_37 (by decide) ?_
        refine j_lv [1, 0] rfl ?_
        exact ih (v1 + 1) M5
      · refine j_iload_n (pc := 32) (q := 1) d_Search_fewestHands_32 rfl rfl ?_
        exact j_ireturn (pc := 33) d_Search_fewestHands_33 rfl
set_option maxRecDepth 20000 in
set_option maxHeartbeats 4000000 in
theorem C_Search_fewestHands (n : Nat)    (M : Mem) : Ct y_Search_fewestHands mt_Search_fewestHands wI [Value.ref 26] M (X_Search_fewestHands n M) := by
  refine ct_of (by decide +kernel) rfl (Nat.le_of_ble_eq_true rfl) ?_
  show J _ _ _ [(0, Value.ref 26)] _ _ _
  unfold X_Search_fewestHands
  refine j_aload_n (pc := 0) (q := 0) d_Search_fewestHands_0 rfl rfl ?_
  refine j_aload_n (pc := 1) (q := 0) d_Search_fewestHands_1 rfl rfl ?_
  refine j_getA (pc := 2) d_Search_fewestHands_2 fl_Search_20 sx_26 (by decide) rfl ?_
  refine j_iconst (pc := 5) d_Search_fewestHands_5 k_i_0 ?_
  refine j_aald2 (pc := 6) (ids := [30, 31, 32, 33, 34, 35, 36]) d_Search_fewestHands_6 sx_29 (fun h1 => ?_)
  refine j_callV1 (pc := 7) d_Search_fewestHands_7 (C_Search_isBarred n (([30, 31, 32, 33, 34, 35, 36] : List Nat).getD (0 : Int32).toNatClampNeg 0) (sh_level h1) M) cV_Search_64 cd_Search_isBarred dn_Search_isBarred rfl (by decide) (Nat.le_of_ble_eq_true rfl) (Nat.le_of_ble_eq_true rfl) nr_I sx_26 (by decide) rfl (fun r2 M3 => ?_)
  refine j_if_eq (pc := 10) (tgt := 16) d_Search_fewestHands_10 (by decide) (fun _ => ?_) (fun _ => ?_)
  · refine j_iconst (pc := 16) d_Search_fewestHands_16 k_i_0 ?_
    refine j_istore_n (pc := 17) d_Search_fewestHands_17 rfl (by decide) rfl ?_
    refine j_lv [1, 0] rfl ?_
    exact X_Search_fewestHands_L18_ok   n 0 M3
  · refine j_bipush (pc := 13) d_Search_fewestHands_13 k_b_m4 ?_
    exact j_ireturn (pc := 15) d_Search_fewestHands_15 rfl
-- Search.turns (LShakeHands$Search;IIII)Z
def mt_Search_turns (f : Nat) : Mt := ("ShakeHands$Search", b_Search_turns, 7, some .boolean, 7 + f, SHx)
theorem d_Search_turns_0 : decode b_Search_turns 0 = .ok (.iload 4, 2) := by decide +kernel
theorem d_Search_turns_2 : decode b_Search_turns 2 = .ok (.ifCond .ne 22, 3) := by decide +kernel
theorem d_Search_turns_5 : decode b_Search_turns 5 = .ok (.aload_n 0, 1) := by decide +kernel
theorem d_Search_turns_6 : decode b_Search_turns 6 = .ok (.aload_n 0, 1) := by decide +kernel
theorem d_Search_turns_7 : decode b_Search_turns 7 = .ok (.getfield 20, 3) := by decide +kernel
theorem d_Search_turns_10 : decode b_Search_turns 10 = .ok (.iload_n 1, 1) := by decide +kernel
theorem d_Search_turns_11 : decode b_Search_turns 11 = .ok (.aaload, 1) := by decide +kernel
theorem d_Search_turns_12 : decode b_Search_turns 12 = .ok (.invokevirtual 72, 3) := by decide +kernel
theorem d_Search_turns_15 : decode b_Search_turns 15 = .ok (.ifCond .ne 7, 3) := by decide +kernel
theorem d_Search_turns_18 : decode b_Search_turns 18 = .ok (.iconst 1, 1) := by decide +kernel
theorem d_Search_turns_19 : decode b_Search_turns 19 = .ok (.goto 4, 3) := by decide +kernel
theorem d_Search_turns_22 : decode b_Search_turns 22 = .ok (.iconst 0, 1) := by decide +kernel
theorem d_Search_turns_23 : decode b_Search_turns 23 = .ok (.ireturn, 1) := by decide +kernel
theorem d_Search_turns_24 : decode b_Search_turns 24 = .ok (.aload_n 0, 1) := by decide +kernel
theorem d_Search_turns_25 : decode b_Search_turns 25 = .ok (.aload_n 0, 1) := by decide +kernel
theorem d_Search_turns_26 : decode b_Search_turns 26 = .ok (.getfield 20, 3) := by decide +kernel
theorem d_Search_turns_29 : decode b_Search_turns 29 = .ok (.iload_n 1, 1) := by decide +kernel
theorem d_Search_turns_30 : decode b_Search_turns 30 = .ok (.aaload, 1) := by decide +kernel
theorem d_Search_turns_31 : decode b_Search_turns 31 = .ok (.invokevirtual 64, 3) := by decide +kernel
theorem d_Search_turns_34 : decode b_Search_turns 34 = .ok (.ifCond .ne 19, 3) := by decide +kernel
theorem d_Search_turns_37 : decode b_Search_turns 37 = .ok (.aload_n 0, 1) := by decide +kernel
theorem d_Search_turns_38 : decode b_Search_turns 38 = .ok (.iload_n 1, 1) := by decide +kernel
theorem d_Search_turns_39 : decode b_Search_turns 39 = .ok (.iconst 0, 1) := by decide +kernel
theorem d_Search_turns_40 : decode b_Search_turns 40 = .ok (.iconst 0, 1) := by decide +kernel
theorem d_Search_turns_41 : decode b_Search_turns 41 = .ok (.iload 4, 2) := by decide +kernel
theorem d_Search_turns_43 : decode b_Search_turns 43 = .ok (.iconst 1, 1) := by decide +kernel
theorem d_Search_turns_44 : decode b_Search_turns 44 = .ok (.isub, 1) := by decide +kernel
theorem d_Search_turns_45 : decode b_Search_turns 45 = .ok (.invokestatic 76, 3) := by decide +kernel
theorem d_Search_turns_48 : decode b_Search_turns 48 = .ok (.ifCond .eq 5, 3) := by decide +kernel
theorem d_Search_turns_51 : decode b_Search_turns 51 = .ok (.iconst 1, 1) := by decide +kernel
theorem d_Search_turns_52 : decode b_Search_turns 52 = .ok (.ireturn, 1) := by decide +kernel
theorem d_Search_turns_53 : decode b_Search_turns 53 = .ok (.iload_n 3, 1) := by decide +kernel
theorem d_Search_turns_54 : decode b_Search_turns 54 = .ok (.istore 5, 2) := by decide +kernel
theorem d_Search_turns_56 : decode b_Search_turns 56 = .ok (.iload 5, 2) := by decide +kernel
theorem d_Search_turns_58 : decode b_Search_turns 58 = .ok (.aload_n 0, 1) := by decide +kernel
theorem d_Search_turns_59 : decode b_Search_turns 59 = .ok (.getfield 37, 3) := by decide +kernel
theorem d_Search_turns_62 : decode b_Search_turns 62 = .ok (.if_icmp .ge 67, 3) := by decide +kernel
theorem d_Search_turns_65 : decode b_Search_turns 65 = .ok (.iload_n 1, 1) := by decide +kernel
theorem d_Search_turns_66 : decode b_Search_turns 66 = .ok (.bipush 6, 2) := by decide +kernel
theorem d_Search_turns_68 : decode b_Search_turns 68 = .ok (.if_icmp .ge 61, 3) := by decide +kernel
theorem d_Search_turns_71 : decode b_Search_turns 71 = .ok (.iload 5, 2) := by decide +kernel
theorem d_Search_turns_73 : decode b_Search_turns 73 = .ok (.invokestatic 132, 3) := by decide +kernel
theorem d_Search_turns_76 : decode b_Search_turns 76 = .ok (.istore 6, 2) := by decide +kernel
theorem d_Search_turns_78 : decode b_Search_turns 78 = .ok (.iload_n 2, 1) := by decide +kernel
theorem d_Search_turns_79 : decode b_Search_turns 79 = .ok (.aload_n 0, 1) := by decide +kernel
theorem d_Search_turns_80 : decode b_Search_turns 80 = .ok (.getfield 27, 3) := by decide +kernel
theorem d_Search_turns_83 : decode b_Search_turns 83 = .ok (.getfield 125, 3) := by decide +kernel
theorem d_Search_turns_86 : decode b_Search_turns 86 = .ok (.ior, 1) := by decide +kernel
theorem d_Search_turns_87 : decode b_Search_turns 87 = .ok (.iload 6, 2) := by decide +kernel
theorem d_Search_turns_89 : decode b_Search_turns 89 = .ok (.iand, 1) := by decide +kernel
theorem d_Search_turns_90 : decode b_Search_turns 90 = .ok (.ifCond .ne 33, 3) := by decide +kernel
theorem d_Search_turns_93 : decode b_Search_turns 93 = .ok (.aload_n 0, 1) := by decide +kernel
theorem d_Search_turns_94 : decode b_Search_turns 94 = .ok (.iload_n 1, 1) := by decide +kernel
theorem d_Search_turns_95 : decode b_Search_turns 95 = .ok (.iload 5, 2) := by decide +kernel
theorem d_Search_turns_97 : decode b_Search_turns 97 = .ok (.invokevirtual 139, 3) := by decide +kernel
theorem d_Search_turns_100 : decode b_Search_turns 100 = .ok (.pop, 1) := by decide +kernel
theorem d_Search_turns_101 : decode b_Search_turns 101 = .ok (.aload_n 0, 1) := by decide +kernel
theorem d_Search_turns_102 : decode b_Search_turns 102 = .ok (.iload_n 1, 1) := by decide +kernel
theorem d_Search_turns_103 : decode b_Search_turns 103 = .ok (.iconst 1, 1) := by decide +kernel
theorem d_Search_turns_104 : decode b_Search_turns 104 = .ok (.iadd, 1) := by decide +kernel
theorem d_Search_turns_105 : decode b_Search_turns 105 = .ok (.iload_n 2, 1) := by decide +kernel
theorem d_Search_turns_106 : decode b_Search_turns 106 = .ok (.iload 6, 2) := by decide +kernel
theorem d_Search_turns_108 : decode b_Search_turns 108 = .ok (.ior, 1) := by decide +kernel
theorem d_Search_turns_109 : decode b_Search_turns 109 = .ok (.iload 5, 2) := by decide +kernel
theorem d_Search_turns_111 : decode b_Search_turns 111 = .ok (.iconst 1, 1) := by decide +kernel
theorem d_Search_turns_112 : decode b_Search_turns 112 = .ok (.iadd, 1) := by decide +kernel
theorem d_Search_turns_113 : decode b_Search_turns 113 = .ok (.iload 4, 2) := by decide +kernel
theorem d_Search_turns_115 : decode b_Search_turns 115 = .ok (.invokestatic 76, 3) := by decide +kernel
theorem d_Search_turns_118 : decode b_Search_turns 118 = .ok (.ifCond .eq 5, 3) := by decide +kernel
theorem d_Search_turns_121 : decode b_Search_turns 121 = .ok (.iconst 1, 1) := by decide +kernel
theorem d_Search_turns_122 : decode b_Search_turns 122 = .ok (.ireturn, 1) := by decide +kernel
theorem d_Search_turns_123 : decode b_Search_turns 123 = .ok (.iinc 5 1, 3) := by decide +kernel
theorem d_Search_turns_126 : decode b_Search_turns 126 = .ok (.goto (-70), 3) := by decide +kernel
theorem d_Search_turns_129 : decode b_Search_turns 129 = .ok (.iconst 0, 1) := by decide +kernel
theorem d_Search_turns_130 : decode b_Search_turns 130 = .ok (.ireturn, 1) := by decide +kernel
def X_Search_turns_L56 (n : Nat) (self : Int32 → Int32 → Int32 → Int32 → Mem → Option (Int32 × Mem)) (a1 : Int32) (a2 : Int32) (a4 : Int32) : Nat → Int32 → Mem → Option (Int32 × Mem)
    | 0, _, _ => none
    | m + 1, v5, M => (if (M.1 26 8) ≤ v5 then
    some (0, M)
    else
    (if 6 ≤ a1 then
      some (0, M)
      else
      bd (X_Search_bitsOf n v5 M) fun r5 M6 =>
      nm (fun (M7 : Mem) => (X_Search_turns_L56 n self a1 a2 a4 m (v5 + 1) M7 : Option (Int32 × Mem))) fun k123 =>
      (if ((a2 ||| (M6.1 16 1)) &&& r5) = 0 then
        bd (X_Search_step n a1 v5 M6) fun r8 M9 =>
        bd (self (a1 + 1) (a2 ||| r5) (v5 + 1) a4 M9) fun r10 M11 =>
        (if r10 = 0 then
          k123 M11
          else
          some (1, M11))
        else
        k123 M6)))
def X_Search_turns (n : Nat) : Nat → Int32 → Int32 → Int32 → Int32 → Mem → Option (Int32 × Mem)
    | 0, _, _, _, _, _ => none
    | f + 1, p1, p2, p3, p4, M => (if p4 = 0 then
    gd p1 7 (
      bd (X_Search_amiss n (([30, 31, 32, 33, 34, 35, 36] : List Nat).getD p1.toNatClampNeg 0) M) fun r15 M16 =>
      (if r15 = 0 then
        some (1, M16)
        else
        some (0, M16)))
    else
    gd p1 7 (
      bd (X_Search_isBarred n (([30, 31, 32, 33, 34, 35, 36] : List Nat).getD p1.toNatClampNeg 0) M) fun r2 M3 =>
      nm (fun (M4 : Mem) => (X_Search_turns_L56 n (X_Search_turns n f) p1 p2 p4 n p3 M4 : Option (Int32 × Mem))) fun k53 =>
      (if r2 = 0 then
        bd ((X_Search_turns n f) p1 0 0 (p4 - 1) M3) fun r12 M13 =>
        (if r12 = 0 then
          k53 M13
          else
          some (1, M13))
        else
        k53 M3)))
set_option maxRecDepth 20000 in
set_option maxHeartbeats 4000000 in
theorem X_Search_turns_L56_ok {n : Nat} {f : Nat} {self : Int32 → Int32 → Int32 → Int32 → Mem → Option (Int32 × Mem)} {a1 : Int32} {a2 : Int32} {a4 : Int32} (hself : ∀ (q0 : Int32) (q1 : Int32) (q2 : Int32) (q3 : Int32) (M : Mem), Ct y_Search_turns (mt_Search_turns f) wI [Value.ref 26, Value.int q0, Value.int q1, Value.int q2, Value.int q3] M (self q0 q1 q2 q3 M)) : ∀ (m : Nat) (v5 : Int32) (M : Mem), J (mt_Search_turns (f + 1)) wI 56 [(0, Value.ref 26), (1, Value.int a1), (2, Value.int a2), (4, Value.int a4), (5, Value.int v5)] [] M (X_Search_turns_L56 n self a1 a2 a4 m v5 M) := by
  intro m
  induction m with
  | zero => intro _ _; exact j_none
  | succ m ih =>
    intro v5 M
    show J _ _ _ _ _ _ ((if (M.1 26 8) ≤ v5 then
some (0, M)
else
(if 6 ≤ a1 then
some (0, M)
else
bd (X_Search_bitsOf n v5 M) fun r5 M6 =>
nm (fun (M7 : Mem) => (X_Search_turns_L56 n self a1 a2 a4 m (v5 + 1) M7 : Option (Int32 × Mem))) fun k123 =>
(if ((a2 ||| (M6.1 16 1)) &&& r5) = 0 then
bd (X_Search_step n a1 v5 M6) fun r8 M9 =>
bd (self (a1 + 1) (a2 ||| r5) (v5 + 1) a4 M9) fun r10 M11 =>
(if r10 = 0 then
k123 M11
else
some (1, M11))
else
k123 M6))))
    refine j_iload (pc := 56) (q := 4) d_Search_turns_56 rfl ?_
    refine j_aload_n (pc := 58) (q := 0) d_Search_turns_58 rfl rfl ?_
    refine j_getI (pc := 59) d_Search_turns_59 fl_Search_37 sx_26 (by decide) rfl ?_
    refine j_icmp_ge (pc := 62) (tgt := 129) d_Search_turns_62 (by decide) (fun _ => ?_) (fun _ => ?_)
    · refine j_iconst (pc := 129) d_Search_turns_129 k_i_0 ?_
      exact j_zreturn (pc := 130) d_Search_turns_130 rfl rfl
    · refine j_iload_n (pc := 65) (q := 1) d_Search_turns_65 rfl rfl ?_
      refine j_bipush (pc := 66) d_Search_turns_66 k_b_6 ?_
      refine j_icmp_ge (pc := 68) (tgt := 129) d_Search_turns_68 (by decide) (fun _ => ?_) (fun _ => ?_)
      · refine j_iconst (pc := 129) d_Search_turns_129 k_i_0 ?_
        exact j_zreturn (pc := 130) d_Search_turns_130 rfl rfl
      · refine j_iload (pc := 71) (q := 4) d_Search_turns_71 rfl ?_
        refine j_callS1 (pc := 73) d_Search_turns_73 (C_Search_bitsOf n v5 M) cS_Search_132 cd_Search_bitsOf dn_Search_bitsOf rfl (by show 2 + 1 ≤ 7 + (f + 1); omega) (Nat.le_of_ble_eq_true rfl) (Nat.le_of_ble_eq_true rfl) nr_I (fun r5 M6 => ?_)
        refine j_istore (pc := 76) d_Search_turns_76 (by show 6 < 7; decide) rfl ?_
        refine j_iload_n (pc := 78) (q := 3) d_Search_turns_78 rfl rfl ?_
        refine j_aload_n (pc := 79) (q := 1) d_Search_turns_79 rfl rfl ?_
        refine j_getA (pc := 80) d_Search_turns_80 fl_Search_27 sx_26 (by decide) rfl ?_
        refine j_getI (pc := 83) d_Search_turns_83 fl_Search_125 sx_16 (by decide) rfl ?_
        refine j_ior (pc := 86) d_Search_turns_86 ?_
        refine j_iload (pc := 87) (q := 0) d_Search_turns_87 rfl ?_
        refine j_iand (pc := 89) d_Search_turns_89 ?_
        refine j_nmk (fun k => ∀ (M7 : Mem), J (mt_Search_turns (f + 1)) wI 123 [(0, Value.ref 26), (1, Value.int a1), (2, Value.int a2), (4, Value.int a4), (5, Value.int v5)] [] M7 (k M7)) (fun M7 => ?_) (fun k123 hk123 => ?_)
        · refine j_iinc (pc := 123) (q := 4) d_Search_turns_123 rfl (congrArg (v5 + ·) k_i_1) (by show 5 < 7; decide) rfl ?_
          refine j_goto (pc := 126) (tgt := 56) d_Search_turns_126 (by decide) ?_
          refine j_lv [1, 2, 3, 4, 0] rfl ?_
          exact ih (v5 + 1) M7
        · refine j_if_ne (pc := 90) (tgt := 123) d_Search_turns_90 (by decide) (fun _ => ?_) (fun _ => ?_)
          · refine j_lv [1, 2, 3, 4, 5] rfl ?_
            exact hk123 M6
          · refine j_aload_n (pc := 93) (q := 1) d_Search_turns_93 rfl rfl ?_
            refine j_iload_n (pc := 94) (q := 2) d_Search_turns_94 rfl rfl ?_
            refine j_iload (pc := 95) (q := 5) d_Search_turns_95 rfl ?_
            refine j_callV2 (pc := 97) d_Search_turns_97 (C_Search_step n a1 v5 M6) cV_Search_139 cd_Search_step dn_Search_step rfl (by show 6 + 1 ≤ 7 + (f + 1); omega) (Nat.le_of_ble_eq_true rfl) (Nat.le_of_ble_eq_true rfl) nr_I sx_26 (by decide) rfl (fun r8 M9 => ?_)
            refine j_pop (pc := 100) d_Search_turns_100 rfl ?_
            refine j_aload_n (pc := 101) (q := 1) d_Search_turns_101 rfl rfl ?_
            refine j_iload_n (pc := 102) (q := 2) d_Search_turns_102 rfl rfl ?_
            refine j_iconst (pc := 103) d_Search_turns_103 k_i_1 ?_
            refine j_iadd (pc := 104) d_Search_turns_104 ?_
            refine j_iload_n (pc := 105) (q := 3) d_Search_turns_105 rfl rfl ?_
            refine j_iload (pc := 106) (q := 0) d_Search_turns_106 rfl ?_
            refine j_ior (pc := 108) d_Search_turns_108 ?_
            refine j_iload (pc := 109) (q := 5) d_Search_turns_109 rfl ?_
            refine j_iconst (pc := 111) d_Search_turns_111 k_i_1 ?_
            refine j_iadd (pc := 112) d_Search_turns_112 ?_
            refine j_iload (pc := 113) (q := 4) d_Search_turns_113 rfl ?_
            refine j_callS5 (pc := 115) d_Search_turns_115 (hself (a1 + 1) (a2 ||| r5) (v5 + 1) a4 M9) cS_Search_76 cd_Search_turns dn_Search_turns rfl (Nat.le_refl _) (Nat.le_of_ble_eq_true rfl) (Nat.le_of_ble_eq_true rfl) nr_I (fun r10 M11 => ?_)
            refine j_if_eq (pc := 118) (tgt := 123) d_Search_turns_118 (by decide) (fun _ => ?_) (fun _ => ?_)
            · refine j_lv [1, 2, 3, 4, 5] rfl ?_
              exact hk123 M11
            · refine j_iconst (pc := 121) d_Search_turns_121 k_i_1 ?_
              exact j_zreturn (pc := 122) d_Search_turns_122 rfl rfl
set_option maxRecDepth 20000 in
set_option maxHeartbeats 4000000 in
theorem C_Search_turns (n : Nat) : ∀ (f : Nat) (p1 : Int32) (p2 : Int32) (p3 : Int32) (p4 : Int32) (M : Mem), Ct y_Search_turns (mt_Search_turns f) wI [Value.ref 26, Value.int p1, Value.int p2, Value.int p3, Value.int p4] M (X_Search_turns n f p1 p2 p3 p4 M) := by
  intro f
  induction f with
  | zero => intro p1 p2 p3 p4 M r M2 hF; cases hF
  | succ f ihf =>
    intro p1 p2 p3 p4 M
    refine ct_of (by decide +kernel) rfl (Nat.le_of_ble_eq_true rfl) ?_
    show J _ _ _ [(0, Value.ref 26), (1, Value.int p1), (2, Value.int p2), (3, Value.int p3), (4, Value.int p4)] _ _ ((if p4 = 0 then
gd p1 7 (
bd (X_Search_amiss n (([30, 31, 32, 33, 34, 35, 36] : List Nat).getD p1.toNatClampNeg 0) M) fun r15 M16 =>
(if r15 = 0 then
some (1, M16)
else
some (0, M16)))
else
gd p1 7 (
bd (X_Search_isBarred n (([30, 31, 32, 33, 34, 35, 36] : List Nat).getD p1.toNatClampNeg 0) M) fun r2 M3 =>
nm (fun (M4 : Mem) => (X_Search_turns_L56 n (X_Search_turns n f) p1 p2 p4 n p3 M4 : Option (Int32 × Mem))) fun k53 =>
(if r2 = 0 then
bd ((X_Search_turns n f) p1 0 0 (p4 - 1) M3) fun r12 M13 =>
(if r12 = 0 then
k53 M13
else
some (1, M13))
else
k53 M3))))
    refine j_iload (pc := 0) (q := 4) d_Search_turns_0 rfl ?_
    refine j_if_ne (pc := 2) (tgt := 24) d_Search_turns_2 (by decide) (fun _ => ?_) (fun _ => ?_)
    · refine j_aload_n (pc := 24) (q := 0) d_Search_turns_24 rfl rfl ?_
      refine j_aload_n (pc := 25) (q := 0) d_Search_turns_25 rfl rfl ?_
      refine j_getA (pc := 26) d_Search_turns_26 fl_Search_20 sx_26 (by decide) rfl ?_
      refine j_iload_n (pc := 29) (q := 1) d_Search_turns_29 rfl rfl ?_
      refine j_aald2 (pc := 30) (ids := [30, 31, 32, 33, 34, 35, 36]) d_Search_turns_30 sx_29 (fun h1 => ?_)
      refine j_callV1 (pc := 31) d_Search_turns_31 (C_Search_isBarred n (([30, 31, 32, 33, 34, 35, 36] : List Nat).getD p1.toNatClampNeg 0) (sh_level h1) M) cV_Search_64 cd_Search_isBarred dn_Search_isBarred rfl (by show 3 + 1 ≤ 7 + (f + 1); omega) (Nat.le_of_ble_eq_true rfl) (Nat.le_of_ble_eq_true rfl) nr_I sx_26 (by decide) rfl (fun r2 M3 => ?_)
      refine j_nmk (fun k => ∀ (M4 : Mem), J (mt_Search_turns (f + 1)) wI 53 [(0, Value.ref 26), (1, Value.int p1), (2, Value.int p2), (3, Value.int p3), (4, Value.int p4)] [] M4 (k M4)) (fun M4 => ?_) (fun k53 hk53 => ?_)
      · refine j_iload_n (pc := 53) (q := 3) d_Search_turns_53 rfl rfl ?_
        refine j_istore (pc := 54) d_Search_turns_54 (by show 5 < 7; decide) rfl ?_
        refine j_lv [1, 2, 3, 5, 0] rfl ?_
        exact X_Search_turns_L56_ok ihf  n p3 M4
      · refine j_if_ne (pc := 34) (tgt := 53) d_Search_turns_34 (by decide) (fun _ => ?_) (fun _ => ?_)
        · exact hk53 M3
        · refine j_aload_n (pc := 37) (q := 0) d_Search_turns_37 rfl rfl ?_
          refine j_iload_n (pc := 38) (q := 1) d_Search_turns_38 rfl rfl ?_
          refine j_iconst (pc := 39) d_Search_turns_39 k_i_0 ?_
          refine j_iconst (pc := 40) d_Search_turns_40 k_i_0 ?_
          refine j_iload (pc := 41) (q := 4) d_Search_turns_41 rfl ?_
          refine j_iconst (pc := 43) d_Search_turns_43 k_i_1 ?_
          refine j_isub (pc := 44) d_Search_turns_44 ?_
          refine j_callS5 (pc := 45) d_Search_turns_45 (ihf p1 0 0 (p4 - 1) M3) cS_Search_76 cd_Search_turns dn_Search_turns rfl (Nat.le_refl _) (Nat.le_of_ble_eq_true rfl) (Nat.le_of_ble_eq_true rfl) nr_I (fun r12 M13 => ?_)
          refine j_if_eq (pc := 48) (tgt := 53) d_Search_turns_48 (by decide) (fun _ => ?_) (fun _ => ?_)
          · exact hk53 M13
          · refine j_iconst (pc := 51) d_Search_turns_51 k_i_1 ?_
            exact j_zreturn (pc := 52) d_Search_turns_52 rfl rfl
    · refine j_aload_n (pc := 5) (q := 0) d_Search_turns_5 rfl rfl ?_
      refine j_aload_n (pc := 6) (q := 0) d_Search_turns_6 rfl rfl ?_
      refine j_getA (pc := 7) d_Search_turns_7 fl_Search_20 sx_26 (by decide) rfl ?_
      refine j_iload_n (pc := 10) (q := 1) d_Search_turns_10 rfl rfl ?_
      refine j_aald2 (pc := 11) (ids := [30, 31, 32, 33, 34, 35, 36]) d_Search_turns_11 sx_29 (fun h14 => ?_)
      refine j_callV1 (pc := 12) d_Search_turns_12 (C_Search_amiss n (([30, 31, 32, 33, 34, 35, 36] : List Nat).getD p1.toNatClampNeg 0) (sh_level h14) M) cV_Search_72 cd_Search_amiss dn_Search_amiss rfl (by show 3 + 1 ≤ 7 + (f + 1); omega) (Nat.le_of_ble_eq_true rfl) (Nat.le_of_ble_eq_true rfl) nr_I sx_26 (by decide) rfl (fun r15 M16 => ?_)
      refine j_if_ne (pc := 15) (tgt := 22) d_Search_turns_15 (by decide) (fun _ => ?_) (fun _ => ?_)
      · refine j_iconst (pc := 22) d_Search_turns_22 k_i_0 ?_
        exact j_zreturn (pc := 23) d_Search_turns_23 rfl rfl
      · refine j_iconst (pc := 18) d_Search_turns_18 k_i_1 ?_
        refine j_goto (pc := 19) (tgt := 23) d_Search_turns_19 (by decide) ?_
        exact j_zreturn (pc := 23) d_Search_turns_23 rfl rfl
-- Search.fewestRounds ()I
def mt_Search_fewestRounds : Mt := ("ShakeHands$Search", b_Search_fewestRounds, 2, some .int, 20, SHx)
theorem d_Search_fewestRounds_0 : decode b_Search_fewestRounds 0 = .ok (.aload_n 0, 1) := by decide +kernel
theorem d_Search_fewestRounds_1 : decode b_Search_fewestRounds 1 = .ok (.aload_n 0, 1) := by decide +kernel
theorem d_Search_fewestRounds_2 : decode b_Search_fewestRounds 2 = .ok (.getfield 20, 3) := by decide +kernel
theorem d_Search_fewestRounds_5 : decode b_Search_fewestRounds 5 = .ok (.iconst 0, 1) := by decide +kernel
theorem d_Search_fewestRounds_6 : decode b_Search_fewestRounds 6 = .ok (.aaload, 1) := by decide +kernel
theorem d_Search_fewestRounds_7 : decode b_Search_fewestRounds 7 = .ok (.invokevirtual 64, 3) := by decide +kernel
theorem d_Search_fewestRounds_10 : decode b_Search_fewestRounds 10 = .ok (.ifCond .eq 6, 3) := by decide +kernel
theorem d_Search_fewestRounds_13 : decode b_Search_fewestRounds 13 = .ok (.bipush (-4), 2) := by decide +kernel
theorem d_Search_fewestRounds_15 : decode b_Search_fewestRounds 15 = .ok (.ireturn, 1) := by decide +kernel
theorem d_Search_fewestRounds_16 : decode b_Search_fewestRounds 16 = .ok (.aload_n 0, 1) := by decide +kernel
theorem d_Search_fewestRounds_17 : decode b_Search_fewestRounds 17 = .ok (.aload_n 0, 1) := by decide +kernel
theorem d_Search_fewestRounds_18 : decode b_Search_fewestRounds 18 = .ok (.getfield 20, 3) := by decide +kernel
theorem d_Search_fewestRounds_21 : decode b_Search_fewestRounds 21 = .ok (.iconst 0, 1) := by decide +kernel
theorem d_Search_fewestRounds_22 : decode b_Search_fewestRounds 22 = .ok (.aaload, 1) := by decide +kernel
theorem d_Search_fewestRounds_23 : decode b_Search_fewestRounds 23 = .ok (.invokevirtual 72, 3) := by decide +kernel
theorem d_Search_fewestRounds_26 : decode b_Search_fewestRounds 26 = .ok (.ifCond .ne 5, 3) := by decide +kernel
theorem d_Search_fewestRounds_29 : decode b_Search_fewestRounds 29 = .ok (.iconst 0, 1) := by decide +kernel
theorem d_Search_fewestRounds_30 : decode b_Search_fewestRounds 30 = .ok (.ireturn, 1) := by decide +kernel
theorem d_Search_fewestRounds_31 : decode b_Search_fewestRounds 31 = .ok (.iconst 1, 1) := by decide +kernel
theorem d_Search_fewestRounds_32 : decode b_Search_fewestRounds 32 = .ok (.istore_n 1, 1) := by decide +kernel
theorem d_Search_fewestRounds_33 : decode b_Search_fewestRounds 33 = .ok (.iload_n 1, 1) := by decide +kernel
theorem d_Search_fewestRounds_34 : decode b_Search_fewestRounds 34 = .ok (.iconst 2, 1) := by decide +kernel
theorem d_Search_fewestRounds_35 : decode b_Search_fewestRounds 35 = .ok (.if_icmp .gt 22, 3) := by decide +kernel
theorem d_Search_fewestRounds_38 : decode b_Search_fewestRounds 38 = .ok (.aload_n 0, 1) := by decide +kernel
theorem d_Search_fewestRounds_39 : decode b_Search_fewestRounds 39 = .ok (.iconst 0, 1) := by decide +kernel
theorem d_Search_fewestRounds_40 : decode b_Search_fewestRounds 40 = .ok (.iconst 0, 1) := by decide +kernel
theorem d_Search_fewestRounds_41 : decode b_Search_fewestRounds 41 = .ok (.iconst 0, 1) := by decide +kernel
theorem d_Search_fewestRounds_42 : decode b_Search_fewestRounds 42 = .ok (.iload_n 1, 1) := by decide +kernel
theorem d_Search_fewestRounds_43 : decode b_Search_fewestRounds 43 = .ok (.invokestatic 76, 3) := by decide +kernel
theorem d_Search_fewestRounds_46 : decode b_Search_fewestRounds 46 = .ok (.ifCond .eq 5, 3) := by decide +kernel
theorem d_Search_fewestRounds_49 : decode b_Search_fewestRounds 49 = .ok (.iload_n 1, 1) := by decide +kernel
theorem d_Search_fewestRounds_50 : decode b_Search_fewestRounds 50 = .ok (.ireturn, 1) := by decide +kernel
theorem d_Search_fewestRounds_51 : decode b_Search_fewestRounds 51 = .ok (.iinc 1 1, 3) := by decide +kernel
theorem d_Search_fewestRounds_54 : decode b_Search_fewestRounds 54 = .ok (.goto (-21), 3) := by decide +kernel
theorem d_Search_fewestRounds_57 : decode b_Search_fewestRounds 57 = .ok (.bipush (-4), 2) := by decide +kernel
theorem d_Search_fewestRounds_59 : decode b_Search_fewestRounds 59 = .ok (.ireturn, 1) := by decide +kernel
def X_Search_fewestRounds_L33 (n : Nat) : Nat → Int32 → Mem → Option (Int32 × Mem)
    | 0, _, _ => none
    | m + 1, v1, M => (if 2 < v1 then
    some ((-4), M)
    else
    bd (X_Search_turns n 12 0 0 0 v1 M) fun r7 M8 =>
    (if r7 = 0 then
      X_Search_fewestRounds_L33 n m (v1 + 1) M8
      else
      some (v1, M8)))
def X_Search_fewestRounds (n : Nat) (M : Mem) : Option (Int32 × Mem) :=
  gd (0 : Int32) 7 (
    bd (X_Search_isBarred n (([30, 31, 32, 33, 34, 35, 36] : List Nat).getD (0 : Int32).toNatClampNeg 0) M) fun r2 M3 =>
    (if r2 = 0 then
      gd (0 : Int32) 7 (
        bd (X_Search_amiss n (([30, 31, 32, 33, 34, 35, 36] : List Nat).getD (0 : Int32).toNatClampNeg 0) M3) fun r5 M6 =>
        (if r5 = 0 then
          some (0, M6)
          else
          X_Search_fewestRounds_L33 n n 1 M6))
      else
      some ((-4), M3)))
set_option maxRecDepth 20000 in
set_option maxHeartbeats 4000000 in
theorem X_Search_fewestRounds_L33_ok {n : Nat} : ∀ (m : Nat) (v1 : Int32) (M : Mem), J (mt_Search_fewestRounds) wI 33 [(0, Value.ref 26), (1, Value.int v1)] [] M (X_Search_fewestRounds_L33 n m v1 M) := by
  intro m
  induction m with
  | zero => intro _ _; exact j_none
  | succ m ih =>
    intro v1 M
    show J _ _ _ _ _ _ ((if 2 < v1 then
some ((-4), M)
else
bd (X_Search_turns n 12 0 0 0 v1 M) fun r7 M8 =>
(if r7 = 0 then
X_Search_fewestRounds_L33 n m (v1 + 1) M8
else
some (v1, M8))))
    refine j_iload_n (pc := 33) (q := 1) d_Search_fewestRounds_33 rfl rfl ?_
    refine j_iconst (pc := 34) d_Search_fewestRounds_34 k_i_2 ?_
    refine j_icmp_gt (pc := 35) (tgt := 57) d_Search_fewestRounds_35 (by decide) (fun _ => ?_) (fun _ => ?_)
    · refine j_bipush (pc := 57) d_Search_fewestRounds_57 k_b_m4 ?_
      exact j_ireturn (pc := 59) d_Search_fewestRounds_59 rfl
    · refine j_aload_n (pc := 38) (q := 0) d_Search_fewestRounds_38 rfl rfl ?_
      refine j_iconst (pc := 39) d_Search_fewestRounds_39 k_i_0 ?_
      refine j_iconst (pc := 40) d_Search_fewestRounds_40 k_i_0 ?_
      refine j_iconst (pc := 41) d_Search_fewestRounds_41 k_i_0 ?_
      refine j_iload_n (pc := 42) (q := 1) d_Search_fewestRounds_42 rfl rfl ?_
      refine j_callS5 (pc := 43) d_Search_fewestRounds_43 (C_Search_turns n 12 0 0 0 v1 M) cS_Search_76 cd_Search_turns dn_Search_turns rfl (by decide) (Nat.le_of_ble_eq_true rfl) (Nat.le_of_ble_eq_true rfl) nr_I (fun r7 M8 => ?_)
      refine j_if_eq (pc := 46) (tgt := 51) d_Search_fewestRounds_46 (by decide) (fun _ => ?_) (fun _ => ?_)
      · refine j_iinc (pc := 51) (q := 1) d_Search_fewestRounds_51 rfl (congrArg (v1 + ·) k_i_1) (by decide) rfl ?_
        refine j_goto (pc := 54) (tgt := 33) d_Search_fewestRounds_54 (by decide) ?_
        refine j_lv [1, 0] rfl ?_
        exact ih (v1 + 1) M8
      · refine j_iload_n (pc := 49) (q := 1) d_Search_fewestRounds_49 rfl rfl ?_
        exact j_ireturn (pc := 50) d_Search_fewestRounds_50 rfl
set_option maxRecDepth 20000 in
set_option maxHeartbeats 4000000 in
theorem C_Search_fewestRounds (n : Nat)    (M : Mem) : Ct y_Search_fewestRounds mt_Search_fewestRounds wI [Value.ref 26] M (X_Search_fewestRounds n M) := by
  refine ct_of (by decide +kernel) rfl (Nat.le_of_ble_eq_true rfl) ?_
  show J _ _ _ [(0, Value.ref 26)] _ _ _
  unfold X_Search_fewestRounds
  refine j_aload_n (pc := 0) (q := 0) d_Search_fewestRounds_0 rfl rfl ?_
  refine j_aload_n (pc := 1) (q := 0) d_Search_fewestRounds_1 rfl rfl ?_
  refine j_getA (pc := 2) d_Search_fewestRounds_2 fl_Search_20 sx_26 (by decide) rfl ?_
  refine j_iconst (pc := 5) d_Search_fewestRounds_5 k_i_0 ?_
  refine j_aald2 (pc := 6) (ids := [30, 31, 32, 33, 34, 35, 36]) d_Search_fewestRounds_6 sx_29 (fun h1 => ?_)
  refine j_callV1 (pc := 7) d_Search_fewestRounds_7 (C_Search_isBarred n (([30, 31, 32, 33, 34, 35, 36] : List Nat).getD (0 : Int32).toNatClampNeg 0) (sh_level h1) M) cV_Search_64 cd_Search_isBarred dn_Search_isBarred rfl (by decide) (Nat.le_of_ble_eq_true rfl) (Nat.le_of_ble_eq_true rfl) nr_I sx_26 (by decide) rfl (fun r2 M3 => ?_)
  refine j_if_eq (pc := 10) (tgt := 16) d_Search_fewestRounds_10 (by decide) (fun _ => ?_) (fun _ => ?_)
  · refine j_aload_n (pc := 16) (q := 0) d_Search_fewestRounds_16 rfl rfl ?_
    refine j_aload_n (pc := 17) (q := 0) d_Search_fewestRounds_17 rfl rfl ?_
    refine j_getA (pc := 18) d_Search_fewestRounds_18 fl_Search_20 sx_26 (by decide) rfl ?_
    refine j_iconst (pc := 21) d_Search_fewestRounds_21 k_i_0 ?_
    refine j_aald2 (pc := 22) (ids := [30, 31, 32, 33, 34, 35, 36]) d_Search_fewestRounds_22 sx_29 (fun h4 => ?_)
    refine j_callV1 (pc := 23) d_Search_fewestRounds_23 (C_Search_amiss n (([30, 31, 32, 33, 34, 35, 36] : List Nat).getD (0 : Int32).toNatClampNeg 0) (sh_level h4) M3) cV_Search_72 cd_Search_amiss dn_Search_amiss rfl (by decide) (Nat.le_of_ble_eq_true rfl) (Nat.le_of_ble_eq_true rfl) nr_I sx_26 (by decide) rfl (fun r5 M6 => ?_)
    refine j_if_ne (pc := 26) (tgt := 31) d_Search_fewestRounds_26 (by decide) (fun _ => ?_) (fun _ => ?_)
    · refine j_iconst (pc := 31) d_Search_fewestRounds_31 k_i_1 ?_
      refine j_istore_n (pc := 32) d_Search_fewestRounds_32 rfl (by decide) rfl ?_
      refine j_lv [1, 0] rfl ?_
      exact X_Search_fewestRounds_L33_ok   n 1 M6
    · refine j_iconst (pc := 29) d_Search_fewestRounds_29 k_i_0 ?_
      exact j_ireturn (pc := 30) d_Search_fewestRounds_30 rfl
  · refine j_bipush (pc := 13) d_Search_fewestRounds_13 k_b_m4 ?_
    exact j_ireturn (pc := 15) d_Search_fewestRounds_15 rfl
-- Search.unlikeSeen ([J)I
def mt_Search_unlikeSeen : Mt := ("ShakeHands$Search", b_Search_unlikeSeen, 4, some .int, 3, SHx)
theorem d_Search_unlikeSeen_0 : decode b_Search_unlikeSeen 0 = .ok (.iconst 0, 1) := by decide +kernel
theorem d_Search_unlikeSeen_1 : decode b_Search_unlikeSeen 1 = .ok (.istore_n 2, 1) := by decide +kernel
theorem d_Search_unlikeSeen_2 : decode b_Search_unlikeSeen 2 = .ok (.iconst 0, 1) := by decide +kernel
theorem d_Search_unlikeSeen_3 : decode b_Search_unlikeSeen 3 = .ok (.istore_n 3, 1) := by decide +kernel
theorem d_Search_unlikeSeen_4 : decode b_Search_unlikeSeen 4 = .ok (.iload_n 3, 1) := by decide +kernel
theorem d_Search_unlikeSeen_5 : decode b_Search_unlikeSeen 5 = .ok (.aload_n 0, 1) := by decide +kernel
theorem d_Search_unlikeSeen_6 : decode b_Search_unlikeSeen 6 = .ok (.getfield 23, 3) := by decide +kernel
theorem d_Search_unlikeSeen_9 : decode b_Search_unlikeSeen 9 = .ok (.getfield 31, 3) := by decide +kernel
theorem d_Search_unlikeSeen_12 : decode b_Search_unlikeSeen 12 = .ok (.if_icmp .ge 47, 3) := by decide +kernel
theorem d_Search_unlikeSeen_15 : decode b_Search_unlikeSeen 15 = .ok (.aload_n 0, 1) := by decide +kernel
theorem d_Search_unlikeSeen_16 : decode b_Search_unlikeSeen 16 = .ok (.getfield 27, 3) := by decide +kernel
theorem d_Search_unlikeSeen_19 : decode b_Search_unlikeSeen 19 = .ok (.getfield 101, 3) := by decide +kernel
theorem d_Search_unlikeSeen_22 : decode b_Search_unlikeSeen 22 = .ok (.iload_n 3, 1) := by decide +kernel
theorem d_Search_unlikeSeen_23 : decode b_Search_unlikeSeen 23 = .ok (.iushr, 1) := by decide +kernel
theorem d_Search_unlikeSeen_24 : decode b_Search_unlikeSeen 24 = .ok (.iconst 1, 1) := by decide +kernel
theorem d_Search_unlikeSeen_25 : decode b_Search_unlikeSeen 25 = .ok (.iand, 1) := by decide +kernel
theorem d_Search_unlikeSeen_26 : decode b_Search_unlikeSeen 26 = .ok (.ifCond .eq 27, 3) := by decide +kernel
theorem d_Search_unlikeSeen_29 : decode b_Search_unlikeSeen 29 = .ok (.aload_n 1, 1) := by decide +kernel
theorem d_Search_unlikeSeen_30 : decode b_Search_unlikeSeen 30 = .ok (.iload_n 3, 1) := by decide +kernel
theorem d_Search_unlikeSeen_31 : decode b_Search_unlikeSeen 31 = .ok (.laload, 1) := by decide +kernel
theorem d_Search_unlikeSeen_32 : decode b_Search_unlikeSeen 32 = .ok (.invokestatic 104, 3) := by decide +kernel
theorem d_Search_unlikeSeen_35 : decode b_Search_unlikeSeen 35 = .ok (.aload_n 0, 1) := by decide +kernel
theorem d_Search_unlikeSeen_36 : decode b_Search_unlikeSeen 36 = .ok (.getfield 27, 3) := by decide +kernel
theorem d_Search_unlikeSeen_39 : decode b_Search_unlikeSeen 39 = .ok (.getfield 110, 3) := by decide +kernel
theorem d_Search_unlikeSeen_42 : decode b_Search_unlikeSeen 42 = .ok (.iload_n 3, 1) := by decide +kernel
theorem d_Search_unlikeSeen_43 : decode b_Search_unlikeSeen 43 = .ok (.iaload, 1) := by decide +kernel
theorem d_Search_unlikeSeen_44 : decode b_Search_unlikeSeen 44 = .ok (.if_icmp .eq 9, 3) := by decide +kernel
theorem d_Search_unlikeSeen_47 : decode b_Search_unlikeSeen 47 = .ok (.iload_n 2, 1) := by decide +kernel
theorem d_Search_unlikeSeen_48 : decode b_Search_unlikeSeen 48 = .ok (.iconst 1, 1) := by decide +kernel
theorem d_Search_unlikeSeen_49 : decode b_Search_unlikeSeen 49 = .ok (.iload_n 3, 1) := by decide +kernel
theorem d_Search_unlikeSeen_50 : decode b_Search_unlikeSeen 50 = .ok (.ishl, 1) := by decide +kernel
theorem d_Search_unlikeSeen_51 : decode b_Search_unlikeSeen 51 = .ok (.ior, 1) := by decide +kernel
theorem d_Search_unlikeSeen_52 : decode b_Search_unlikeSeen 52 = .ok (.istore_n 2, 1) := by decide +kernel
theorem d_Search_unlikeSeen_53 : decode b_Search_unlikeSeen 53 = .ok (.iinc 3 1, 3) := by decide +kernel
theorem d_Search_unlikeSeen_56 : decode b_Search_unlikeSeen 56 = .ok (.goto (-52), 3) := by decide +kernel
theorem d_Search_unlikeSeen_59 : decode b_Search_unlikeSeen 59 = .ok (.iload_n 2, 1) := by decide +kernel
theorem d_Search_unlikeSeen_60 : decode b_Search_unlikeSeen 60 = .ok (.ireturn, 1) := by decide +kernel
def X_Search_unlikeSeen_L4 (n : Nat) (rows : Nat) : Nat → Int32 → Int32 → Mem → Option (Int32 × Mem)
    | 0, _, _, _ => none
    | m + 1, v2, v3, M => (if (M.1 11 0) ≤ v3 then
    some (v2, M)
    else
    nm (fun (z1 : Int32) (M2 : Mem) => (X_Search_unlikeSeen_L4 n rows m z1 (v3 + 1) M2 : Option (Int32 × Mem))) fun k53 =>
    (if ((((M.1 16 2).toUInt32 >>> (v3.toUInt32 &&& Int32.toUInt32 31)).toInt32) &&& 1) = 0 then
      k53 v2 M
      else
      gd v3 6 (
        bd (X_Row_knownOf n (M.2 rows v3.toNatClampNeg) M) fun r3 M4 =>
        gd v3 6 (
          (if r3 = (M4.1 18 v3.toNatClampNeg) then
            k53 v2 M4
            else
            nm (v2 ||| ((1 : Int32) <<< (v3 &&& 31))) fun x5 =>
            k53 x5 M4)))))
def X_Search_unlikeSeen (n : Nat) (rows : Nat) (M : Mem) : Option (Int32 × Mem) :=
  X_Search_unlikeSeen_L4 n rows n 0 0 M
set_option maxRecDepth 20000 in
set_option maxHeartbeats 4000000 in
theorem X_Search_unlikeSeen_L4_ok {n : Nat} {rows : Nat} (h_rows : SHx[rows]? = some (103, [6])) : ∀ (m : Nat) (v2 : Int32) (v3 : Int32) (M : Mem), J (mt_Search_unlikeSeen) wI 4 [(0, Value.ref 26), (1, Value.ref rows), (2, Value.int v2), (3, Value.int v3)] [] M (X_Search_unlikeSeen_L4 n rows m v2 v3 M) := by
  intro m
  induction m with
  | zero => intro _ _ _; exact j_none
  | succ m ih =>
    intro v2 v3 M
    show J _ _ _ _ _ _ ((if (M.1 11 0) ≤ v3 then
some (v2, M)
else
nm (fun (z1 : Int32) (M2 : Mem) => (X_Search_unlikeSeen_L4 n rows m z1 (v3 + 1) M2 : Option (Int32 × Mem))) fun k53 =>
(if ((((M.1 16 2).toUInt32 >>> (v3.toUInt32 &&& Int32.toUInt32 31)).toInt32) &&& 1) = 0 then
k53 v2 M
else
gd v3 6 (
bd (X_Row_knownOf n (M.2 rows v3.toNatClampNeg) M) fun r3 M4 =>
gd v3 6 (
(if r3 = (M4.1 18 v3.toNatClampNeg) then
k53 v2 M4
else
nm (v2 ||| ((1 : Int32) <<< (v3 &&& 31))) fun x5 =>
k53 x5 M4))))))
    refine j_iload_n (pc := 4) (q := 3) d_Search_unlikeSeen_4 rfl rfl ?_
    refine j_aload_n (pc := 5) (q := 0) d_Search_unlikeSeen_5 rfl rfl ?_
    refine j_getA (pc := 6) d_Search_unlikeSeen_6 fl_Search_23 sx_26 (by decide) rfl ?_
    refine j_getI (pc := 9) d_Search_unlikeSeen_9 fl_Search_31 sx_11 (by decide) rfl ?_
    refine j_icmp_ge (pc := 12) (tgt := 59) d_Search_unlikeSeen_12 (by decide) (fun _ => ?_) (fun _ => ?_)
    · refine j_iload_n (pc := 59) (q := 2) d_Search_unlikeSeen_59 rfl rfl ?_
      exact j_ireturn (pc := 60) d_Search_unlikeSeen_60 rfl
    · refine j_aload_n (pc := 15) (q := 0) d_Search_unlikeSeen_15 rfl rfl ?_
      refine j_getA (pc := 16) d_Search_unlikeSeen_16 fl_Search_27 sx_26 (by decide) rfl ?_
      refine j_getI (pc := 19) d_Search_unlikeSeen_19 fl_Search_101 sx_16 (by decide) rfl ?_
      refine j_iload_n (pc := 22) (q := 3) d_Search_unlikeSeen_22 rfl rfl ?_
      refine j_iushr (pc := 23) d_Search_unlikeSeen_23 ?_
      refine j_iconst (pc := 24) d_Search_unlikeSeen_24 k_i_1 ?_
      refine j_iand (pc := 25) d_Search_unlikeSeen_25 ?_
      refine j_nmk (fun k => ∀ (z1 : Int32) (M2 : Mem), J (mt_Search_unlikeSeen) wI 53 [(0, Value.ref 26), (1, Value.ref rows), (2, Value.int z1), (3, Value.int v3)] [] M2 (k z1 M2)) (fun z1 M2 => ?_) (fun k53 hk53 => ?_)
      · refine j_iinc (pc := 53) (q := 3) d_Search_unlikeSeen_53 rfl (congrArg (v3 + ·) k_i_1) (by decide) rfl ?_
        refine j_goto (pc := 56) (tgt := 4) d_Search_unlikeSeen_56 (by decide) ?_
        refine j_lv [1, 2, 3, 0] rfl ?_
        exact ih z1 (v3 + 1) M2
      · refine j_if_eq (pc := 26) (tgt := 53) d_Search_unlikeSeen_26 (by decide) (fun _ => ?_) (fun _ => ?_)
        · exact hk53 v2 M
        · refine j_aload_n (pc := 29) (q := 1) d_Search_unlikeSeen_29 rfl rfl ?_
          refine j_iload_n (pc := 30) (q := 3) d_Search_unlikeSeen_30 rfl rfl ?_
          refine j_lald (pc := 31) d_Search_unlikeSeen_31 h_rows (fun _ => ?_)
          refine j_callS1 (pc := 32) d_Search_unlikeSeen_32 (C_Row_knownOf n (M.2 rows v3.toNatClampNeg) M) cS_Search_104 cd_Row_knownOf dn_Row_knownOf rfl (by decide) (Nat.le_of_ble_eq_true rfl) (Nat.le_of_ble_eq_true rfl) nr_I (fun r3 M4 => ?_)
          refine j_aload_n (pc := 35) (q := 0) d_Search_unlikeSeen_35 rfl rfl ?_
          refine j_getA (pc := 36) d_Search_unlikeSeen_36 fl_Search_27 sx_26 (by decide) rfl ?_
          refine j_getA (pc := 39) d_Search_unlikeSeen_39 fl_Search_110 sx_16 (by decide) rfl ?_
          refine j_iload_n (pc := 42) (q := 3) d_Search_unlikeSeen_42 rfl rfl ?_
          refine j_iald (pc := 43) d_Search_unlikeSeen_43 sx_18 (fun _ => ?_)
          refine j_icmp_eq (pc := 44) (tgt := 53) d_Search_unlikeSeen_44 (by decide) (fun _ => ?_) (fun _ => ?_)
          · exact hk53 v2 M4
          · refine j_iload_n (pc := 47) (q := 2) d_Search_unlikeSeen_47 rfl rfl ?_
            refine j_iconst (pc := 48) d_Search_unlikeSeen_48 k_i_1 ?_
            refine j_iload_n (pc := 49) (q := 3) d_Search_unlikeSeen_49 rfl rfl ?_
            refine j_ishl (pc := 50) d_Search_unlikeSeen_50 ?_
            refine j_ior (pc := 51) d_Search_unlikeSeen_51 ?_
            refine j_nmi (fun x5 => ?_)
            refine j_istore_n (pc := 52) d_Search_unlikeSeen_52 rfl (by decide) rfl ?_
            refine j_lv [1, 2, 0, 3] rfl ?_
            exact hk53 x5 M4
set_option maxRecDepth 20000 in
set_option maxHeartbeats 4000000 in
theorem C_Search_unlikeSeen (n : Nat) (rows : Nat) (h_rows : SHx[rows]? = some (103, [6]))  (M : Mem) : Ct y_Search_unlikeSeen mt_Search_unlikeSeen wI [Value.ref 26, Value.ref rows] M (X_Search_unlikeSeen n rows M) := by
  refine ct_of (by decide +kernel) rfl (Nat.le_of_ble_eq_true rfl) ?_
  show J _ _ _ [(0, Value.ref 26), (1, Value.ref rows)] _ _ _
  unfold X_Search_unlikeSeen
  refine j_iconst (pc := 0) d_Search_unlikeSeen_0 k_i_0 ?_
  refine j_istore_n (pc := 1) d_Search_unlikeSeen_1 rfl (by decide) rfl ?_
  refine j_iconst (pc := 2) d_Search_unlikeSeen_2 k_i_0 ?_
  refine j_istore_n (pc := 3) d_Search_unlikeSeen_3 rfl (by decide) rfl ?_
  refine j_lv [2, 3, 1, 0] rfl ?_
  exact X_Search_unlikeSeen_L4_ok h_rows  n 0 0 M
-- Search.fit (LShakeHands$Search;III)V
def mt_Search_fit (f : Nat) : Mt := ("ShakeHands$Search", b_Search_fit, 7, none, 7 + f, SHx)
theorem d_Search_fit_0 : decode b_Search_fit 0 = .ok (.aload_n 0, 1) := by decide +kernel
theorem d_Search_fit_1 : decode b_Search_fit 1 = .ok (.aload_n 0, 1) := by decide +kernel
theorem d_Search_fit_2 : decode b_Search_fit 2 = .ok (.getfield 20, 3) := by decide +kernel
theorem d_Search_fit_5 : decode b_Search_fit 5 = .ok (.iload_n 1, 1) := by decide +kernel
theorem d_Search_fit_6 : decode b_Search_fit 6 = .ok (.aaload, 1) := by decide +kernel
theorem d_Search_fit_7 : decode b_Search_fit 7 = .ok (.invokevirtual 143, 3) := by decide +kernel
theorem d_Search_fit_10 : decode b_Search_fit 10 = .ok (.istore 4, 2) := by decide +kernel
theorem d_Search_fit_12 : decode b_Search_fit 12 = .ok (.iload_n 1, 1) := by decide +kernel
theorem d_Search_fit_13 : decode b_Search_fit 13 = .ok (.iload_n 2, 1) := by decide +kernel
theorem d_Search_fit_14 : decode b_Search_fit 14 = .ok (.if_icmp .lt 39, 3) := by decide +kernel
theorem d_Search_fit_17 : decode b_Search_fit 17 = .ok (.iload 4, 2) := by decide +kernel
theorem d_Search_fit_19 : decode b_Search_fit 19 = .ok (.ifCond .ne 33, 3) := by decide +kernel
theorem d_Search_fit_22 : decode b_Search_fit 22 = .ok (.aload_n 0, 1) := by decide +kernel
theorem d_Search_fit_23 : decode b_Search_fit 23 = .ok (.dup, 1) := by decide +kernel
theorem d_Search_fit_24 : decode b_Search_fit 24 = .ok (.getfield 80, 3) := by decide +kernel
theorem d_Search_fit_27 : decode b_Search_fit 27 = .ok (.iconst 1, 1) := by decide +kernel
theorem d_Search_fit_28 : decode b_Search_fit 28 = .ok (.iadd, 1) := by decide +kernel
theorem d_Search_fit_29 : decode b_Search_fit 29 = .ok (.putfield 80, 3) := by decide +kernel
theorem d_Search_fit_32 : decode b_Search_fit 32 = .ok (.aload_n 0, 1) := by decide +kernel
theorem d_Search_fit_33 : decode b_Search_fit 33 = .ok (.dup, 1) := by decide +kernel
theorem d_Search_fit_34 : decode b_Search_fit 34 = .ok (.getfield 83, 3) := by decide +kernel
theorem d_Search_fit_37 : decode b_Search_fit 37 = .ok (.iload_n 3, 1) := by decide +kernel
theorem d_Search_fit_38 : decode b_Search_fit 38 = .ok (.iand, 1) := by decide +kernel
theorem d_Search_fit_39 : decode b_Search_fit 39 = .ok (.putfield 83, 3) := by decide +kernel
theorem d_Search_fit_42 : decode b_Search_fit 42 = .ok (.aload_n 0, 1) := by decide +kernel
theorem d_Search_fit_43 : decode b_Search_fit 43 = .ok (.dup, 1) := by decide +kernel
theorem d_Search_fit_44 : decode b_Search_fit 44 = .ok (.getfield 86, 3) := by decide +kernel
theorem d_Search_fit_47 : decode b_Search_fit 47 = .ok (.iload_n 3, 1) := by decide +kernel
theorem d_Search_fit_48 : decode b_Search_fit 48 = .ok (.ior, 1) := by decide +kernel
theorem d_Search_fit_49 : decode b_Search_fit 49 = .ok (.putfield 86, 3) := by decide +kernel
theorem d_Search_fit_52 : decode b_Search_fit 52 = .ok (.return_, 1) := by decide +kernel
theorem d_Search_fit_53 : decode b_Search_fit 53 = .ok (.iconst 0, 1) := by decide +kernel
theorem d_Search_fit_54 : decode b_Search_fit 54 = .ok (.istore 5, 2) := by decide +kernel
theorem d_Search_fit_56 : decode b_Search_fit 56 = .ok (.iload 5, 2) := by decide +kernel
theorem d_Search_fit_58 : decode b_Search_fit 58 = .ok (.aload_n 0, 1) := by decide +kernel
theorem d_Search_fit_59 : decode b_Search_fit 59 = .ok (.getfield 37, 3) := by decide +kernel
theorem d_Search_fit_62 : decode b_Search_fit 62 = .ok (.if_icmp .ge 66, 3) := by decide +kernel
theorem d_Search_fit_65 : decode b_Search_fit 65 = .ok (.iload 5, 2) := by decide +kernel
theorem d_Search_fit_67 : decode b_Search_fit 67 = .ok (.invokestatic 132, 3) := by decide +kernel
theorem d_Search_fit_70 : decode b_Search_fit 70 = .ok (.istore 6, 2) := by decide +kernel
theorem d_Search_fit_72 : decode b_Search_fit 72 = .ok (.aload_n 0, 1) := by decide +kernel
theorem d_Search_fit_73 : decode b_Search_fit 73 = .ok (.getfield 27, 3) := by decide +kernel
theorem d_Search_fit_76 : decode b_Search_fit 76 = .ok (.getfield 125, 3) := by decide +kernel
theorem d_Search_fit_79 : decode b_Search_fit 79 = .ok (.iload 6, 2) := by decide +kernel
theorem d_Search_fit_81 : decode b_Search_fit 81 = .ok (.iand, 1) := by decide +kernel
theorem d_Search_fit_82 : decode b_Search_fit 82 = .ok (.ifCond .ne 40, 3) := by decide +kernel
theorem d_Search_fit_85 : decode b_Search_fit 85 = .ok (.iload 4, 2) := by decide +kernel
theorem d_Search_fit_87 : decode b_Search_fit 87 = .ok (.iload 6, 2) := by decide +kernel
theorem d_Search_fit_89 : decode b_Search_fit 89 = .ok (.iload_n 2, 1) := by decide +kernel
theorem d_Search_fit_90 : decode b_Search_fit 90 = .ok (.iload_n 1, 1) := by decide +kernel
theorem d_Search_fit_91 : decode b_Search_fit 91 = .ok (.isub, 1) := by decide +kernel
theorem d_Search_fit_92 : decode b_Search_fit 92 = .ok (.iconst 1, 1) := by decide +kernel
theorem d_Search_fit_93 : decode b_Search_fit 93 = .ok (.isub, 1) := by decide +kernel
theorem d_Search_fit_94 : decode b_Search_fit 94 = .ok (.invokestatic 135, 3) := by decide +kernel
theorem d_Search_fit_97 : decode b_Search_fit 97 = .ok (.ifCond .eq 25, 3) := by decide +kernel
theorem d_Search_fit_100 : decode b_Search_fit 100 = .ok (.aload_n 0, 1) := by decide +kernel
theorem d_Search_fit_101 : decode b_Search_fit 101 = .ok (.iload_n 1, 1) := by decide +kernel
theorem d_Search_fit_102 : decode b_Search_fit 102 = .ok (.iload 5, 2) := by decide +kernel
theorem d_Search_fit_104 : decode b_Search_fit 104 = .ok (.invokevirtual 139, 3) := by decide +kernel
theorem d_Search_fit_107 : decode b_Search_fit 107 = .ok (.pop, 1) := by decide +kernel
theorem d_Search_fit_108 : decode b_Search_fit 108 = .ok (.aload_n 0, 1) := by decide +kernel
theorem d_Search_fit_109 : decode b_Search_fit 109 = .ok (.iload_n 1, 1) := by decide +kernel
theorem d_Search_fit_110 : decode b_Search_fit 110 = .ok (.iconst 1, 1) := by decide +kernel
theorem d_Search_fit_111 : decode b_Search_fit 111 = .ok (.iadd, 1) := by decide +kernel
theorem d_Search_fit_112 : decode b_Search_fit 112 = .ok (.iload_n 2, 1) := by decide +kernel
theorem d_Search_fit_113 : decode b_Search_fit 113 = .ok (.iload_n 3, 1) := by decide +kernel
theorem d_Search_fit_114 : decode b_Search_fit 114 = .ok (.iconst 1, 1) := by decide +kernel
theorem d_Search_fit_115 : decode b_Search_fit 115 = .ok (.iload 5, 2) := by decide +kernel
theorem d_Search_fit_117 : decode b_Search_fit 117 = .ok (.ishl, 1) := by decide +kernel
theorem d_Search_fit_118 : decode b_Search_fit 118 = .ok (.ior, 1) := by decide +kernel
theorem d_Search_fit_119 : decode b_Search_fit 119 = .ok (.invokestatic 89, 3) := by decide +kernel
theorem d_Search_fit_122 : decode b_Search_fit 122 = .ok (.iinc 5 1, 3) := by decide +kernel
theorem d_Search_fit_125 : decode b_Search_fit 125 = .ok (.goto (-69), 3) := by decide +kernel
theorem d_Search_fit_128 : decode b_Search_fit 128 = .ok (.return_, 1) := by decide +kernel
def X_Search_fit_L56 (n : Nat) (self : Int32 → Int32 → Int32 → Mem → Option (Unit × Mem)) (a1 : Int32) (a2 : Int32) (a3 : Int32) (a4 : Int32) : Nat → Int32 → Mem → Option (Unit × Mem)
    | 0, _, _ => none
    | m + 1, v5, M => (if (M.1 26 8) ≤ v5 then
    some ((), M)
    else
    bd (X_Search_bitsOf n v5 M) fun r4 M5 =>
    nm (fun (M6 : Mem) => (X_Search_fit_L56 n self a1 a2 a3 a4 m (v5 + 1) M6 : Option (Unit × Mem))) fun k122 =>
    (if ((M5.1 16 1) &&& r4) = 0 then
      bd (X_Search_canMend n a4 r4 ((a2 - a1) - 1) M5) fun r7 M8 =>
      (if r7 = 0 then
        k122 M8
        else
        bd (X_Search_step n a1 v5 M8) fun r9 M10 =>
        bd (self (a1 + 1) a2 (a3 ||| ((1 : Int32) <<< (v5 &&& 31))) M10) fun _ M12 =>
        k122 M12)
      else
      k122 M5))
def X_Search_fit (n : Nat) : Nat → Int32 → Int32 → Int32 → Mem → Option (Unit × Mem)
    | 0, _, _, _, _ => none
    | f + 1, p1, p2, p3, M => gd p1 7 (
    bd (X_Search_unlikeSeen n (([30, 31, 32, 33, 34, 35, 36] : List Nat).getD p1.toNatClampNeg 0) M) fun r2 M3 =>
    (if p1 < p2 then
      X_Search_fit_L56 n (X_Search_fit n f) p1 p2 p3 r2 n 0 M3
      else
      (if r2 = 0 then
        nm (si M3 26 2 ((M3.1 26 2) + 1)) fun N13 =>
        nm (si N13 26 3 ((N13.1 26 3) &&& p3)) fun N14 =>
        some ((), si N14 26 4 ((N14.1 26 4) ||| p3))
        else
        some ((), M3))))
set_option maxRecDepth 20000 in
set_option maxHeartbeats 4000000 in
theorem X_Search_fit_L56_ok {n : Nat} {f : Nat} {self : Int32 → Int32 → Int32 → Mem → Option (Unit × Mem)} {a1 : Int32} {a2 : Int32} {a3 : Int32} {a4 : Int32} (hself : ∀ (q0 : Int32) (q1 : Int32) (q2 : Int32) (M : Mem), Ct y_Search_fit (mt_Search_fit f) wU [Value.ref 26, Value.int q0, Value.int q1, Value.int q2] M (self q0 q1 q2 M)) : ∀ (m : Nat) (v5 : Int32) (M : Mem), J (mt_Search_fit (f + 1)) wU 56 [(0, Value.ref 26), (1, Value.int a1), (2, Value.int a2), (3, Value.int a3), (4, Value.int a4), (5, Value.int v5)] [] M (X_Search_fit_L56 n self a1 a2 a3 a4 m v5 M) := by
  intro m
  induction m with
  | zero => intro _ _; exact j_none
  | succ m ih =>
    intro v5 M
    show J _ _ _ _ _ _ ((if (M.1 26 8) ≤ v5 then
some ((), M)
else
bd (X_Search_bitsOf n v5 M) fun r4 M5 =>
nm (fun (M6 : Mem) => (X_Search_fit_L56 n self a1 a2 a3 a4 m (v5 + 1) M6 : Option (Unit × Mem))) fun k122 =>
(if ((M5.1 16 1) &&& r4) = 0 then
bd (X_Search_canMend n a4 r4 ((a2 - a1) - 1) M5) fun r7 M8 =>
(if r7 = 0 then
k122 M8
else
bd (X_Search_step n a1 v5 M8) fun r9 M10 =>
bd (self (a1 + 1) a2 (a3 ||| ((1 : Int32) <<< (v5 &&& 31))) M10) fun _ M12 =>
k122 M12)
else
k122 M5)))
    refine j_iload (pc := 56) (q := 5) d_Search_fit_56 rfl ?_
    refine j_aload_n (pc := 58) (q := 0) d_Search_fit_58 rfl rfl ?_
    refine j_getI (pc := 59) d_Search_fit_59 fl_Search_37 sx_26 (by decide) rfl ?_
    refine j_icmp_ge (pc := 62) (tgt := 128) d_Search_fit_62 (by decide) (fun _ => ?_) (fun _ => ?_)
    · exact j_return (pc := 128) d_Search_fit_128 rfl
    · refine j_iload (pc := 65) (q := 5) d_Search_fit_65 rfl ?_
      refine j_callS1 (pc := 67) d_Search_fit_67 (C_Search_bitsOf n v5 M) cS_Search_132 cd_Search_bitsOf dn_Search_bitsOf rfl (by show 2 + 1 ≤ 7 + (f + 1); omega) (Nat.le_of_ble_eq_true rfl) (Nat.le_of_ble_eq_true rfl) nr_I (fun r4 M5 => ?_)
      refine j_istore (pc := 70) d_Search_fit_70 (by show 6 < 7; decide) rfl ?_
      refine j_aload_n (pc := 72) (q := 1) d_Search_fit_72 rfl rfl ?_
      refine j_getA (pc := 73) d_Search_fit_73 fl_Search_27 sx_26 (by decide) rfl ?_
      refine j_getI (pc := 76) d_Search_fit_76 fl_Search_125 sx_16 (by decide) rfl ?_
      refine j_iload (pc := 79) (q := 0) d_Search_fit_79 rfl ?_
      refine j_iand (pc := 81) d_Search_fit_81 ?_
      refine j_nmk (fun k => ∀ (M6 : Mem), J (mt_Search_fit (f + 1)) wU 122 [(0, Value.ref 26), (1, Value.int a1), (2, Value.int a2), (3, Value.int a3), (4, Value.int a4), (5, Value.int v5)] [] M6 (k M6)) (fun M6 => ?_) (fun k122 hk122 => ?_)
      · refine j_iinc (pc := 122) (q := 5) d_Search_fit_122 rfl (congrArg (v5 + ·) k_i_1) (by show 5 < 7; decide) rfl ?_
        refine j_goto (pc := 125) (tgt := 56) d_Search_fit_125 (by decide) ?_
        refine j_lv [1, 2, 3, 4, 5, 0] rfl ?_
        exact ih (v5 + 1) M6
      · refine j_if_ne (pc := 82) (tgt := 122) d_Search_fit_82 (by decide) (fun _ => ?_) (fun _ => ?_)
        · refine j_lv [1, 2, 3, 4, 5, 6] rfl ?_
          exact hk122 M5
        · refine j_iload (pc := 85) (q := 5) d_Search_fit_85 rfl ?_
          refine j_iload (pc := 87) (q := 0) d_Search_fit_87 rfl ?_
          refine j_iload_n (pc := 89) (q := 3) d_Search_fit_89 rfl rfl ?_
          refine j_iload_n (pc := 90) (q := 2) d_Search_fit_90 rfl rfl ?_
          refine j_isub (pc := 91) d_Search_fit_91 ?_
          refine j_iconst (pc := 92) d_Search_fit_92 k_i_1 ?_
          refine j_isub (pc := 93) d_Search_fit_93 ?_
          refine j_callS3 (pc := 94) d_Search_fit_94 (C_Search_canMend n a4 r4 ((a2 - a1) - 1) M5) cS_Search_135 cd_Search_canMend dn_Search_canMend rfl (by show 3 + 1 ≤ 7 + (f + 1); omega) (Nat.le_of_ble_eq_true rfl) (Nat.le_of_ble_eq_true rfl) nr_I (fun r7 M8 => ?_)
          refine j_if_eq (pc := 97) (tgt := 122) d_Search_fit_97 (by decide) (fun _ => ?_) (fun _ => ?_)
          · refine j_lv [1, 2, 3, 4, 5, 6] rfl ?_
            exact hk122 M8
          · refine j_aload_n (pc := 100) (q := 1) d_Search_fit_100 rfl rfl ?_
            refine j_iload_n (pc := 101) (q := 2) d_Search_fit_101 rfl rfl ?_
            refine j_iload (pc := 102) (q := 6) d_Search_fit_102 rfl ?_
            refine j_callV2 (pc := 104) d_Search_fit_104 (C_Search_step n a1 v5 M8) cV_Search_139 cd_Search_step dn_Search_step rfl (by show 6 + 1 ≤ 7 + (f + 1); omega) (Nat.le_of_ble_eq_true rfl) (Nat.le_of_ble_eq_true rfl) nr_I sx_26 (by decide) rfl (fun r9 M10 => ?_)
            refine j_pop (pc := 107) d_Search_fit_107 rfl ?_
            refine j_aload_n (pc := 108) (q := 1) d_Search_fit_108 rfl rfl ?_
            refine j_iload_n (pc := 109) (q := 2) d_Search_fit_109 rfl rfl ?_
            refine j_iconst (pc := 110) d_Search_fit_110 k_i_1 ?_
            refine j_iadd (pc := 111) d_Search_fit_111 ?_
            refine j_iload_n (pc := 112) (q := 3) d_Search_fit_112 rfl rfl ?_
            refine j_iload_n (pc := 113) (q := 4) d_Search_fit_113 rfl rfl ?_
            refine j_iconst (pc := 114) d_Search_fit_114 k_i_1 ?_
            refine j_iload (pc := 115) (q := 6) d_Search_fit_115 rfl ?_
            refine j_ishl (pc := 117) d_Search_fit_117 ?_
            refine j_ior (pc := 118) d_Search_fit_118 ?_
            refine j_callS4 (pc := 119) d_Search_fit_119 (hself (a1 + 1) a2 (a3 ||| ((1 : Int32) <<< (v5 &&& 31))) M10) cS_Search_89 cd_Search_fit dn_Search_fit rfl (Nat.le_refl _) (Nat.le_of_ble_eq_true rfl) (Nat.le_of_ble_eq_true rfl) nr_U (fun r11 M12 => ?_)
            refine j_lv [1, 2, 3, 4, 5, 6] rfl ?_
            exact hk122 M12
set_option maxRecDepth 20000 in
set_option maxHeartbeats 4000000 in
theorem C_Search_fit (n : Nat) : ∀ (f : Nat) (p1 : Int32) (p2 : Int32) (p3 : Int32) (M : Mem), Ct y_Search_fit (mt_Search_fit f) wU [Value.ref 26, Value.int p1, Value.int p2, Value.int p3] M (X_Search_fit n f p1 p2 p3 M) := by
  intro f
  induction f with
  | zero => intro p1 p2 p3 M r M2 hF; cases hF
  | succ f ihf =>
    intro p1 p2 p3 M
    refine ct_of (by decide +kernel) rfl (Nat.le_of_ble_eq_true rfl) ?_
    show J _ _ _ [(0, Value.ref 26), (1, Value.int p1), (2, Value.int p2), (3, Value.int p3)] _ _ (gd p1 7 (
bd (X_Search_unlikeSeen n (([30, 31, 32, 33, 34, 35, 36] : List Nat).getD p1.toNatClampNeg 0) M) fun r2 M3 =>
(if p1 < p2 then
X_Search_fit_L56 n (X_Search_fit n f) p1 p2 p3 r2 n 0 M3
else
(if r2 = 0 then
nm (si M3 26 2 ((M3.1 26 2) + 1)) fun N13 =>
nm (si N13 26 3 ((N13.1 26 3) &&& p3)) fun N14 =>
some ((), si N14 26 4 ((N14.1 26 4) ||| p3))
else
some ((), M3)))))
    refine j_aload_n (pc := 0) (q := 0) d_Search_fit_0 rfl rfl ?_
    refine j_aload_n (pc := 1) (q := 0) d_Search_fit_1 rfl rfl ?_
    refine j_getA (pc := 2) d_Search_fit_2 fl_Search_20 sx_26 (by decide) rfl ?_
    refine j_iload_n (pc := 5) (q := 1) d_Search_fit_5 rfl rfl ?_
    refine j_aald2 (pc := 6) (ids := [30, 31, 32, 33, 34, 35, 36]) d_Search_fit_6 sx_29 (fun h1 => ?_)
    refine j_callV1 (pc := 7) d_Search_fit_7 (C_Search_unlikeSeen n (([30, 31, 32, 33, 34, 35, 36] : List Nat).getD p1.toNatClampNeg 0) (sh_level h1) M) cV_Search_143 cd_Search_unlikeSeen dn_Search_unlikeSeen rfl (by show 3 + 1 ≤ 7 + (f + 1); omega) (Nat.le_of_ble_eq_true rfl) (Nat.le_of_ble_eq_true rfl) nr_I sx_26 (by decide) rfl (fun r2 M3 => ?_)
    refine j_istore (pc := 10) d_Search_fit_10 (by show 4 < 7; decide) rfl ?_
    refine j_iload_n (pc := 12) (q := 2) d_Search_fit_12 rfl rfl ?_
    refine j_iload_n (pc := 13) (q := 3) d_Search_fit_13 rfl rfl ?_
    refine j_icmp_lt (pc := 14) (tgt := 53) d_Search_fit_14 (by decide) (fun _ => ?_) (fun _ => ?_)
    · refine j_iconst (pc := 53) d_Search_fit_53 k_i_0 ?_
      refine j_istore (pc := 54) d_Search_fit_54 (by show 5 < 7; decide) rfl ?_
      refine j_lv [2, 3, 4, 5, 1, 0] rfl ?_
      exact X_Search_fit_L56_ok ihf  n 0 M3
    · refine j_iload (pc := 17) (q := 0) d_Search_fit_17 rfl ?_
      refine j_if_ne (pc := 19) (tgt := 52) d_Search_fit_19 (by decide) (fun _ => ?_) (fun _ => ?_)
      · exact j_return (pc := 52) d_Search_fit_52 rfl
      · refine j_aload_n (pc := 22) (q := 1) d_Search_fit_22 rfl rfl ?_
        refine j_dup (pc := 23) d_Search_fit_23 rfl ?_
        refine j_getI (pc := 24) d_Search_fit_24 fl_Search_80 sx_26 (by decide) rfl ?_
        refine j_iconst (pc := 27) d_Search_fit_27 k_i_1 ?_
        refine j_iadd (pc := 28) d_Search_fit_28 ?_
        refine j_putI (pc := 29) d_Search_fit_29 fl_Search_80 rfl sx_26 (by decide) rfl ?_
        refine j_aload_n (pc := 32) (q := 1) d_Search_fit_32 rfl rfl ?_
        refine j_dup (pc := 33) d_Search_fit_33 rfl ?_
        refine j_nmM (fun N13 => ?_)
        refine j_getI (pc := 34) d_Search_fit_34 fl_Search_83 sx_26 (by decide) rfl ?_
        refine j_iload_n (pc := 37) (q := 4) d_Search_fit_37 rfl rfl ?_
        refine j_iand (pc := 38) d_Search_fit_38 ?_
        refine j_putI (pc := 39) d_Search_fit_39 fl_Search_83 rfl sx_26 (by decide) rfl ?_
        refine j_aload_n (pc := 42) (q := 1) d_Search_fit_42 rfl rfl ?_
        refine j_dup (pc := 43) d_Search_fit_43 rfl ?_
        refine j_nmM (fun N14 => ?_)
        refine j_getI (pc := 44) d_Search_fit_44 fl_Search_86 sx_26 (by decide) rfl ?_
        refine j_iload_n (pc := 47) (q := 4) d_Search_fit_47 rfl rfl ?_
        refine j_ior (pc := 48) d_Search_fit_48 ?_
        refine j_putI (pc := 49) d_Search_fit_49 fl_Search_86 rfl sx_26 (by decide) rfl ?_
        exact j_return (pc := 52) d_Search_fit_52 rfl
-- Search.countFits (I)V
def mt_Search_countFits : Mt := ("ShakeHands$Search", b_Search_countFits, 2, none, 20, SHx)
theorem d_Search_countFits_0 : decode b_Search_countFits 0 = .ok (.aload_n 0, 1) := by decide +kernel
theorem d_Search_countFits_1 : decode b_Search_countFits 1 = .ok (.iconst 0, 1) := by decide +kernel
theorem d_Search_countFits_2 : decode b_Search_countFits 2 = .ok (.putfield 80, 3) := by decide +kernel
theorem d_Search_countFits_5 : decode b_Search_countFits 5 = .ok (.aload_n 0, 1) := by decide +kernel
theorem d_Search_countFits_6 : decode b_Search_countFits 6 = .ok (.sipush 32767, 3) := by decide +kernel
theorem d_Search_countFits_9 : decode b_Search_countFits 9 = .ok (.putfield 83, 3) := by decide +kernel
theorem d_Search_countFits_12 : decode b_Search_countFits 12 = .ok (.aload_n 0, 1) := by decide +kernel
theorem d_Search_countFits_13 : decode b_Search_countFits 13 = .ok (.iconst 0, 1) := by decide +kernel
theorem d_Search_countFits_14 : decode b_Search_countFits 14 = .ok (.putfield 86, 3) := by decide +kernel
theorem d_Search_countFits_17 : decode b_Search_countFits 17 = .ok (.aload_n 0, 1) := by decide +kernel
theorem d_Search_countFits_18 : decode b_Search_countFits 18 = .ok (.iconst 0, 1) := by decide +kernel
theorem d_Search_countFits_19 : decode b_Search_countFits 19 = .ok (.iload_n 1, 1) := by decide +kernel
theorem d_Search_countFits_20 : decode b_Search_countFits 20 = .ok (.iconst 0, 1) := by decide +kernel
theorem d_Search_countFits_21 : decode b_Search_countFits 21 = .ok (.invokestatic 89, 3) := by decide +kernel
theorem d_Search_countFits_24 : decode b_Search_countFits 24 = .ok (.return_, 1) := by decide +kernel
def X_Search_countFits (n : Nat) (p1 : Int32) (M : Mem) : Option (Unit × Mem) :=
  nm (si (si (si M 26 2 0) 26 3 32767) 26 4 0) fun N1 =>
  bd (X_Search_fit n 12 0 p1 0 N1) fun _ M3 =>
  some ((), M3)
set_option maxRecDepth 20000 in
set_option maxHeartbeats 4000000 in
theorem C_Search_countFits (n : Nat)   (p1 : Int32) (M : Mem) : Ct y_Search_countFits mt_Search_countFits wU [Value.ref 26, Value.int p1] M (X_Search_countFits n p1 M) := by
  refine ct_of (by decide +kernel) rfl (Nat.le_of_ble_eq_true rfl) ?_
  show J _ _ _ [(0, Value.ref 26), (1, Value.int p1)] _ _ _
  unfold X_Search_countFits
  refine j_aload_n (pc := 0) (q := 0) d_Search_countFits_0 rfl rfl ?_
  refine j_iconst (pc := 1) d_Search_countFits_1 k_i_0 ?_
  refine j_putI (pc := 2) d_Search_countFits_2 fl_Search_80 rfl sx_26 (by decide) rfl ?_
  refine j_aload_n (pc := 5) (q := 0) d_Search_countFits_5 rfl rfl ?_
  refine j_sipush (pc := 6) d_Search_countFits_6 k_s_32767 ?_
  refine j_putI (pc := 9) d_Search_countFits_9 fl_Search_83 rfl sx_26 (by decide) rfl ?_
  refine j_aload_n (pc := 12) (q := 0) d_Search_countFits_12 rfl rfl ?_
  refine j_iconst (pc := 13) d_Search_countFits_13 k_i_0 ?_
  refine j_putI (pc := 14) d_Search_countFits_14 fl_Search_86 rfl sx_26 (by decide) rfl ?_
  refine j_aload_n (pc := 17) (q := 0) d_Search_countFits_17 rfl rfl ?_
  refine j_iconst (pc := 18) d_Search_countFits_18 k_i_0 ?_
  refine j_iload_n (pc := 19) (q := 1) d_Search_countFits_19 rfl rfl ?_
  refine j_iconst (pc := 20) d_Search_countFits_20 k_i_0 ?_
  refine j_nmM (fun N1 => ?_)
  refine j_callS4 (pc := 21) d_Search_countFits_21 (C_Search_fit n 12 0 p1 0 N1) cS_Search_89 cd_Search_fit dn_Search_fit rfl (by decide) (Nat.le_of_ble_eq_true rfl) (Nat.le_of_ble_eq_true rfl) nr_U (fun r2 M3 => ?_)
  exact j_return (pc := 24) d_Search_countFits_24 rfl
-- Search.sit (LShakeHands$Search;II)V
def mt_Search_sit (f : Nat) : Mt := ("ShakeHands$Search", b_Search_sit, 4, none, 7 + f, SHx)
theorem d_Search_sit_0 : decode b_Search_sit 0 = .ok (.iload_n 1, 1) := by decide +kernel
theorem d_Search_sit_1 : decode b_Search_sit 1 = .ok (.aload_n 0, 1) := by decide +kernel
theorem d_Search_sit_2 : decode b_Search_sit 2 = .ok (.getfield 23, 3) := by decide +kernel
theorem d_Search_sit_5 : decode b_Search_sit 5 = .ok (.getfield 31, 3) := by decide +kernel
theorem d_Search_sit_8 : decode b_Search_sit 8 = .ok (.if_icmp .lt 49, 3) := by decide +kernel
theorem d_Search_sit_11 : decode b_Search_sit 11 = .ok (.aload_n 0, 1) := by decide +kernel
theorem d_Search_sit_12 : decode b_Search_sit 12 = .ok (.aload_n 0, 1) := by decide +kernel
theorem d_Search_sit_13 : decode b_Search_sit 13 = .ok (.getfield 20, 3) := by decide +kernel
theorem d_Search_sit_16 : decode b_Search_sit 16 = .ok (.iload_n 1, 1) := by decide +kernel
theorem d_Search_sit_17 : decode b_Search_sit 17 = .ok (.aaload, 1) := by decide +kernel
theorem d_Search_sit_18 : decode b_Search_sit 18 = .ok (.invokevirtual 72, 3) := by decide +kernel
theorem d_Search_sit_21 : decode b_Search_sit 21 = .ok (.ifCond .ne 35, 3) := by decide +kernel
theorem d_Search_sit_24 : decode b_Search_sit 24 = .ok (.aload_n 0, 1) := by decide +kernel
theorem d_Search_sit_25 : decode b_Search_sit 25 = .ok (.getfield 80, 3) := by decide +kernel
theorem d_Search_sit_28 : decode b_Search_sit 28 = .ok (.ifCond .ne 18, 3) := by decide +kernel
theorem d_Search_sit_31 : decode b_Search_sit 31 = .ok (.aload_n 0, 1) := by decide +kernel
theorem d_Search_sit_32 : decode b_Search_sit 32 = .ok (.getfield 11, 3) := by decide +kernel
theorem d_Search_sit_35 : decode b_Search_sit 35 = .ok (.iconst 0, 1) := by decide +kernel
theorem d_Search_sit_36 : decode b_Search_sit 36 = .ok (.aload_n 0, 1) := by decide +kernel
theorem d_Search_sit_37 : decode b_Search_sit 37 = .ok (.getfield 15, 3) := by decide +kernel
theorem d_Search_sit_40 : decode b_Search_sit 40 = .ok (.iconst 0, 1) := by decide +kernel
theorem d_Search_sit_41 : decode b_Search_sit 41 = .ok (.bipush 6, 2) := by decide +kernel
theorem d_Search_sit_43 : decode b_Search_sit 43 = .ok (.invokestatic 46, 3) := by decide +kernel
theorem d_Search_sit_46 : decode b_Search_sit 46 = .ok (.aload_n 0, 1) := by decide +kernel
theorem d_Search_sit_47 : decode b_Search_sit 47 = .ok (.dup, 1) := by decide +kernel
theorem d_Search_sit_48 : decode b_Search_sit 48 = .ok (.getfield 80, 3) := by decide +kernel
theorem d_Search_sit_51 : decode b_Search_sit 51 = .ok (.iconst 1, 1) := by decide +kernel
theorem d_Search_sit_52 : decode b_Search_sit 52 = .ok (.iadd, 1) := by decide +kernel
theorem d_Search_sit_53 : decode b_Search_sit 53 = .ok (.putfield 80, 3) := by decide +kernel
theorem d_Search_sit_56 : decode b_Search_sit 56 = .ok (.return_, 1) := by decide +kernel
theorem d_Search_sit_57 : decode b_Search_sit 57 = .ok (.iconst 0, 1) := by decide +kernel
theorem d_Search_sit_58 : decode b_Search_sit 58 = .ok (.istore_n 3, 1) := by decide +kernel
theorem d_Search_sit_59 : decode b_Search_sit 59 = .ok (.iload_n 3, 1) := by decide +kernel
theorem d_Search_sit_60 : decode b_Search_sit 60 = .ok (.aload_n 0, 1) := by decide +kernel
theorem d_Search_sit_61 : decode b_Search_sit 61 = .ok (.getfield 23, 3) := by decide +kernel
theorem d_Search_sit_64 : decode b_Search_sit 64 = .ok (.getfield 31, 3) := by decide +kernel
theorem d_Search_sit_67 : decode b_Search_sit 67 = .ok (.if_icmp .ge 62, 3) := by decide +kernel
theorem d_Search_sit_70 : decode b_Search_sit 70 = .ok (.iload_n 2, 1) := by decide +kernel
theorem d_Search_sit_71 : decode b_Search_sit 71 = .ok (.iload_n 3, 1) := by decide +kernel
theorem d_Search_sit_72 : decode b_Search_sit 72 = .ok (.iushr, 1) := by decide +kernel
theorem d_Search_sit_73 : decode b_Search_sit 73 = .ok (.iconst 1, 1) := by decide +kernel
theorem d_Search_sit_74 : decode b_Search_sit 74 = .ok (.iand, 1) := by decide +kernel
theorem d_Search_sit_75 : decode b_Search_sit 75 = .ok (.ifCond .ne 48, 3) := by decide +kernel
theorem d_Search_sit_78 : decode b_Search_sit 78 = .ok (.aload_n 0, 1) := by decide +kernel
theorem d_Search_sit_79 : decode b_Search_sit 79 = .ok (.getfield 11, 3) := by decide +kernel
theorem d_Search_sit_82 : decode b_Search_sit 82 = .ok (.iload_n 1, 1) := by decide +kernel
theorem d_Search_sit_83 : decode b_Search_sit 83 = .ok (.iload_n 3, 1) := by decide +kernel
theorem d_Search_sit_84 : decode b_Search_sit 84 = .ok (.iastore, 1) := by decide +kernel
theorem d_Search_sit_85 : decode b_Search_sit 85 = .ok (.aload_n 0, 1) := by decide +kernel
theorem d_Search_sit_86 : decode b_Search_sit 86 = .ok (.iload_n 1, 1) := by decide +kernel
theorem d_Search_sit_87 : decode b_Search_sit 87 = .ok (.iload_n 1, 1) := by decide +kernel
theorem d_Search_sit_88 : decode b_Search_sit 88 = .ok (.ifCond .ne 7, 3) := by decide +kernel
theorem d_Search_sit_91 : decode b_Search_sit 91 = .ok (.iconst (-1), 1) := by decide +kernel
theorem d_Search_sit_92 : decode b_Search_sit 92 = .ok (.goto 15, 3) := by decide +kernel
theorem d_Search_sit_95 : decode b_Search_sit 95 = .ok (.aload_n 0, 1) := by decide +kernel
theorem d_Search_sit_96 : decode b_Search_sit 96 = .ok (.getfield 11, 3) := by decide +kernel
theorem d_Search_sit_99 : decode b_Search_sit 99 = .ok (.iload_n 1, 1) := by decide +kernel
theorem d_Search_sit_100 : decode b_Search_sit 100 = .ok (.iconst 1, 1) := by decide +kernel
theorem d_Search_sit_101 : decode b_Search_sit 101 = .ok (.isub, 1) := by decide +kernel
theorem d_Search_sit_102 : decode b_Search_sit 102 = .ok (.iaload, 1) := by decide +kernel
theorem d_Search_sit_103 : decode b_Search_sit 103 = .ok (.iload_n 3, 1) := by decide +kernel
theorem d_Search_sit_104 : decode b_Search_sit 104 = .ok (.invokestatic 146, 3) := by decide +kernel
theorem d_Search_sit_107 : decode b_Search_sit 107 = .ok (.invokevirtual 139, 3) := by decide +kernel
theorem d_Search_sit_110 : decode b_Search_sit 110 = .ok (.pop, 1) := by decide +kernel
theorem d_Search_sit_111 : decode b_Search_sit 111 = .ok (.aload_n 0, 1) := by decide +kernel
theorem d_Search_sit_112 : decode b_Search_sit 112 = .ok (.iload_n 1, 1) := by decide +kernel
theorem d_Search_sit_113 : decode b_Search_sit 113 = .ok (.iconst 1, 1) := by decide +kernel
theorem d_Search_sit_114 : decode b_Search_sit 114 = .ok (.iadd, 1) := by decide +kernel
theorem d_Search_sit_115 : decode b_Search_sit 115 = .ok (.iload_n 2, 1) := by decide +kernel
theorem d_Search_sit_116 : decode b_Search_sit 116 = .ok (.iconst 1, 1) := by decide +kernel
theorem d_Search_sit_117 : decode b_Search_sit 117 = .ok (.iload_n 3, 1) := by decide +kernel
theorem d_Search_sit_118 : decode b_Search_sit 118 = .ok (.ishl, 1) := by decide +kernel
theorem d_Search_sit_119 : decode b_Search_sit 119 = .ok (.ior, 1) := by decide +kernel
theorem d_Search_sit_120 : decode b_Search_sit 120 = .ok (.invokestatic 93, 3) := by decide +kernel
theorem d_Search_sit_123 : decode b_Search_sit 123 = .ok (.iinc 3 1, 3) := by decide +kernel
theorem d_Search_sit_126 : decode b_Search_sit 126 = .ok (.goto (-67), 3) := by decide +kernel
theorem d_Search_sit_129 : decode b_Search_sit 129 = .ok (.return_, 1) := by decide +kernel
def X_Search_sit_L59 (n : Nat) (self : Int32 → Int32 → Mem → Option (Unit × Mem)) (a1 : Int32) (a2 : Int32) : Nat → Int32 → Mem → Option (Unit × Mem)
    | 0, _, _ => none
    | m + 1, v3, M => (if (M.1 11 0) ≤ v3 then
    some ((), M)
    else
    nm (fun (M1 : Mem) => (X_Search_sit_L59 n self a1 a2 m (v3 + 1) M1 : Option (Unit × Mem))) fun k123 =>
    (if (((a2.toUInt32 >>> (v3.toUInt32 &&& Int32.toUInt32 31)).toInt32) &&& 1) = 0 then
      gd a1 6 (
        nm (fun (u2 : Int32) (M3 : Mem) => (bd (X_Search_step n a1 u2 M3) fun r4 M5 =>
            bd (self (a1 + 1) (a2 ||| ((1 : Int32) <<< (v3 &&& 31))) M5) fun _ M7 =>
            k123 M7 : Option (Unit × Mem))) fun k107 =>
        (if a1 = 0 then
          k107 (-1) (si M 27 (a1.toNatClampNeg) v3)
          else
          nm (si M 27 (a1.toNatClampNeg) v3) fun N8 =>
          gd (a1 - 1) 6 (
            bd (X_ShakeHands_pairOf n (N8.1 27 (a1 - 1).toNatClampNeg) v3 N8) fun r9 M10 =>
            k107 r9 M10)))
      else
      k123 M))
def X_Search_sit (n : Nat) : Nat → Int32 → Int32 → Mem → Option (Unit × Mem)
    | 0, _, _, _ => none
    | f + 1, p1, p2, M => (if p1 < (M.1 11 0) then
    X_Search_sit_L59 n (X_Search_sit n f) p1 p2 n 0 M
    else
    gd p1 7 (
      bd (X_Search_amiss n (([30, 31, 32, 33, 34, 35, 36] : List Nat).getD p1.toNatClampNeg 0) M) fun r12 M13 =>
      (if r12 = 0 then
        nm (fun (M14 : Mem) => (some ((), si M14 26 2 ((M14.1 26 2) + 1)) : Option (Unit × Mem))) fun k46 =>
        (if (M13.1 26 2) = 0 then
          gc (0 : Int32) (0 : Int32) (6 : Int32) 6 6 (
            k46 (cpI M13 27 ((0 : Int32).toNatClampNeg) 28 ((0 : Int32).toNatClampNeg) ((6 : Int32).toNatClampNeg)))
          else
          k46 M13)
        else
        some ((), M13))))
set_option maxRecDepth 20000 in
set_option maxHeartbeats 4000000 in
theorem X_Search_sit_L59_ok {n : Nat} {f : Nat} {self : Int32 → Int32 → Mem → Option (Unit × Mem)} {a1 : Int32} {a2 : Int32} (hself : ∀ (q0 : Int32) (q1 : Int32) (M : Mem), Ct y_Search_sit (mt_Search_sit f) wU [Value.ref 26, Value.int q0, Value.int q1] M (self q0 q1 M)) : ∀ (m : Nat) (v3 : Int32) (M : Mem), J (mt_Search_sit (f + 1)) wU 59 [(0, Value.ref 26), (1, Value.int a1), (2, Value.int a2), (3, Value.int v3)] [] M (X_Search_sit_L59 n self a1 a2 m v3 M) := by
  intro m
  induction m with
  | zero => intro _ _; exact j_none
  | succ m ih =>
    intro v3 M
    show J _ _ _ _ _ _ ((if (M.1 11 0) ≤ v3 then
some ((), M)
else
nm (fun (M1 : Mem) => (X_Search_sit_L59 n self a1 a2 m (v3 + 1) M1 : Option (Unit × Mem))) fun k123 =>
(if (((a2.toUInt32 >>> (v3.toUInt32 &&& Int32.toUInt32 31)).toInt32) &&& 1) = 0 then
gd a1 6 (
nm (fun (u2 : Int32) (M3 : Mem) => (bd (X_Search_step n a1 u2 M3) fun r4 M5 =>
bd (self (a1 + 1) (a2 ||| ((1 : Int32) <<< (v3 &&& 31))) M5) fun _ M7 =>
k123 M7 : Option (Unit × Mem))) fun k107 =>
(if a1 = 0 then
k107 (-1) (si M 27 (a1.toNatClampNeg) v3)
else
nm (si M 27 (a1.toNatClampNeg) v3) fun N8 =>
gd (a1 - 1) 6 (
bd (X_ShakeHands_pairOf n (N8.1 27 (a1 - 1).toNatClampNeg) v3 N8) fun r9 M10 =>
k107 r9 M10)))
else
k123 M)))
    refine j_iload_n (pc := 59) (q := 3) d_Search_sit_59 rfl rfl ?_
    refine j_aload_n (pc := 60) (q := 0) d_Search_sit_60 rfl rfl ?_
    refine j_getA (pc := 61) d_Search_sit_61 fl_Search_23 sx_26 (by decide) rfl ?_
    refine j_getI (pc := 64) d_Search_sit_64 fl_Search_31 sx_11 (by decide) rfl ?_
    refine j_icmp_ge (pc := 67) (tgt := 129) d_Search_sit_67 (by decide) (fun _ => ?_) (fun _ => ?_)
    · exact j_return (pc := 129) d_Search_sit_129 rfl
    · refine j_iload_n (pc := 70) (q := 2) d_Search_sit_70 rfl rfl ?_
      refine j_iload_n (pc := 71) (q := 3) d_Search_sit_71 rfl rfl ?_
      refine j_iushr (pc := 72) d_Search_sit_72 ?_
      refine j_iconst (pc := 73) d_Search_sit_73 k_i_1 ?_
      refine j_iand (pc := 74) d_Search_sit_74 ?_
      refine j_nmk (fun k => ∀ (M1 : Mem), J (mt_Search_sit (f + 1)) wU 123 [(0, Value.ref 26), (1, Value.int a1), (2, Value.int a2), (3, Value.int v3)] [] M1 (k M1)) (fun M1 => ?_) (fun k123 hk123 => ?_)
      · refine j_iinc (pc := 123) (q := 3) d_Search_sit_123 rfl (congrArg (v3 + ·) k_i_1) (by show 3 < 4; decide) rfl ?_
        refine j_goto (pc := 126) (tgt := 59) d_Search_sit_126 (by decide) ?_
        refine j_lv [1, 2, 3, 0] rfl ?_
        exact ih (v3 + 1) M1
      · refine j_if_ne (pc := 75) (tgt := 123) d_Search_sit_75 (by decide) (fun _ => ?_) (fun _ => ?_)
        · exact hk123 M
        · refine j_aload_n (pc := 78) (q := 0) d_Search_sit_78 rfl rfl ?_
          refine j_getA (pc := 79) d_Search_sit_79 fl_Search_11 sx_26 (by decide) rfl ?_
          refine j_iload_n (pc := 82) (q := 1) d_Search_sit_82 rfl rfl ?_
          refine j_iload_n (pc := 83) (q := 3) d_Search_sit_83 rfl rfl ?_
          refine j_iast (pc := 84) d_Search_sit_84 sx_27 (fun _ => ?_)
          refine j_aload_n (pc := 85) (q := 0) d_Search_sit_85 rfl rfl ?_
          refine j_iload_n (pc := 86) (q := 1) d_Search_sit_86 rfl rfl ?_
          refine j_iload_n (pc := 87) (q := 1) d_Search_sit_87 rfl rfl ?_
          refine j_nmk (fun k => ∀ (u2 : Int32) (M3 : Mem), J (mt_Search_sit (f + 1)) wU 107 [(0, Value.ref 26), (1, Value.int a1), (2, Value.int a2), (3, Value.int v3)] [Value.int u2, Value.int a1, Value.ref 26] M3 (k u2 M3)) (fun u2 M3 => ?_) (fun k107 hk107 => ?_)
          · refine j_callV2 (pc := 107) d_Search_sit_107 (C_Search_step n a1 u2 M3) cV_Search_139 cd_Search_step dn_Search_step rfl (by show 6 + 1 ≤ 7 + (f + 1); omega) (Nat.le_of_ble_eq_true rfl) (Nat.le_of_ble_eq_true rfl) nr_I sx_26 (by decide) rfl (fun r4 M5 => ?_)
            refine j_pop (pc := 110) d_Search_sit_110 rfl ?_
            refine j_aload_n (pc := 111) (q := 0) d_Search_sit_111 rfl rfl ?_
            refine j_iload_n (pc := 112) (q := 1) d_Search_sit_112 rfl rfl ?_
            refine j_iconst (pc := 113) d_Search_sit_113 k_i_1 ?_
            refine j_iadd (pc := 114) d_Search_sit_114 ?_
            refine j_iload_n (pc := 115) (q := 2) d_Search_sit_115 rfl rfl ?_
            refine j_iconst (pc := 116) d_Search_sit_116 k_i_1 ?_
            refine j_iload_n (pc := 117) (q := 3) d_Search_sit_117 rfl rfl ?_
            refine j_ishl (pc := 118) d_Search_sit_118 ?_
            refine j_ior (pc := 119) d_Search_sit_119 ?_
            refine j_callS3 (pc := 120) d_Search_sit_120 (hself (a1 + 1) (a2 ||| ((1 : Int32) <<< (v3 &&& 31))) M5) cS_Search_93 cd_Search_sit dn_Search_sit rfl (Nat.le_refl _) (Nat.le_of_ble_eq_true rfl) (Nat.le_of_ble_eq_true rfl) nr_U (fun r6 M7 => ?_)
            exact hk123 M7
          · refine j_if_ne (pc := 88) (tgt := 95) d_Search_sit_88 (by decide) (fun _ => ?_) (fun _ => ?_)
            · refine j_aload_n (pc := 95) (q := 0) d_Search_sit_95 rfl rfl ?_
              refine j_getA (pc := 96) d_Search_sit_96 fl_Search_11 sx_26 (by decide) rfl ?_
              refine j_iload_n (pc := 99) (q := 1) d_Search_sit_99 rfl rfl ?_
              refine j_iconst (pc := 100) d_Search_sit_100 k_i_1 ?_
              refine j_isub (pc := 101) d_Search_sit_101 ?_
              refine j_nmM (fun N8 => ?_)
              refine j_iald (pc := 102) d_Search_sit_102 sx_27 (fun _ => ?_)
              refine j_iload_n (pc := 103) (q := 3) d_Search_sit_103 rfl rfl ?_
              refine j_callSN2 (pc := 104) d_Search_sit_104 (C_ShakeHands_pairOf n (N8.1 27 (a1 - 1).toNatClampNeg) v3 N8) cSN_Search_146 cd_ShakeHands_pairOf dn_ShakeHands_pairOf rfl (by show 2 + 1 ≤ 7 + (f + 1); omega) (Nat.le_of_ble_eq_true rfl) (Nat.le_of_ble_eq_true rfl) nr_I (fun r9 M10 => ?_)
              exact hk107 r9 M10
            · refine j_iconst (pc := 91) d_Search_sit_91 k_i_m1 ?_
              refine j_goto (pc := 92) (tgt := 107) d_Search_sit_92 (by decide) ?_
              exact hk107 (-1) (si M 27 (a1.toNatClampNeg) v3)
set_option maxRecDepth 20000 in
set_option maxHeartbeats 4000000 in
theorem C_Search_sit (n : Nat) : ∀ (f : Nat) (p1 : Int32) (p2 : Int32) (M : Mem), Ct y_Search_sit (mt_Search_sit f) wU [Value.ref 26, Value.int p1, Value.int p2] M (X_Search_sit n f p1 p2 M) := by
  intro f
  induction f with
  | zero => intro p1 p2 M r M2 hF; cases hF
  | succ f ihf =>
    intro p1 p2 M
    refine ct_of (by decide +kernel) rfl (Nat.le_of_ble_eq_true rfl) ?_
    show J _ _ _ [(0, Value.ref 26), (1, Value.int p1), (2, Value.int p2)] _ _ ((if p1 < (M.1 11 0) then
X_Search_sit_L59 n (X_Search_sit n f) p1 p2 n 0 M
else
gd p1 7 (
bd (X_Search_amiss n (([30, 31, 32, 33, 34, 35, 36] : List Nat).getD p1.toNatClampNeg 0) M) fun r12 M13 =>
(if r12 = 0 then
nm (fun (M14 : Mem) => (some ((), si M14 26 2 ((M14.1 26 2) + 1)) : Option (Unit × Mem))) fun k46 =>
(if (M13.1 26 2) = 0 then
gc (0 : Int32) (0 : Int32) (6 : Int32) 6 6 (
k46 (cpI M13 27 ((0 : Int32).toNatClampNeg) 28 ((0 : Int32).toNatClampNeg) ((6 : Int32).toNatClampNeg)))
else
k46 M13)
else
some ((), M13)))))
    refine j_iload_n (pc := 0) (q := 1) d_Search_sit_0 rfl rfl ?_
    refine j_aload_n (pc := 1) (q := 0) d_Search_sit_1 rfl rfl ?_
    refine j_getA (pc := 2) d_Search_sit_2 fl_Search_23 sx_26 (by decide) rfl ?_
    refine j_getI (pc := 5) d_Search_sit_5 fl_Search_31 sx_11 (by decide) rfl ?_
    refine j_icmp_lt (pc := 8) (tgt := 57) d_Search_sit_8 (by decide) (fun _ => ?_) (fun _ => ?_)
    · refine j_iconst (pc := 57) d_Search_sit_57 k_i_0 ?_
      refine j_istore_n (pc := 58) d_Search_sit_58 rfl (by show 3 < 4; decide) rfl ?_
      refine j_lv [1, 2, 3, 0] rfl ?_
      exact X_Search_sit_L59_ok ihf  n 0 M
    · refine j_aload_n (pc := 11) (q := 0) d_Search_sit_11 rfl rfl ?_
      refine j_aload_n (pc := 12) (q := 0) d_Search_sit_12 rfl rfl ?_
      refine j_getA (pc := 13) d_Search_sit_13 fl_Search_20 sx_26 (by decide) rfl ?_
      refine j_iload_n (pc := 16) (q := 1) d_Search_sit_16 rfl rfl ?_
      refine j_aald2 (pc := 17) (ids := [30, 31, 32, 33, 34, 35, 36]) d_Search_sit_17 sx_29 (fun h11 => ?_)
      refine j_callV1 (pc := 18) d_Search_sit_18 (C_Search_amiss n (([30, 31, 32, 33, 34, 35, 36] : List Nat).getD p1.toNatClampNeg 0) (sh_level h11) M) cV_Search_72 cd_Search_amiss dn_Search_amiss rfl (by show 3 + 1 ≤ 7 + (f + 1); omega) (Nat.le_of_ble_eq_true rfl) (Nat.le_of_ble_eq_true rfl) nr_I sx_26 (by decide) rfl (fun r12 M13 => ?_)
      refine j_if_ne (pc := 21) (tgt := 56) d_Search_sit_21 (by decide) (fun _ => ?_) (fun _ => ?_)
      · exact j_return (pc := 56) d_Search_sit_56 rfl
      · refine j_aload_n (pc := 24) (q := 0) d_Search_sit_24 rfl rfl ?_
        refine j_getI (pc := 25) d_Search_sit_25 fl_Search_80 sx_26 (by decide) rfl ?_
        refine j_nmk (fun k => ∀ (M14 : Mem), J (mt_Search_sit (f + 1)) wU 46 [(0, Value.ref 26)] [] M14 (k M14)) (fun M14 => ?_) (fun k46 hk46 => ?_)
        · refine j_aload_n (pc := 46) (q := 0) d_Search_sit_46 rfl rfl ?_
          refine j_dup (pc := 47) d_Search_sit_47 rfl ?_
          refine j_getI (pc := 48) d_Search_sit_48 fl_Search_80 sx_26 (by decide) rfl ?_
          refine j_iconst (pc := 51) d_Search_sit_51 k_i_1 ?_
          refine j_iadd (pc := 52) d_Search_sit_52 ?_
          refine j_putI (pc := 53) d_Search_sit_53 fl_Search_80 rfl sx_26 (by decide) rfl ?_
          exact j_return (pc := 56) d_Search_sit_56 rfl
        · refine j_if_ne (pc := 28) (tgt := 46) d_Search_sit_28 (by decide) (fun _ => ?_) (fun _ => ?_)
          · refine j_lv [0] rfl ?_
            exact hk46 M13
          · refine j_aload_n (pc := 31) (q := 0) d_Search_sit_31 rfl rfl ?_
            refine j_getA (pc := 32) d_Search_sit_32 fl_Search_11 sx_26 (by decide) rfl ?_
            refine j_iconst (pc := 35) d_Search_sit_35 k_i_0 ?_
            refine j_aload_n (pc := 36) (q := 0) d_Search_sit_36 rfl rfl ?_
            refine j_getA (pc := 37) d_Search_sit_37 fl_Search_15 sx_26 (by decide) rfl ?_
            refine j_iconst (pc := 40) d_Search_sit_40 k_i_0 ?_
            refine j_bipush (pc := 41) d_Search_sit_41 k_b_6 ?_
            refine j_copyI (pc := 43) d_Search_sit_43 cw_Search_46 cw_nat cw_st sx_27 sx_28 (by show 1 ≤ 7 + (f + 1); omega) (Nat.le_of_ble_eq_true rfl) ?_
            refine j_lv [0] rfl ?_
            exact hk46 (cpI M13 27 ((0 : Int32).toNatClampNeg) 28 ((0 : Int32).toNatClampNeg) ((6 : Int32).toNatClampNeg))
-- Search.countSeats ()V
def mt_Search_countSeats : Mt := ("ShakeHands$Search", b_Search_countSeats, 1, none, 20, SHx)
theorem d_Search_countSeats_0 : decode b_Search_countSeats 0 = .ok (.aload_n 0, 1) := by decide +kernel
theorem d_Search_countSeats_1 : decode b_Search_countSeats 1 = .ok (.iconst 0, 1) := by decide +kernel
theorem d_Search_countSeats_2 : decode b_Search_countSeats 2 = .ok (.putfield 80, 3) := by decide +kernel
theorem d_Search_countSeats_5 : decode b_Search_countSeats 5 = .ok (.aload_n 0, 1) := by decide +kernel
theorem d_Search_countSeats_6 : decode b_Search_countSeats 6 = .ok (.iconst 0, 1) := by decide +kernel
theorem d_Search_countSeats_7 : decode b_Search_countSeats 7 = .ok (.iconst 0, 1) := by decide +kernel
theorem d_Search_countSeats_8 : decode b_Search_countSeats 8 = .ok (.invokestatic 93, 3) := by decide +kernel
theorem d_Search_countSeats_11 : decode b_Search_countSeats 11 = .ok (.return_, 1) := by decide +kernel
def X_Search_countSeats (n : Nat) (M : Mem) : Option (Unit × Mem) :=
  nm (si M 26 2 0) fun N1 =>
  bd (X_Search_sit n 12 0 0 N1) fun _ M3 =>
  some ((), M3)
set_option maxRecDepth 20000 in
set_option maxHeartbeats 4000000 in
theorem C_Search_countSeats (n : Nat)    (M : Mem) : Ct y_Search_countSeats mt_Search_countSeats wU [Value.ref 26] M (X_Search_countSeats n M) := by
  refine ct_of (by decide +kernel) rfl (Nat.le_of_ble_eq_true rfl) ?_
  show J _ _ _ [(0, Value.ref 26)] _ _ _
  unfold X_Search_countSeats
  refine j_aload_n (pc := 0) (q := 0) d_Search_countSeats_0 rfl rfl ?_
  refine j_iconst (pc := 1) d_Search_countSeats_1 k_i_0 ?_
  refine j_putI (pc := 2) d_Search_countSeats_2 fl_Search_80 rfl sx_26 (by decide) rfl ?_
  refine j_aload_n (pc := 5) (q := 0) d_Search_countSeats_5 rfl rfl ?_
  refine j_iconst (pc := 6) d_Search_countSeats_6 k_i_0 ?_
  refine j_iconst (pc := 7) d_Search_countSeats_7 k_i_0 ?_
  refine j_nmM (fun N1 => ?_)
  refine j_callS3 (pc := 8) d_Search_countSeats_8 (C_Search_sit n 12 0 0 N1) cS_Search_93 cd_Search_sit dn_Search_sit rfl (by decide) (Nat.le_of_ble_eq_true rfl) (Nat.le_of_ble_eq_true rfl) nr_U (fun r2 M3 => ?_)
  exact j_return (pc := 11) d_Search_countSeats_11 rfl

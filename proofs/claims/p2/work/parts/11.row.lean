-- Integer.bitCount (I)I
def mt_Integer_bitCount : Mt := ("java/lang/Integer", b_Integer_bitCount, 1, some .int, 2, SHx)
theorem d_Integer_bitCount_0 : decode b_Integer_bitCount 0 = .ok (.iload_n 0, 1) := by decide +kernel
theorem d_Integer_bitCount_1 : decode b_Integer_bitCount 1 = .ok (.iload_n 0, 1) := by decide +kernel
theorem d_Integer_bitCount_2 : decode b_Integer_bitCount 2 = .ok (.iconst 1, 1) := by decide +kernel
theorem d_Integer_bitCount_3 : decode b_Integer_bitCount 3 = .ok (.iushr, 1) := by decide +kernel
theorem d_Integer_bitCount_4 : decode b_Integer_bitCount 4 = .ok (.ldc_w 265, 3) := by decide +kernel
theorem d_Integer_bitCount_7 : decode b_Integer_bitCount 7 = .ok (.iand, 1) := by decide +kernel
theorem d_Integer_bitCount_8 : decode b_Integer_bitCount 8 = .ok (.isub, 1) := by decide +kernel
theorem d_Integer_bitCount_9 : decode b_Integer_bitCount 9 = .ok (.istore_n 0, 1) := by decide +kernel
theorem d_Integer_bitCount_10 : decode b_Integer_bitCount 10 = .ok (.iload_n 0, 1) := by decide +kernel
theorem d_Integer_bitCount_11 : decode b_Integer_bitCount 11 = .ok (.ldc_w 266, 3) := by decide +kernel
theorem d_Integer_bitCount_14 : decode b_Integer_bitCount 14 = .ok (.iand, 1) := by decide +kernel
theorem d_Integer_bitCount_15 : decode b_Integer_bitCount 15 = .ok (.iload_n 0, 1) := by decide +kernel
theorem d_Integer_bitCount_16 : decode b_Integer_bitCount 16 = .ok (.iconst 2, 1) := by decide +kernel
theorem d_Integer_bitCount_17 : decode b_Integer_bitCount 17 = .ok (.iushr, 1) := by decide +kernel
theorem d_Integer_bitCount_18 : decode b_Integer_bitCount 18 = .ok (.ldc_w 266, 3) := by decide +kernel
theorem d_Integer_bitCount_21 : decode b_Integer_bitCount 21 = .ok (.iand, 1) := by decide +kernel
theorem d_Integer_bitCount_22 : decode b_Integer_bitCount 22 = .ok (.iadd, 1) := by decide +kernel
theorem d_Integer_bitCount_23 : decode b_Integer_bitCount 23 = .ok (.istore_n 0, 1) := by decide +kernel
theorem d_Integer_bitCount_24 : decode b_Integer_bitCount 24 = .ok (.iload_n 0, 1) := by decide +kernel
theorem d_Integer_bitCount_25 : decode b_Integer_bitCount 25 = .ok (.iload_n 0, 1) := by decide +kernel
theorem d_Integer_bitCount_26 : decode b_Integer_bitCount 26 = .ok (.iconst 4, 1) := by decide +kernel
theorem d_Integer_bitCount_27 : decode b_Integer_bitCount 27 = .ok (.iushr, 1) := by decide +kernel
theorem d_Integer_bitCount_28 : decode b_Integer_bitCount 28 = .ok (.iadd, 1) := by decide +kernel
theorem d_Integer_bitCount_29 : decode b_Integer_bitCount 29 = .ok (.ldc_w 267, 3) := by decide +kernel
theorem d_Integer_bitCount_32 : decode b_Integer_bitCount 32 = .ok (.iand, 1) := by decide +kernel
theorem d_Integer_bitCount_33 : decode b_Integer_bitCount 33 = .ok (.istore_n 0, 1) := by decide +kernel
theorem d_Integer_bitCount_34 : decode b_Integer_bitCount 34 = .ok (.iload_n 0, 1) := by decide +kernel
theorem d_Integer_bitCount_35 : decode b_Integer_bitCount 35 = .ok (.iload_n 0, 1) := by decide +kernel
theorem d_Integer_bitCount_36 : decode b_Integer_bitCount 36 = .ok (.bipush 8, 2) := by decide +kernel
theorem d_Integer_bitCount_38 : decode b_Integer_bitCount 38 = .ok (.iushr, 1) := by decide +kernel
theorem d_Integer_bitCount_39 : decode b_Integer_bitCount 39 = .ok (.iadd, 1) := by decide +kernel
theorem d_Integer_bitCount_40 : decode b_Integer_bitCount 40 = .ok (.istore_n 0, 1) := by decide +kernel
theorem d_Integer_bitCount_41 : decode b_Integer_bitCount 41 = .ok (.iload_n 0, 1) := by decide +kernel
theorem d_Integer_bitCount_42 : decode b_Integer_bitCount 42 = .ok (.iload_n 0, 1) := by decide +kernel
theorem d_Integer_bitCount_43 : decode b_Integer_bitCount 43 = .ok (.bipush 16, 2) := by decide +kernel
theorem d_Integer_bitCount_45 : decode b_Integer_bitCount 45 = .ok (.iushr, 1) := by decide +kernel
theorem d_Integer_bitCount_46 : decode b_Integer_bitCount 46 = .ok (.iadd, 1) := by decide +kernel
theorem d_Integer_bitCount_47 : decode b_Integer_bitCount 47 = .ok (.istore_n 0, 1) := by decide +kernel
theorem d_Integer_bitCount_48 : decode b_Integer_bitCount 48 = .ok (.iload_n 0, 1) := by decide +kernel
theorem d_Integer_bitCount_49 : decode b_Integer_bitCount 49 = .ok (.bipush 63, 2) := by decide +kernel
theorem d_Integer_bitCount_51 : decode b_Integer_bitCount 51 = .ok (.iand, 1) := by decide +kernel
theorem d_Integer_bitCount_52 : decode b_Integer_bitCount 52 = .ok (.ireturn, 1) := by decide +kernel
def X_Integer_bitCount (n : Nat) (p0 : Int32) (M : Mem) : Option (Int32 × Mem) :=
  nm (p0 - (((p0.toUInt32 >>> ((1 : Int32).toUInt32 &&& Int32.toUInt32 31)).toInt32) &&& 1431655765)) fun x1 =>
  nm ((x1 &&& 858993459) + (((x1.toUInt32 >>> ((2 : Int32).toUInt32 &&& Int32.toUInt32 31)).toInt32) &&& 858993459)) fun x2 =>
  nm ((x2 + ((x2.toUInt32 >>> ((4 : Int32).toUInt32 &&& Int32.toUInt32 31)).toInt32)) &&& 252645135) fun x3 =>
  nm (x3 + ((x3.toUInt32 >>> ((8 : Int32).toUInt32 &&& Int32.toUInt32 31)).toInt32)) fun x4 =>
  nm (x4 + ((x4.toUInt32 >>> ((16 : Int32).toUInt32 &&& Int32.toUInt32 31)).toInt32)) fun x5 =>
  some ((x5 &&& 63), M)
set_option maxRecDepth 20000 in
set_option maxHeartbeats 4000000 in
theorem C_Integer_bitCount (n : Nat)   (p0 : Int32) (M : Mem) : Ct y_Integer_bitCount mt_Integer_bitCount wI [Value.int p0] M (X_Integer_bitCount n p0 M) := by
  refine ct_of (by decide +kernel) rfl (Nat.le_of_ble_eq_true rfl) ?_
  show J _ _ _ [(0, Value.int p0)] _ _ _
  unfold X_Integer_bitCount
  refine j_iload_n (pc := 0) (q := 0) d_Integer_bitCount_0 rfl rfl ?_
  refine j_iload_n (pc := 1) (q := 0) d_Integer_bitCount_1 rfl rfl ?_
  refine j_iconst (pc := 2) d_Integer_bitCount_2 k_i_1 ?_
  refine j_iushr (pc := 3) d_Integer_bitCount_3 ?_
  refine j_ldcw (pc := 4) (own := "java/lang/Integer") d_Integer_bitCount_4 ct_Integer_265 ?_
  refine j_iand (pc := 7) d_Integer_bitCount_7 ?_
  refine j_isub (pc := 8) d_Integer_bitCount_8 ?_
  refine j_nmi (fun x1 => ?_)
  refine j_istore_n (pc := 9) d_Integer_bitCount_9 rfl (by decide) rfl ?_
  refine j_iload_n (pc := 10) (q := 0) d_Integer_bitCount_10 rfl rfl ?_
  refine j_ldcw (pc := 11) (own := "java/lang/Integer") d_Integer_bitCount_11 ct_Integer_266 ?_
  refine j_iand (pc := 14) d_Integer_bitCount_14 ?_
  refine j_iload_n (pc := 15) (q := 0) d_Integer_bitCount_15 rfl rfl ?_
  refine j_iconst (pc := 16) d_Integer_bitCount_16 k_i_2 ?_
  refine j_iushr (pc := 17) d_Integer_bitCount_17 ?_
  refine j_ldcw (pc := 18) (own := "java/lang/Integer") d_Integer_bitCount_18 ct_Integer_266 ?_
  refine j_iand (pc := 21) d_Integer_bitCount_21 ?_
  refine j_iadd (pc := 22) d_Integer_bitCount_22 ?_
  refine j_nmi (fun x2 => ?_)
  refine j_istore_n (pc := 23) d_Integer_bitCount_23 rfl (by decide) rfl ?_
  refine j_iload_n (pc := 24) (q := 0) d_Integer_bitCount_24 rfl rfl ?_
  refine j_iload_n (pc := 25) (q := 0) d_Integer_bitCount_25 rfl rfl ?_
  refine j_iconst (pc := 26) d_Integer_bitCount_26 k_i_4 ?_
  refine j_iushr (pc := 27) d_Integer_bitCount_27 ?_
  refine j_iadd (pc := 28) d_Integer_bitCount_28 ?_
  refine j_ldcw (pc := 29) (own := "java/lang/Integer") d_Integer_bitCount_29 ct_Integer_267 ?_
  refine j_iand (pc := 32) d_Integer_bitCount_32 ?_
  refine j_nmi (fun x3 => ?_)
  refine j_istore_n (pc := 33) d_Integer_bitCount_33 rfl (by decide) rfl ?_
  refine j_iload_n (pc := 34) (q := 0) d_Integer_bitCount_34 rfl rfl ?_
  refine j_iload_n (pc := 35) (q := 0) d_Integer_bitCount_35 rfl rfl ?_
  refine j_bipush (pc := 36) d_Integer_bitCount_36 k_b_8 ?_
  refine j_iushr (pc := 38) d_Integer_bitCount_38 ?_
  refine j_iadd (pc := 39) d_Integer_bitCount_39 ?_
  refine j_nmi (fun x4 => ?_)
  refine j_istore_n (pc := 40) d_Integer_bitCount_40 rfl (by decide) rfl ?_
  refine j_iload_n (pc := 41) (q := 0) d_Integer_bitCount_41 rfl rfl ?_
  refine j_iload_n (pc := 42) (q := 0) d_Integer_bitCount_42 rfl rfl ?_
  refine j_bipush (pc := 43) d_Integer_bitCount_43 k_b_16 ?_
  refine j_iushr (pc := 45) d_Integer_bitCount_45 ?_
  refine j_iadd (pc := 46) d_Integer_bitCount_46 ?_
  refine j_nmi (fun x5 => ?_)
  refine j_istore_n (pc := 47) d_Integer_bitCount_47 rfl (by decide) rfl ?_
  refine j_iload_n (pc := 48) (q := 0) d_Integer_bitCount_48 rfl rfl ?_
  refine j_bipush (pc := 49) d_Integer_bitCount_49 k_b_63 ?_
  refine j_iand (pc := 51) d_Integer_bitCount_51 ?_
  exact j_ireturn (pc := 52) d_Integer_bitCount_52 rfl
-- Row.take (J)V
def mt_Row_take : Mt := ("ShakeHands$Row", b_Row_take, 3, none, 2, SHx)
theorem d_Row_take_0 : decode b_Row_take 0 = .ok (.aload_n 0, 1) := by decide +kernel
theorem d_Row_take_1 : decode b_Row_take 1 = .ok (.lload_n 1, 1) := by decide +kernel
theorem d_Row_take_2 : decode b_Row_take 2 = .ok (.ldc2_w 15, 3) := by decide +kernel
theorem d_Row_take_5 : decode b_Row_take 5 = .ok (.land, 1) := by decide +kernel
theorem d_Row_take_6 : decode b_Row_take 6 = .ok (.putfield 17, 3) := by decide +kernel
theorem d_Row_take_9 : decode b_Row_take 9 = .ok (.aload_n 0, 1) := by decide +kernel
theorem d_Row_take_10 : decode b_Row_take 10 = .ok (.lload_n 1, 1) := by decide +kernel
theorem d_Row_take_11 : decode b_Row_take 11 = .ok (.bipush 36, 2) := by decide +kernel
theorem d_Row_take_13 : decode b_Row_take 13 = .ok (.lushr, 1) := by decide +kernel
theorem d_Row_take_14 : decode b_Row_take 14 = .ok (.l2i, 1) := by decide +kernel
theorem d_Row_take_15 : decode b_Row_take 15 = .ok (.putfield 21, 3) := by decide +kernel
theorem d_Row_take_18 : decode b_Row_take 18 = .ok (.return_, 1) := by decide +kernel
def X_Row_take (n : Nat) (o : Nat) (p1 : Int64) (M : Mem) : Option (Unit × Mem) :=
  some ((), si (sl M o 0 (p1 &&& 68719476735)) o 1 ((((p1.toUInt64 >>> ((36 : Int32).toInt64.toUInt64 &&& Int64.toUInt64 63)).toInt64) : Int64).toInt32))
set_option maxRecDepth 20000 in
set_option maxHeartbeats 4000000 in
theorem C_Row_take (n : Nat) (o : Nat) (h_o : SHx[o]? = some (3, [1, 0])) (p1 : Int64) (M : Mem) : Ct y_Row_take mt_Row_take wU [Value.ref o, Value.long p1] M (X_Row_take n o p1 M) := by
  refine ct_of (by decide +kernel) rfl (Nat.le_of_ble_eq_true rfl) ?_
  show J _ _ _ [(0, Value.ref o), (1, Value.long p1)] _ _ _
  unfold X_Row_take
  refine j_aload_n (pc := 0) (q := 0) d_Row_take_0 rfl rfl ?_
  refine j_lload_n (pc := 1) (q := 1) d_Row_take_1 rfl rfl ?_
  refine j_ldc2 (pc := 2) d_Row_take_2 cl_Row_15 ?_
  refine j_land (pc := 5) d_Row_take_5 ?_
  refine j_putL (pc := 6) d_Row_take_6 fl_Row_17 rfl h_o (by decide) rfl ?_
  refine j_aload_n (pc := 9) (q := 0) d_Row_take_9 rfl rfl ?_
  refine j_lload_n (pc := 10) (q := 1) d_Row_take_10 rfl rfl ?_
  refine j_bipush (pc := 11) d_Row_take_11 k_b_36 ?_
  refine j_lushr (pc := 13) d_Row_take_13 ?_
  refine j_l2i (pc := 14) d_Row_take_14 ?_
  refine j_putI (pc := 15) d_Row_take_15 fl_Row_21 rfl h_o (by decide) rfl ?_
  exact j_return (pc := 18) d_Row_take_18 rfl
-- Row.add (I)V
def mt_Row_add : Mt := ("ShakeHands$Row", b_Row_add, 2, none, 3, SHx)
theorem d_Row_add_0 : decode b_Row_add 0 = .ok (.aload_n 0, 1) := by decide +kernel
theorem d_Row_add_1 : decode b_Row_add 1 = .ok (.getfield 21, 3) := by decide +kernel
theorem d_Row_add_4 : decode b_Row_add 4 = .ok (.iload_n 1, 1) := by decide +kernel
theorem d_Row_add_5 : decode b_Row_add 5 = .ok (.iushr, 1) := by decide +kernel
theorem d_Row_add_6 : decode b_Row_add 6 = .ok (.iconst 1, 1) := by decide +kernel
theorem d_Row_add_7 : decode b_Row_add 7 = .ok (.iand, 1) := by decide +kernel
theorem d_Row_add_8 : decode b_Row_add 8 = .ok (.ifCond .ne 36, 3) := by decide +kernel
theorem d_Row_add_11 : decode b_Row_add 11 = .ok (.aload_n 0, 1) := by decide +kernel
theorem d_Row_add_12 : decode b_Row_add 12 = .ok (.dup, 1) := by decide +kernel
theorem d_Row_add_13 : decode b_Row_add 13 = .ok (.getfield 17, 3) := by decide +kernel
theorem d_Row_add_16 : decode b_Row_add 16 = .ok (.iload_n 1, 1) := by decide +kernel
theorem d_Row_add_17 : decode b_Row_add 17 = .ok (.i2l, 1) := by decide +kernel
theorem d_Row_add_18 : decode b_Row_add 18 = .ok (.iconst 4, 1) := by decide +kernel
theorem d_Row_add_19 : decode b_Row_add 19 = .ok (.aload_n 0, 1) := by decide +kernel
theorem d_Row_add_20 : decode b_Row_add 20 = .ok (.getfield 21, 3) := by decide +kernel
theorem d_Row_add_23 : decode b_Row_add 23 = .ok (.invokestatic 9, 3) := by decide +kernel
theorem d_Row_add_26 : decode b_Row_add 26 = .ok (.imul, 1) := by decide +kernel
theorem d_Row_add_27 : decode b_Row_add 27 = .ok (.lshl, 1) := by decide +kernel
theorem d_Row_add_28 : decode b_Row_add 28 = .ok (.lor, 1) := by decide +kernel
theorem d_Row_add_29 : decode b_Row_add 29 = .ok (.putfield 17, 3) := by decide +kernel
theorem d_Row_add_32 : decode b_Row_add 32 = .ok (.aload_n 0, 1) := by decide +kernel
theorem d_Row_add_33 : decode b_Row_add 33 = .ok (.dup, 1) := by decide +kernel
theorem d_Row_add_34 : decode b_Row_add 34 = .ok (.getfield 21, 3) := by decide +kernel
theorem d_Row_add_37 : decode b_Row_add 37 = .ok (.iconst 1, 1) := by decide +kernel
theorem d_Row_add_38 : decode b_Row_add 38 = .ok (.iload_n 1, 1) := by decide +kernel
theorem d_Row_add_39 : decode b_Row_add 39 = .ok (.ishl, 1) := by decide +kernel
theorem d_Row_add_40 : decode b_Row_add 40 = .ok (.ior, 1) := by decide +kernel
theorem d_Row_add_41 : decode b_Row_add 41 = .ok (.putfield 21, 3) := by decide +kernel
theorem d_Row_add_44 : decode b_Row_add 44 = .ok (.return_, 1) := by decide +kernel
def X_Row_add (n : Nat) (o : Nat) (p1 : Int32) (M : Mem) : Option (Unit × Mem) :=
  (if ((((M.1 o 1).toUInt32 >>> (p1.toUInt32 &&& Int32.toUInt32 31)).toInt32) &&& 1) = 0 then
    bd (X_Integer_bitCount n (M.1 o 1) M) fun r1 M2 =>
    nm (sl M2 o 0 ((M.2 o 0) ||| ((p1.toInt64) <<< (((4 : Int32) * r1).toInt64 &&& 63)))) fun N3 =>
    some ((), si N3 o 1 ((N3.1 o 1) ||| ((1 : Int32) <<< (p1 &&& 31))))
    else
    some ((), M))
set_option maxRecDepth 20000 in
set_option maxHeartbeats 4000000 in
theorem C_Row_add (n : Nat) (o : Nat) (h_o : SHx[o]? = some (3, [1, 0])) (p1 : Int32) (M : Mem) : Ct y_Row_add mt_Row_add wU [Value.ref o, Value.int p1] M (X_Row_add n o p1 M) := by
  refine ct_of (by decide +kernel) rfl (Nat.le_of_ble_eq_true rfl) ?_
  show J _ _ _ [(0, Value.ref o), (1, Value.int p1)] _ _ _
  unfold X_Row_add
  refine j_aload_n (pc := 0) (q := 0) d_Row_add_0 rfl rfl ?_
  refine j_getI (pc := 1) d_Row_add_1 fl_Row_21 h_o (by decide) rfl ?_
  refine j_iload_n (pc := 4) (q := 1) d_Row_add_4 rfl rfl ?_
  refine j_iushr (pc := 5) d_Row_add_5 ?_
  refine j_iconst (pc := 6) d_Row_add_6 k_i_1 ?_
  refine j_iand (pc := 7) d_Row_add_7 ?_
  refine j_if_ne (pc := 8) (tgt := 44) d_Row_add_8 (by decide) (fun _ => ?_) (fun _ => ?_)
  · exact j_return (pc := 44) d_Row_add_44 rfl
  · refine j_aload_n (pc := 11) (q := 0) d_Row_add_11 rfl rfl ?_
    refine j_dup (pc := 12) d_Row_add_12 rfl ?_
    refine j_getL (pc := 13) d_Row_add_13 fl_Row_17 h_o (by decide) rfl ?_
    refine j_iload_n (pc := 16) (q := 1) d_Row_add_16 rfl rfl ?_
    refine j_i2l (pc := 17) d_Row_add_17 ?_
    refine j_iconst (pc := 18) d_Row_add_18 k_i_4 ?_
    refine j_aload_n (pc := 19) (q := 0) d_Row_add_19 rfl rfl ?_
    refine j_getI (pc := 20) d_Row_add_20 fl_Row_21 h_o (by decide) rfl ?_
    refine j_callS1 (pc := 23) d_Row_add_23 (C_Integer_bitCount n (M.1 o 1) M) cS_Row_9 cd_Integer_bitCount dn_Integer_bitCount rfl (by decide) (Nat.le_of_ble_eq_true rfl) (Nat.le_of_ble_eq_true rfl) nr_I (fun r1 M2 => ?_)
    refine j_imul (pc := 26) d_Row_add_26 ?_
    refine j_lshl (pc := 27) d_Row_add_27 ?_
    refine j_lor (pc := 28) d_Row_add_28 ?_
    refine j_putL (pc := 29) d_Row_add_29 fl_Row_17 rfl h_o (by decide) rfl ?_
    refine j_aload_n (pc := 32) (q := 0) d_Row_add_32 rfl rfl ?_
    refine j_dup (pc := 33) d_Row_add_33 rfl ?_
    refine j_nmM (fun N3 => ?_)
    refine j_getI (pc := 34) d_Row_add_34 fl_Row_21 h_o (by decide) rfl ?_
    refine j_iconst (pc := 37) d_Row_add_37 k_i_1 ?_
    refine j_iload_n (pc := 38) (q := 1) d_Row_add_38 rfl rfl ?_
    refine j_ishl (pc := 39) d_Row_add_39 ?_
    refine j_ior (pc := 40) d_Row_add_40 ?_
    refine j_putI (pc := 41) d_Row_add_41 fl_Row_21 rfl h_o (by decide) rfl ?_
    exact j_return (pc := 44) d_Row_add_44 rfl
-- Row.atRest ()J
def mt_Row_atRest : Mt := ("ShakeHands$Row", b_Row_atRest, 1, some .long, 2, SHx)
theorem d_Row_atRest_0 : decode b_Row_atRest 0 = .ok (.aload_n 0, 1) := by decide +kernel
theorem d_Row_atRest_1 : decode b_Row_atRest 1 = .ok (.getfield 17, 3) := by decide +kernel
theorem d_Row_atRest_4 : decode b_Row_atRest 4 = .ok (.ldc2_w 15, 3) := by decide +kernel
theorem d_Row_atRest_7 : decode b_Row_atRest 7 = .ok (.land, 1) := by decide +kernel
theorem d_Row_atRest_8 : decode b_Row_atRest 8 = .ok (.aload_n 0, 1) := by decide +kernel
theorem d_Row_atRest_9 : decode b_Row_atRest 9 = .ok (.getfield 21, 3) := by decide +kernel
theorem d_Row_atRest_12 : decode b_Row_atRest 12 = .ok (.i2l, 1) := by decide +kernel
theorem d_Row_atRest_13 : decode b_Row_atRest 13 = .ok (.bipush 36, 2) := by decide +kernel
theorem d_Row_atRest_15 : decode b_Row_atRest 15 = .ok (.lshl, 1) := by decide +kernel
theorem d_Row_atRest_16 : decode b_Row_atRest 16 = .ok (.lor, 1) := by decide +kernel
theorem d_Row_atRest_17 : decode b_Row_atRest 17 = .ok (.lreturn, 1) := by decide +kernel
def X_Row_atRest (n : Nat) (o : Nat) (M : Mem) : Option (Int64 × Mem) :=
  some ((((M.2 o 0) &&& 68719476735) ||| ((((M.1 o 1) : Int32).toInt64) <<< ((36 : Int32).toInt64 &&& 63))), M)
set_option maxRecDepth 20000 in
set_option maxHeartbeats 4000000 in
theorem C_Row_atRest (n : Nat) (o : Nat) (h_o : SHx[o]? = some (3, [1, 0]))  (M : Mem) : Ct y_Row_atRest mt_Row_atRest wL [Value.ref o] M (X_Row_atRest n o M) := by
  refine ct_of (by decide +kernel) rfl (Nat.le_of_ble_eq_true rfl) ?_
  show J _ _ _ [(0, Value.ref o)] _ _ _
  unfold X_Row_atRest
  refine j_aload_n (pc := 0) (q := 0) d_Row_atRest_0 rfl rfl ?_
  refine j_getL (pc := 1) d_Row_atRest_1 fl_Row_17 h_o (by decide) rfl ?_
  refine j_ldc2 (pc := 4) d_Row_atRest_4 cl_Row_15 ?_
  refine j_land (pc := 7) d_Row_atRest_7 ?_
  refine j_aload_n (pc := 8) (q := 0) d_Row_atRest_8 rfl rfl ?_
  refine j_getI (pc := 9) d_Row_atRest_9 fl_Row_21 h_o (by decide) rfl ?_
  refine j_i2l (pc := 12) d_Row_atRest_12 ?_
  refine j_bipush (pc := 13) d_Row_atRest_13 k_b_36 ?_
  refine j_lshl (pc := 15) d_Row_atRest_15 ?_
  refine j_lor (pc := 16) d_Row_atRest_16 ?_
  exact j_lreturn (pc := 17) d_Row_atRest_17 rfl
-- Row.knownOf (J)I
def mt_Row_knownOf : Mt := ("ShakeHands$Row", b_Row_knownOf, 2, some .int, 2, SHx)
theorem d_Row_knownOf_0 : decode b_Row_knownOf 0 = .ok (.lload_n 0, 1) := by decide +kernel
theorem d_Row_knownOf_1 : decode b_Row_knownOf 1 = .ok (.bipush 36, 2) := by decide +kernel
theorem d_Row_knownOf_3 : decode b_Row_knownOf 3 = .ok (.lushr, 1) := by decide +kernel
theorem d_Row_knownOf_4 : decode b_Row_knownOf 4 = .ok (.l2i, 1) := by decide +kernel
theorem d_Row_knownOf_5 : decode b_Row_knownOf 5 = .ok (.ireturn, 1) := by decide +kernel
def X_Row_knownOf (n : Nat) (p0 : Int64) (M : Mem) : Option (Int32 × Mem) :=
  some (((((p0.toUInt64 >>> ((36 : Int32).toInt64.toUInt64 &&& Int64.toUInt64 63)).toInt64) : Int64).toInt32), M)
set_option maxRecDepth 20000 in
set_option maxHeartbeats 4000000 in
theorem C_Row_knownOf (n : Nat)   (p0 : Int64) (M : Mem) : Ct y_Row_knownOf mt_Row_knownOf wI [Value.long p0] M (X_Row_knownOf n p0 M) := by
  refine ct_of (by decide +kernel) rfl (Nat.le_of_ble_eq_true rfl) ?_
  show J _ _ _ [(0, Value.long p0)] _ _ _
  unfold X_Row_knownOf
  refine j_lload_n (pc := 0) (q := 0) d_Row_knownOf_0 rfl rfl ?_
  refine j_bipush (pc := 1) d_Row_knownOf_1 k_b_36 ?_
  refine j_lushr (pc := 3) d_Row_knownOf_3 ?_
  refine j_l2i (pc := 4) d_Row_knownOf_4 ?_
  exact j_ireturn (pc := 5) d_Row_knownOf_5 rfl
-- Row.sizeOf (J)I
def mt_Row_sizeOf : Mt := ("ShakeHands$Row", b_Row_sizeOf, 2, some .int, 3, SHx)
theorem d_Row_sizeOf_0 : decode b_Row_sizeOf 0 = .ok (.lload_n 0, 1) := by decide +kernel
theorem d_Row_sizeOf_1 : decode b_Row_sizeOf 1 = .ok (.bipush 36, 2) := by decide +kernel
theorem d_Row_sizeOf_3 : decode b_Row_sizeOf 3 = .ok (.lushr, 1) := by decide +kernel
theorem d_Row_sizeOf_4 : decode b_Row_sizeOf 4 = .ok (.l2i, 1) := by decide +kernel
theorem d_Row_sizeOf_5 : decode b_Row_sizeOf 5 = .ok (.invokestatic 9, 3) := by decide +kernel
theorem d_Row_sizeOf_8 : decode b_Row_sizeOf 8 = .ok (.ireturn, 1) := by decide +kernel
def X_Row_sizeOf (n : Nat) (p0 : Int64) (M : Mem) : Option (Int32 × Mem) :=
  bd (X_Integer_bitCount n ((((p0.toUInt64 >>> ((36 : Int32).toInt64.toUInt64 &&& Int64.toUInt64 63)).toInt64) : Int64).toInt32) M) fun r1 M2 =>
  some (r1, M2)
set_option maxRecDepth 20000 in
set_option maxHeartbeats 4000000 in
theorem C_Row_sizeOf (n : Nat)   (p0 : Int64) (M : Mem) : Ct y_Row_sizeOf mt_Row_sizeOf wI [Value.long p0] M (X_Row_sizeOf n p0 M) := by
  refine ct_of (by decide +kernel) rfl (Nat.le_of_ble_eq_true rfl) ?_
  show J _ _ _ [(0, Value.long p0)] _ _ _
  unfold X_Row_sizeOf
  refine j_lload_n (pc := 0) (q := 0) d_Row_sizeOf_0 rfl rfl ?_
  refine j_bipush (pc := 1) d_Row_sizeOf_1 k_b_36 ?_
  refine j_lushr (pc := 3) d_Row_sizeOf_3 ?_
  refine j_l2i (pc := 4) d_Row_sizeOf_4 ?_
  refine j_callS1 (pc := 5) d_Row_sizeOf_5 (C_Integer_bitCount n ((((p0.toUInt64 >>> ((36 : Int32).toInt64.toUInt64 &&& Int64.toUInt64 63)).toInt64) : Int64).toInt32) M) cS_Row_9 cd_Integer_bitCount dn_Integer_bitCount rfl (by decide) (Nat.le_of_ble_eq_true rfl) (Nat.le_of_ble_eq_true rfl) nr_I (fun r1 M2 => ?_)
  exact j_ireturn (pc := 8) d_Row_sizeOf_8 rfl
-- Row.thingOf (JI)I
def mt_Row_thingOf : Mt := ("ShakeHands$Row", b_Row_thingOf, 3, some .int, 2, SHx)
theorem d_Row_thingOf_0 : decode b_Row_thingOf 0 = .ok (.lload_n 0, 1) := by decide +kernel
theorem d_Row_thingOf_1 : decode b_Row_thingOf 1 = .ok (.iconst 4, 1) := by decide +kernel
theorem d_Row_thingOf_2 : decode b_Row_thingOf 2 = .ok (.iload_n 2, 1) := by decide +kernel
theorem d_Row_thingOf_3 : decode b_Row_thingOf 3 = .ok (.imul, 1) := by decide +kernel
theorem d_Row_thingOf_4 : decode b_Row_thingOf 4 = .ok (.lushr, 1) := by decide +kernel
theorem d_Row_thingOf_5 : decode b_Row_thingOf 5 = .ok (.l2i, 1) := by decide +kernel
theorem d_Row_thingOf_6 : decode b_Row_thingOf 6 = .ok (.bipush 15, 2) := by decide +kernel
theorem d_Row_thingOf_8 : decode b_Row_thingOf 8 = .ok (.iand, 1) := by decide +kernel
theorem d_Row_thingOf_9 : decode b_Row_thingOf 9 = .ok (.ireturn, 1) := by decide +kernel
def X_Row_thingOf (n : Nat) (p0 : Int64) (p2 : Int32) (M : Mem) : Option (Int32 × Mem) :=
  some ((((((p0.toUInt64 >>> (((4 : Int32) * p2).toInt64.toUInt64 &&& Int64.toUInt64 63)).toInt64) : Int64).toInt32) &&& 15), M)
set_option maxRecDepth 20000 in
set_option maxHeartbeats 4000000 in
theorem C_Row_thingOf (n : Nat)   (p0 : Int64) (p2 : Int32) (M : Mem) : Ct y_Row_thingOf mt_Row_thingOf wI [Value.long p0, Value.int p2] M (X_Row_thingOf n p0 p2 M) := by
  refine ct_of (by decide +kernel) rfl (Nat.le_of_ble_eq_true rfl) ?_
  show J _ _ _ [(0, Value.long p0), (2, Value.int p2)] _ _ _
  unfold X_Row_thingOf
  refine j_lload_n (pc := 0) (q := 0) d_Row_thingOf_0 rfl rfl ?_
  refine j_iconst (pc := 1) d_Row_thingOf_1 k_i_4 ?_
  refine j_iload_n (pc := 2) (q := 1) d_Row_thingOf_2 rfl rfl ?_
  refine j_imul (pc := 3) d_Row_thingOf_3 ?_
  refine j_lushr (pc := 4) d_Row_thingOf_4 ?_
  refine j_l2i (pc := 5) d_Row_thingOf_5 ?_
  refine j_bipush (pc := 6) d_Row_thingOf_6 k_b_15 ?_
  refine j_iand (pc := 8) d_Row_thingOf_8 ?_
  exact j_ireturn (pc := 9) d_Row_thingOf_9 rfl
-- Row.knowsIt (JI)Z
def mt_Row_knowsIt : Mt := ("ShakeHands$Row", b_Row_knowsIt, 3, some .boolean, 2, SHx)
theorem d_Row_knowsIt_0 : decode b_Row_knowsIt 0 = .ok (.lload_n 0, 1) := by decide +kernel
theorem d_Row_knowsIt_1 : decode b_Row_knowsIt 1 = .ok (.bipush 36, 2) := by decide +kernel
theorem d_Row_knowsIt_3 : decode b_Row_knowsIt 3 = .ok (.iload_n 2, 1) := by decide +kernel
theorem d_Row_knowsIt_4 : decode b_Row_knowsIt 4 = .ok (.iadd, 1) := by decide +kernel
theorem d_Row_knowsIt_5 : decode b_Row_knowsIt 5 = .ok (.lushr, 1) := by decide +kernel
theorem d_Row_knowsIt_6 : decode b_Row_knowsIt 6 = .ok (.lconst 1, 1) := by decide +kernel
theorem d_Row_knowsIt_7 : decode b_Row_knowsIt 7 = .ok (.land, 1) := by decide +kernel
theorem d_Row_knowsIt_8 : decode b_Row_knowsIt 8 = .ok (.lconst 0, 1) := by decide +kernel
theorem d_Row_knowsIt_9 : decode b_Row_knowsIt 9 = .ok (.lcmp, 1) := by decide +kernel
theorem d_Row_knowsIt_10 : decode b_Row_knowsIt 10 = .ok (.ifCond .eq 7, 3) := by decide +kernel
theorem d_Row_knowsIt_13 : decode b_Row_knowsIt 13 = .ok (.iconst 1, 1) := by decide +kernel
theorem d_Row_knowsIt_14 : decode b_Row_knowsIt 14 = .ok (.goto 4, 3) := by decide +kernel
theorem d_Row_knowsIt_17 : decode b_Row_knowsIt 17 = .ok (.iconst 0, 1) := by decide +kernel
theorem d_Row_knowsIt_18 : decode b_Row_knowsIt 18 = .ok (.ireturn, 1) := by decide +kernel
def X_Row_knowsIt (n : Nat) (p0 : Int64) (p2 : Int32) (M : Mem) : Option (Int32 × Mem) :=
  (if (lg_cmp (((p0.toUInt64 >>> (((36 : Int32) + p2).toInt64.toUInt64 &&& Int64.toUInt64 63)).toInt64) &&& 1) 0) = 0 then
    some (0, M)
    else
    some (1, M))
set_option maxRecDepth 20000 in
set_option maxHeartbeats 4000000 in
theorem C_Row_knowsIt (n : Nat)   (p0 : Int64) (p2 : Int32) (M : Mem) : Ct y_Row_knowsIt mt_Row_knowsIt wI [Value.long p0, Value.int p2] M (X_Row_knowsIt n p0 p2 M) := by
  refine ct_of (by decide +kernel) rfl (Nat.le_of_ble_eq_true rfl) ?_
  show J _ _ _ [(0, Value.long p0), (2, Value.int p2)] _ _ _
  unfold X_Row_knowsIt
  refine j_lload_n (pc := 0) (q := 0) d_Row_knowsIt_0 rfl rfl ?_
  refine j_bipush (pc := 1) d_Row_knowsIt_1 k_b_36 ?_
  refine j_iload_n (pc := 3) (q := 1) d_Row_knowsIt_3 rfl rfl ?_
  refine j_iadd (pc := 4) d_Row_knowsIt_4 ?_
  refine j_lushr (pc := 5) d_Row_knowsIt_5 ?_
  refine j_lconst (pc := 6) d_Row_knowsIt_6 k_l_1 ?_
  refine j_land (pc := 7) d_Row_knowsIt_7 ?_
  refine j_lconst (pc := 8) d_Row_knowsIt_8 k_l_0 ?_
  refine j_lcmp (pc := 9) d_Row_knowsIt_9 ?_
  refine j_if_eq (pc := 10) (tgt := 17) d_Row_knowsIt_10 (by decide) (fun _ => ?_) (fun _ => ?_)
  · refine j_iconst (pc := 17) d_Row_knowsIt_17 k_i_0 ?_
    exact j_zreturn (pc := 18) d_Row_knowsIt_18 rfl rfl
  · refine j_iconst (pc := 13) d_Row_knowsIt_13 k_i_1 ?_
    refine j_goto (pc := 14) (tgt := 18) d_Row_knowsIt_14 (by decide) ?_
    exact j_zreturn (pc := 18) d_Row_knowsIt_18 rfl rfl
-- Row.drop (I)V
def mt_Row_drop : Mt := ("ShakeHands$Row", b_Row_drop, 6, none, 3, SHx)
theorem d_Row_drop_0 : decode b_Row_drop 0 = .ok (.aload_n 0, 1) := by decide +kernel
theorem d_Row_drop_1 : decode b_Row_drop 1 = .ok (.getfield 21, 3) := by decide +kernel
theorem d_Row_drop_4 : decode b_Row_drop 4 = .ok (.invokestatic 9, 3) := by decide +kernel
theorem d_Row_drop_7 : decode b_Row_drop 7 = .ok (.istore_n 2, 1) := by decide +kernel
theorem d_Row_drop_8 : decode b_Row_drop 8 = .ok (.iconst 0, 1) := by decide +kernel
theorem d_Row_drop_9 : decode b_Row_drop 9 = .ok (.istore_n 3, 1) := by decide +kernel
theorem d_Row_drop_10 : decode b_Row_drop 10 = .ok (.iload_n 3, 1) := by decide +kernel
theorem d_Row_drop_11 : decode b_Row_drop 11 = .ok (.iload_n 2, 1) := by decide +kernel
theorem d_Row_drop_12 : decode b_Row_drop 12 = .ok (.if_icmp .ge 77, 3) := by decide +kernel
theorem d_Row_drop_15 : decode b_Row_drop 15 = .ok (.aload_n 0, 1) := by decide +kernel
theorem d_Row_drop_16 : decode b_Row_drop 16 = .ok (.getfield 17, 3) := by decide +kernel
theorem d_Row_drop_19 : decode b_Row_drop 19 = .ok (.iconst 4, 1) := by decide +kernel
theorem d_Row_drop_20 : decode b_Row_drop 20 = .ok (.iload_n 3, 1) := by decide +kernel
theorem d_Row_drop_21 : decode b_Row_drop 21 = .ok (.imul, 1) := by decide +kernel
theorem d_Row_drop_22 : decode b_Row_drop 22 = .ok (.lushr, 1) := by decide +kernel
theorem d_Row_drop_23 : decode b_Row_drop 23 = .ok (.ldc2_w 29, 3) := by decide +kernel
theorem d_Row_drop_26 : decode b_Row_drop 26 = .ok (.land, 1) := by decide +kernel
theorem d_Row_drop_27 : decode b_Row_drop 27 = .ok (.iload_n 1, 1) := by decide +kernel
theorem d_Row_drop_28 : decode b_Row_drop 28 = .ok (.i2l, 1) := by decide +kernel
theorem d_Row_drop_29 : decode b_Row_drop 29 = .ok (.lcmp, 1) := by decide +kernel
theorem d_Row_drop_30 : decode b_Row_drop 30 = .ok (.ifCond .ne 53, 3) := by decide +kernel
theorem d_Row_drop_33 : decode b_Row_drop 33 = .ok (.aload_n 0, 1) := by decide +kernel
theorem d_Row_drop_34 : decode b_Row_drop 34 = .ok (.getfield 17, 3) := by decide +kernel
theorem d_Row_drop_37 : decode b_Row_drop 37 = .ok (.lconst 1, 1) := by decide +kernel
theorem d_Row_drop_38 : decode b_Row_drop 38 = .ok (.iconst 4, 1) := by decide +kernel
theorem d_Row_drop_39 : decode b_Row_drop 39 = .ok (.iload_n 3, 1) := by decide +kernel
theorem d_Row_drop_40 : decode b_Row_drop 40 = .ok (.imul, 1) := by decide +kernel
theorem d_Row_drop_41 : decode b_Row_drop 41 = .ok (.lshl, 1) := by decide +kernel
theorem d_Row_drop_42 : decode b_Row_drop 42 = .ok (.lconst 1, 1) := by decide +kernel
theorem d_Row_drop_43 : decode b_Row_drop 43 = .ok (.lsub, 1) := by decide +kernel
theorem d_Row_drop_44 : decode b_Row_drop 44 = .ok (.land, 1) := by decide +kernel
theorem d_Row_drop_45 : decode b_Row_drop 45 = .ok (.lstore 4, 2) := by decide +kernel
theorem d_Row_drop_47 : decode b_Row_drop 47 = .ok (.aload_n 0, 1) := by decide +kernel
theorem d_Row_drop_48 : decode b_Row_drop 48 = .ok (.aload_n 0, 1) := by decide +kernel
theorem d_Row_drop_49 : decode b_Row_drop 49 = .ok (.getfield 17, 3) := by decide +kernel
theorem d_Row_drop_52 : decode b_Row_drop 52 = .ok (.iconst 4, 1) := by decide +kernel
theorem d_Row_drop_53 : decode b_Row_drop 53 = .ok (.iload_n 3, 1) := by decide +kernel
theorem d_Row_drop_54 : decode b_Row_drop 54 = .ok (.imul, 1) := by decide +kernel
theorem d_Row_drop_55 : decode b_Row_drop 55 = .ok (.lushr, 1) := by decide +kernel
theorem d_Row_drop_56 : decode b_Row_drop 56 = .ok (.iconst 4, 1) := by decide +kernel
theorem d_Row_drop_57 : decode b_Row_drop 57 = .ok (.lushr, 1) := by decide +kernel
theorem d_Row_drop_58 : decode b_Row_drop 58 = .ok (.iconst 4, 1) := by decide +kernel
theorem d_Row_drop_59 : decode b_Row_drop 59 = .ok (.iload_n 3, 1) := by decide +kernel
theorem d_Row_drop_60 : decode b_Row_drop 60 = .ok (.imul, 1) := by decide +kernel
theorem d_Row_drop_61 : decode b_Row_drop 61 = .ok (.lshl, 1) := by decide +kernel
theorem d_Row_drop_62 : decode b_Row_drop 62 = .ok (.lload 4, 2) := by decide +kernel
theorem d_Row_drop_64 : decode b_Row_drop 64 = .ok (.lor, 1) := by decide +kernel
theorem d_Row_drop_65 : decode b_Row_drop 65 = .ok (.putfield 17, 3) := by decide +kernel
theorem d_Row_drop_68 : decode b_Row_drop 68 = .ok (.aload_n 0, 1) := by decide +kernel
theorem d_Row_drop_69 : decode b_Row_drop 69 = .ok (.dup, 1) := by decide +kernel
theorem d_Row_drop_70 : decode b_Row_drop 70 = .ok (.getfield 21, 3) := by decide +kernel
theorem d_Row_drop_73 : decode b_Row_drop 73 = .ok (.iconst 1, 1) := by decide +kernel
theorem d_Row_drop_74 : decode b_Row_drop 74 = .ok (.iload_n 1, 1) := by decide +kernel
theorem d_Row_drop_75 : decode b_Row_drop 75 = .ok (.ishl, 1) := by decide +kernel
theorem d_Row_drop_76 : decode b_Row_drop 76 = .ok (.iconst (-1), 1) := by decide +kernel
theorem d_Row_drop_77 : decode b_Row_drop 77 = .ok (.ixor, 1) := by decide +kernel
theorem d_Row_drop_78 : decode b_Row_drop 78 = .ok (.iand, 1) := by decide +kernel
theorem d_Row_drop_79 : decode b_Row_drop 79 = .ok (.putfield 21, 3) := by decide +kernel
theorem d_Row_drop_82 : decode b_Row_drop 82 = .ok (.return_, 1) := by decide +kernel
theorem d_Row_drop_83 : decode b_Row_drop 83 = .ok (.iinc 3 1, 3) := by decide +kernel
theorem d_Row_drop_86 : decode b_Row_drop 86 = .ok (.goto (-76), 3) := by decide +kernel
theorem d_Row_drop_89 : decode b_Row_drop 89 = .ok (.return_, 1) := by decide +kernel
def X_Row_drop_L10 (n : Nat) (o : Nat) (a1 : Int32) (a2 : Int32) (kx33 : Int32 → Option (Unit × Mem)) (M : Mem) : Nat → Int32 → Option (Unit × Mem)
    | 0, _ => none
    | m + 1, v3 => (if a2 ≤ v3 then
    some ((), M)
    else
    (if (lg_cmp ((((M.2 o 0).toUInt64 >>> (((4 : Int32) * v3).toInt64.toUInt64 &&& Int64.toUInt64 63)).toInt64) &&& 15) (a1.toInt64)) = 0 then
      kx33 v3
      else
      X_Row_drop_L10 n o a1 a2 kx33 M m (v3 + 1)))
def X_Row_drop (n : Nat) (o : Nat) (p1 : Int32) (M : Mem) : Option (Unit × Mem) :=
  bd (X_Integer_bitCount n (M.1 o 1) M) fun r1 M2 =>
  X_Row_drop_L10 n o p1 r1 (fun y3 => nm ((M2.2 o 0) &&& (((1 : Int64) <<< (((4 : Int32) * y3).toInt64 &&& 63)) - 1)) fun x4 =>
    nm (sl M2 o 0 (((((((M2.2 o 0).toUInt64 >>> (((4 : Int32) * y3).toInt64.toUInt64 &&& Int64.toUInt64 63)).toInt64).toUInt64 >>> ((4 : Int32).toInt64.toUInt64 &&& Int64.toUInt64 63)).toInt64) <<< (((4 : Int32) * y3).toInt64 &&& 63)) ||| x4)) fun N5 =>
    some ((), si N5 o 1 ((N5.1 o 1) &&& (((1 : Int32) <<< (p1 &&& 31)) ^^^ (-1))))) M2 n 0
set_option maxRecDepth 20000 in
set_option maxHeartbeats 4000000 in
theorem X_Row_drop_L10_ok {n : Nat} {o : Nat} {a1 : Int32} {a2 : Int32} (h_o : SHx[o]? = some (3, [1, 0])) {kx33 : Int32 → Option (Unit × Mem)} {M : Mem} (hkx33 : ∀ (w3 : Int32), J (mt_Row_drop) wU 33 [(0, Value.ref o), (1, Value.int a1), (3, Value.int w3)] [] M (kx33 w3)) : ∀ (m : Nat) (v3 : Int32), J (mt_Row_drop) wU 10 [(0, Value.ref o), (1, Value.int a1), (2, Value.int a2), (3, Value.int v3)] [] M (X_Row_drop_L10 n o a1 a2 kx33 M m v3) := by
  intro m
  induction m with
  | zero => intro _; exact j_none
  | succ m ih =>
    intro v3
    show J _ _ _ _ _ _ ((if a2 ≤ v3 then
some ((), M)
else
(if (lg_cmp ((((M.2 o 0).toUInt64 >>> (((4 : Int32) * v3).toInt64.toUInt64 &&& Int64.toUInt64 63)).toInt64) &&& 15) (a1.toInt64)) = 0 then
kx33 v3
else
X_Row_drop_L10 n o a1 a2 kx33 M m (v3 + 1))))
    refine j_iload_n (pc := 10) (q := 3) d_Row_drop_10 rfl rfl ?_
    refine j_iload_n (pc := 11) (q := 2) d_Row_drop_11 rfl rfl ?_
    refine j_icmp_ge (pc := 12) (tgt := 89) d_Row_drop_12 (by decide) (fun _ => ?_) (fun _ => ?_)
    · exact j_return (pc := 89) d_Row_drop_89 rfl
    · refine j_aload_n (pc := 15) (q := 0) d_Row_drop_15 rfl rfl ?_
      refine j_getL (pc := 16) d_Row_drop_16 fl_Row_17 h_o (by decide) rfl ?_
      refine j_iconst (pc := 19) d_Row_drop_19 k_i_4 ?_
      refine j_iload_n (pc := 20) (q := 3) d_Row_drop_20 rfl rfl ?_
      refine j_imul (pc := 21) d_Row_drop_21 ?_
      refine j_lushr (pc := 22) d_Row_drop_22 ?_
      refine j_ldc2 (pc := 23) d_Row_drop_23 cl_Row_29 ?_
      refine j_land (pc := 26) d_Row_drop_26 ?_
      refine j_iload_n (pc := 27) (q := 1) d_Row_drop_27 rfl rfl ?_
      refine j_i2l (pc := 28) d_Row_drop_28 ?_
      refine j_lcmp (pc := 29) d_Row_drop_29 ?_
      refine j_if_ne (pc := 30) (tgt := 83) d_Row_drop_30 (by decide) (fun _ => ?_) (fun _ => ?_)
      · refine j_iinc (pc := 83) (q := 3) d_Row_drop_83 rfl (congrArg (v3 + ·) k_i_1) (by decide) rfl ?_
        refine j_goto (pc := 86) (tgt := 10) d_Row_drop_86 (by decide) ?_
        refine j_lv [1, 2, 3, 0] rfl ?_
        exact ih (v3 + 1)
      · refine j_lv [0, 1, 3] rfl ?_
        exact hkx33 v3
set_option maxRecDepth 20000 in
set_option maxHeartbeats 4000000 in
theorem C_Row_drop (n : Nat) (o : Nat) (h_o : SHx[o]? = some (3, [1, 0])) (p1 : Int32) (M : Mem) : Ct y_Row_drop mt_Row_drop wU [Value.ref o, Value.int p1] M (X_Row_drop n o p1 M) := by
  refine ct_of (by decide +kernel) rfl (Nat.le_of_ble_eq_true rfl) ?_
  show J _ _ _ [(0, Value.ref o), (1, Value.int p1)] _ _ _
  unfold X_Row_drop
  refine j_aload_n (pc := 0) (q := 0) d_Row_drop_0 rfl rfl ?_
  refine j_getI (pc := 1) d_Row_drop_1 fl_Row_21 h_o (by decide) rfl ?_
  refine j_callS1 (pc := 4) d_Row_drop_4 (C_Integer_bitCount n (M.1 o 1) M) cS_Row_9 cd_Integer_bitCount dn_Integer_bitCount rfl (by decide) (Nat.le_of_ble_eq_true rfl) (Nat.le_of_ble_eq_true rfl) nr_I (fun r1 M2 => ?_)
  refine j_istore_n (pc := 7) d_Row_drop_7 rfl (by decide) rfl ?_
  refine j_iconst (pc := 8) d_Row_drop_8 k_i_0 ?_
  refine j_istore_n (pc := 9) d_Row_drop_9 rfl (by decide) rfl ?_
  refine j_lv [2, 3, 1, 0] rfl ?_
  refine X_Row_drop_L10_ok h_o (fun y3 => ?_) n 0
  refine j_aload_n (pc := 33) (q := 0) d_Row_drop_33 rfl rfl ?_
  refine j_getL (pc := 34) d_Row_drop_34 fl_Row_17 h_o (by decide) rfl ?_
  refine j_lconst (pc := 37) d_Row_drop_37 k_l_1 ?_
  refine j_iconst (pc := 38) d_Row_drop_38 k_i_4 ?_
  refine j_iload_n (pc := 39) (q := 2) d_Row_drop_39 rfl rfl ?_
  refine j_imul (pc := 40) d_Row_drop_40 ?_
  refine j_lshl (pc := 41) d_Row_drop_41 ?_
  refine j_lconst (pc := 42) d_Row_drop_42 k_l_1 ?_
  refine j_lsub (pc := 43) d_Row_drop_43 ?_
  refine j_land (pc := 44) d_Row_drop_44 ?_
  refine j_nml (fun x4 => ?_)
  refine j_lstore (pc := 45) d_Row_drop_45 (by decide) rfl ?_
  refine j_aload_n (pc := 47) (q := 1) d_Row_drop_47 rfl rfl ?_
  refine j_aload_n (pc := 48) (q := 1) d_Row_drop_48 rfl rfl ?_
  refine j_getL (pc := 49) d_Row_drop_49 fl_Row_17 h_o (by decide) rfl ?_
  refine j_iconst (pc := 52) d_Row_drop_52 k_i_4 ?_
  refine j_iload_n (pc := 53) (q := 3) d_Row_drop_53 rfl rfl ?_
  refine j_imul (pc := 54) d_Row_drop_54 ?_
  refine j_lushr (pc := 55) d_Row_drop_55 ?_
  refine j_iconst (pc := 56) d_Row_drop_56 k_i_4 ?_
  refine j_lushr (pc := 57) d_Row_drop_57 ?_
  refine j_iconst (pc := 58) d_Row_drop_58 k_i_4 ?_
  refine j_iload_n (pc := 59) (q := 3) d_Row_drop_59 rfl rfl ?_
  refine j_imul (pc := 60) d_Row_drop_60 ?_
  refine j_lshl (pc := 61) d_Row_drop_61 ?_
  refine j_lload (pc := 62) (q := 0) d_Row_drop_62 rfl ?_
  refine j_lor (pc := 64) d_Row_drop_64 ?_
  refine j_putL (pc := 65) d_Row_drop_65 fl_Row_17 rfl h_o (by decide) rfl ?_
  refine j_aload_n (pc := 68) (q := 1) d_Row_drop_68 rfl rfl ?_
  refine j_dup (pc := 69) d_Row_drop_69 rfl ?_
  refine j_nmM (fun N5 => ?_)
  refine j_getI (pc := 70) d_Row_drop_70 fl_Row_21 h_o (by decide) rfl ?_
  refine j_iconst (pc := 73) d_Row_drop_73 k_i_1 ?_
  refine j_iload_n (pc := 74) (q := 2) d_Row_drop_74 rfl rfl ?_
  refine j_ishl (pc := 75) d_Row_drop_75 ?_
  refine j_iconst (pc := 76) d_Row_drop_76 k_i_m1 ?_
  refine j_ixor (pc := 77) d_Row_drop_77 ?_
  refine j_iand (pc := 78) d_Row_drop_78 ?_
  refine j_putI (pc := 79) d_Row_drop_79 fl_Row_21 rfl h_o (by decide) rfl ?_
  exact j_return (pc := 82) d_Row_drop_82 rfl
-- Row.shorten (I)V
def mt_Row_shorten : Mt := ("ShakeHands$Row", b_Row_shorten, 3, none, 3, SHx)
theorem d_Row_shorten_0 : decode b_Row_shorten 0 = .ok (.aload_n 0, 1) := by decide +kernel
theorem d_Row_shorten_1 : decode b_Row_shorten 1 = .ok (.getfield 21, 3) := by decide +kernel
theorem d_Row_shorten_4 : decode b_Row_shorten 4 = .ok (.invokestatic 9, 3) := by decide +kernel
theorem d_Row_shorten_7 : decode b_Row_shorten 7 = .ok (.iload_n 1, 1) := by decide +kernel
theorem d_Row_shorten_8 : decode b_Row_shorten 8 = .ok (.isub, 1) := by decide +kernel
theorem d_Row_shorten_9 : decode b_Row_shorten 9 = .ok (.istore_n 2, 1) := by decide +kernel
theorem d_Row_shorten_10 : decode b_Row_shorten 10 = .ok (.iload_n 2, 1) := by decide +kernel
theorem d_Row_shorten_11 : decode b_Row_shorten 11 = .ok (.ifCond .le 41, 3) := by decide +kernel
theorem d_Row_shorten_14 : decode b_Row_shorten 14 = .ok (.aload_n 0, 1) := by decide +kernel
theorem d_Row_shorten_15 : decode b_Row_shorten 15 = .ok (.dup, 1) := by decide +kernel
theorem d_Row_shorten_16 : decode b_Row_shorten 16 = .ok (.getfield 21, 3) := by decide +kernel
theorem d_Row_shorten_19 : decode b_Row_shorten 19 = .ok (.iconst 1, 1) := by decide +kernel
theorem d_Row_shorten_20 : decode b_Row_shorten 20 = .ok (.aload_n 0, 1) := by decide +kernel
theorem d_Row_shorten_21 : decode b_Row_shorten 21 = .ok (.getfield 17, 3) := by decide +kernel
theorem d_Row_shorten_24 : decode b_Row_shorten 24 = .ok (.ldc2_w 29, 3) := by decide +kernel
theorem d_Row_shorten_27 : decode b_Row_shorten 27 = .ok (.land, 1) := by decide +kernel
theorem d_Row_shorten_28 : decode b_Row_shorten 28 = .ok (.l2i, 1) := by decide +kernel
theorem d_Row_shorten_29 : decode b_Row_shorten 29 = .ok (.ishl, 1) := by decide +kernel
theorem d_Row_shorten_30 : decode b_Row_shorten 30 = .ok (.iconst (-1), 1) := by decide +kernel
theorem d_Row_shorten_31 : decode b_Row_shorten 31 = .ok (.ixor, 1) := by decide +kernel
theorem d_Row_shorten_32 : decode b_Row_shorten 32 = .ok (.iand, 1) := by decide +kernel
theorem d_Row_shorten_33 : decode b_Row_shorten 33 = .ok (.putfield 21, 3) := by decide +kernel
theorem d_Row_shorten_36 : decode b_Row_shorten 36 = .ok (.aload_n 0, 1) := by decide +kernel
theorem d_Row_shorten_37 : decode b_Row_shorten 37 = .ok (.dup, 1) := by decide +kernel
theorem d_Row_shorten_38 : decode b_Row_shorten 38 = .ok (.getfield 17, 3) := by decide +kernel
theorem d_Row_shorten_41 : decode b_Row_shorten 41 = .ok (.iconst 4, 1) := by decide +kernel
theorem d_Row_shorten_42 : decode b_Row_shorten 42 = .ok (.lushr, 1) := by decide +kernel
theorem d_Row_shorten_43 : decode b_Row_shorten 43 = .ok (.putfield 17, 3) := by decide +kernel
theorem d_Row_shorten_46 : decode b_Row_shorten 46 = .ok (.iinc 2 (-1), 3) := by decide +kernel
theorem d_Row_shorten_49 : decode b_Row_shorten 49 = .ok (.goto (-39), 3) := by decide +kernel
theorem d_Row_shorten_52 : decode b_Row_shorten 52 = .ok (.return_, 1) := by decide +kernel
def X_Row_shorten_L10 (n : Nat) (o : Nat) : Nat → Int32 → Mem → Option (Unit × Mem)
    | 0, _, _ => none
    | m + 1, v2, M => (if v2 ≤ 0 then
    some ((), M)
    else
    nm (si M o 1 ((M.1 o 1) &&& (((1 : Int32) <<< (((((M.2 o 0) &&& 15) : Int64).toInt32) &&& 31)) ^^^ (-1)))) fun N4 =>
    X_Row_shorten_L10 n o m (v2 + (-1)) (sl N4 o 0 (((N4.2 o 0).toUInt64 >>> ((4 : Int32).toInt64.toUInt64 &&& Int64.toUInt64 63)).toInt64)))
def X_Row_shorten (n : Nat) (o : Nat) (p1 : Int32) (M : Mem) : Option (Unit × Mem) :=
  bd (X_Integer_bitCount n (M.1 o 1) M) fun r1 M2 =>
  nm (r1 - p1) fun x3 =>
  X_Row_shorten_L10 n o n x3 M2
set_option maxRecDepth 20000 in
set_option maxHeartbeats 4000000 in
theorem X_Row_shorten_L10_ok {n : Nat} {o : Nat} (h_o : SHx[o]? = some (3, [1, 0])) : ∀ (m : Nat) (v2 : Int32) (M : Mem), J (mt_Row_shorten) wU 10 [(0, Value.ref o), (2, Value.int v2)] [] M (X_Row_shorten_L10 n o m v2 M) := by
  intro m
  induction m with
  | zero => intro _ _; exact j_none
  | succ m ih =>
    intro v2 M
    show J _ _ _ _ _ _ ((if v2 ≤ 0 then
some ((), M)
else
nm (si M o 1 ((M.1 o 1) &&& (((1 : Int32) <<< (((((M.2 o 0) &&& 15) : Int64).toInt32) &&& 31)) ^^^ (-1)))) fun N4 =>
X_Row_shorten_L10 n o m (v2 + (-1)) (sl N4 o 0 (((N4.2 o 0).toUInt64 >>> ((4 : Int32).toInt64.toUInt64 &&& Int64.toUInt64 63)).toInt64))))
    refine j_iload_n (pc := 10) (q := 1) d_Row_shorten_10 rfl rfl ?_
    refine j_if_le (pc := 11) (tgt := 52) d_Row_shorten_11 (by decide) (fun _ => ?_) (fun _ => ?_)
    · exact j_return (pc := 52) d_Row_shorten_52 rfl
    · refine j_aload_n (pc := 14) (q := 0) d_Row_shorten_14 rfl rfl ?_
      refine j_dup (pc := 15) d_Row_shorten_15 rfl ?_
      refine j_getI (pc := 16) d_Row_shorten_16 fl_Row_21 h_o (by decide) rfl ?_
      refine j_iconst (pc := 19) d_Row_shorten_19 k_i_1 ?_
      refine j_aload_n (pc := 20) (q := 0) d_Row_shorten_20 rfl rfl ?_
      refine j_getL (pc := 21) d_Row_shorten_21 fl_Row_17 h_o (by decide) rfl ?_
      refine j_ldc2 (pc := 24) d_Row_shorten_24 cl_Row_29 ?_
      refine j_land (pc := 27) d_Row_shorten_27 ?_
      refine j_l2i (pc := 28) d_Row_shorten_28 ?_
      refine j_ishl (pc := 29) d_Row_shorten_29 ?_
      refine j_iconst (pc := 30) d_Row_shorten_30 k_i_m1 ?_
      refine j_ixor (pc := 31) d_Row_shorten_31 ?_
      refine j_iand (pc := 32) d_Row_shorten_32 ?_
      refine j_putI (pc := 33) d_Row_shorten_33 fl_Row_21 rfl h_o (by decide) rfl ?_
      refine j_aload_n (pc := 36) (q := 0) d_Row_shorten_36 rfl rfl ?_
      refine j_dup (pc := 37) d_Row_shorten_37 rfl ?_
      refine j_nmM (fun N4 => ?_)
      refine j_getL (pc := 38) d_Row_shorten_38 fl_Row_17 h_o (by decide) rfl ?_
      refine j_iconst (pc := 41) d_Row_shorten_41 k_i_4 ?_
      refine j_lushr (pc := 42) d_Row_shorten_42 ?_
      refine j_putL (pc := 43) d_Row_shorten_43 fl_Row_17 rfl h_o (by decide) rfl ?_
      refine j_iinc (pc := 46) (q := 1) d_Row_shorten_46 rfl (congrArg (v2 + ·) k_i_m1) (by decide) rfl ?_
      refine j_goto (pc := 49) (tgt := 10) d_Row_shorten_49 (by decide) ?_
      refine j_lv [1, 0] rfl ?_
      exact ih (v2 + (-1)) (sl N4 o 0 (((N4.2 o 0).toUInt64 >>> ((4 : Int32).toInt64.toUInt64 &&& Int64.toUInt64 63)).toInt64))
set_option maxRecDepth 20000 in
set_option maxHeartbeats 4000000 in
theorem C_Row_shorten (n : Nat) (o : Nat) (h_o : SHx[o]? = some (3, [1, 0])) (p1 : Int32) (M : Mem) : Ct y_Row_shorten mt_Row_shorten wU [Value.ref o, Value.int p1] M (X_Row_shorten n o p1 M) := by
  refine ct_of (by decide +kernel) rfl (Nat.le_of_ble_eq_true rfl) ?_
  show J _ _ _ [(0, Value.ref o), (1, Value.int p1)] _ _ _
  unfold X_Row_shorten
  refine j_aload_n (pc := 0) (q := 0) d_Row_shorten_0 rfl rfl ?_
  refine j_getI (pc := 1) d_Row_shorten_1 fl_Row_21 h_o (by decide) rfl ?_
  refine j_callS1 (pc := 4) d_Row_shorten_4 (C_Integer_bitCount n (M.1 o 1) M) cS_Row_9 cd_Integer_bitCount dn_Integer_bitCount rfl (by decide) (Nat.le_of_ble_eq_true rfl) (Nat.le_of_ble_eq_true rfl) nr_I (fun r1 M2 => ?_)
  refine j_iload_n (pc := 7) (q := 1) d_Row_shorten_7 rfl rfl ?_
  refine j_isub (pc := 8) d_Row_shorten_8 ?_
  refine j_nmi (fun x3 => ?_)
  refine j_istore_n (pc := 9) d_Row_shorten_9 rfl (by decide) rfl ?_
  refine j_lv [1, 0] rfl ?_
  exact X_Row_shorten_L10_ok h_o  n x3 M2
-- Row.addAll (J)V
def mt_Row_addAll : Mt := ("ShakeHands$Row", b_Row_addAll, 5, none, 4, SHx)
theorem d_Row_addAll_0 : decode b_Row_addAll 0 = .ok (.lload_n 1, 1) := by decide +kernel
theorem d_Row_addAll_1 : decode b_Row_addAll 1 = .ok (.bipush 36, 2) := by decide +kernel
theorem d_Row_addAll_3 : decode b_Row_addAll 3 = .ok (.lushr, 1) := by decide +kernel
theorem d_Row_addAll_4 : decode b_Row_addAll 4 = .ok (.l2i, 1) := by decide +kernel
theorem d_Row_addAll_5 : decode b_Row_addAll 5 = .ok (.invokestatic 9, 3) := by decide +kernel
theorem d_Row_addAll_8 : decode b_Row_addAll 8 = .ok (.istore_n 3, 1) := by decide +kernel
theorem d_Row_addAll_9 : decode b_Row_addAll 9 = .ok (.iconst 0, 1) := by decide +kernel
theorem d_Row_addAll_10 : decode b_Row_addAll 10 = .ok (.istore 4, 2) := by decide +kernel
theorem d_Row_addAll_12 : decode b_Row_addAll 12 = .ok (.iload 4, 2) := by decide +kernel
theorem d_Row_addAll_14 : decode b_Row_addAll 14 = .ok (.iload_n 3, 1) := by decide +kernel
theorem d_Row_addAll_15 : decode b_Row_addAll 15 = .ok (.if_icmp .ge 23, 3) := by decide +kernel
theorem d_Row_addAll_18 : decode b_Row_addAll 18 = .ok (.aload_n 0, 1) := by decide +kernel
theorem d_Row_addAll_19 : decode b_Row_addAll 19 = .ok (.lload_n 1, 1) := by decide +kernel
theorem d_Row_addAll_20 : decode b_Row_addAll 20 = .ok (.iconst 4, 1) := by decide +kernel
theorem d_Row_addAll_21 : decode b_Row_addAll 21 = .ok (.iload 4, 2) := by decide +kernel
theorem d_Row_addAll_23 : decode b_Row_addAll 23 = .ok (.imul, 1) := by decide +kernel
theorem d_Row_addAll_24 : decode b_Row_addAll 24 = .ok (.lushr, 1) := by decide +kernel
theorem d_Row_addAll_25 : decode b_Row_addAll 25 = .ok (.l2i, 1) := by decide +kernel
theorem d_Row_addAll_26 : decode b_Row_addAll 26 = .ok (.bipush 15, 2) := by decide +kernel
theorem d_Row_addAll_28 : decode b_Row_addAll 28 = .ok (.iand, 1) := by decide +kernel
theorem d_Row_addAll_29 : decode b_Row_addAll 29 = .ok (.invokevirtual 25, 3) := by decide +kernel
theorem d_Row_addAll_32 : decode b_Row_addAll 32 = .ok (.iinc 4 1, 3) := by decide +kernel
theorem d_Row_addAll_35 : decode b_Row_addAll 35 = .ok (.goto (-23), 3) := by decide +kernel
theorem d_Row_addAll_38 : decode b_Row_addAll 38 = .ok (.return_, 1) := by decide +kernel
def X_Row_addAll_L12 (n : Nat) (o : Nat) (a1 : Int64) (a3 : Int32) : Nat → Int32 → Mem → Option (Unit × Mem)
    | 0, _, _ => none
    | m + 1, v4, M => (if a3 ≤ v4 then
    some ((), M)
    else
    bd (X_Row_add n o (((((a1.toUInt64 >>> (((4 : Int32) * v4).toInt64.toUInt64 &&& Int64.toUInt64 63)).toInt64) : Int64).toInt32) &&& 15) M) fun _ M4 =>
    X_Row_addAll_L12 n o a1 a3 m (v4 + 1) M4)
def X_Row_addAll (n : Nat) (o : Nat) (p1 : Int64) (M : Mem) : Option (Unit × Mem) :=
  bd (X_Integer_bitCount n ((((p1.toUInt64 >>> ((36 : Int32).toInt64.toUInt64 &&& Int64.toUInt64 63)).toInt64) : Int64).toInt32) M) fun r1 M2 =>
  X_Row_addAll_L12 n o p1 r1 n 0 M2
set_option maxRecDepth 20000 in
set_option maxHeartbeats 4000000 in
theorem X_Row_addAll_L12_ok {n : Nat} {o : Nat} {a1 : Int64} {a3 : Int32} (h_o : SHx[o]? = some (3, [1, 0])) : ∀ (m : Nat) (v4 : Int32) (M : Mem), J (mt_Row_addAll) wU 12 [(0, Value.ref o), (1, Value.long a1), (3, Value.int a3), (4, Value.int v4)] [] M (X_Row_addAll_L12 n o a1 a3 m v4 M) := by
  intro m
  induction m with
  | zero => intro _ _; exact j_none
  | succ m ih =>
    intro v4 M
    show J _ _ _ _ _ _ ((if a3 ≤ v4 then
some ((), M)
else
bd (X_Row_add n o (((((a1.toUInt64 >>> (((4 : Int32) * v4).toInt64.toUInt64 &&& Int64.toUInt64 63)).toInt64) : Int64).toInt32) &&& 15) M) fun _ M4 =>
X_Row_addAll_L12 n o a1 a3 m (v4 + 1) M4))
    refine j_iload (pc := 12) (q := 3) d_Row_addAll_12 rfl ?_
    refine j_iload_n (pc := 14) (q := 2) d_Row_addAll_14 rfl rfl ?_
    refine j_icmp_ge (pc := 15) (tgt := 38) d_Row_addAll_15 (by decide) (fun _ => ?_) (fun _ => ?_)
    · exact j_return (pc := 38) d_Row_addAll_38 rfl
    · refine j_aload_n (pc := 18) (q := 0) d_Row_addAll_18 rfl rfl ?_
      refine j_lload_n (pc := 19) (q := 1) d_Row_addAll_19 rfl rfl ?_
      refine j_iconst (pc := 20) d_Row_addAll_20 k_i_4 ?_
      refine j_iload (pc := 21) (q := 3) d_Row_addAll_21 rfl ?_
      refine j_imul (pc := 23) d_Row_addAll_23 ?_
      refine j_lushr (pc := 24) d_Row_addAll_24 ?_
      refine j_l2i (pc := 25) d_Row_addAll_25 ?_
      refine j_bipush (pc := 26) d_Row_addAll_26 k_b_15 ?_
      refine j_iand (pc := 28) d_Row_addAll_28 ?_
      refine j_callV1 (pc := 29) d_Row_addAll_29 (C_Row_add n o h_o (((((a1.toUInt64 >>> (((4 : Int32) * v4).toInt64.toUInt64 &&& Int64.toUInt64 63)).toInt64) : Int64).toInt32) &&& 15) M) cV_Row_25 cd_Row_add dn_Row_add rfl (by decide) (Nat.le_of_ble_eq_true rfl) (Nat.le_of_ble_eq_true rfl) nr_U h_o (by decide) rfl (fun r3 M4 => ?_)
      refine j_iinc (pc := 32) (q := 3) d_Row_addAll_32 rfl (congrArg (v4 + ·) k_i_1) (by decide) rfl ?_
      refine j_goto (pc := 35) (tgt := 12) d_Row_addAll_35 (by decide) ?_
      refine j_lv [1, 2, 3, 0] rfl ?_
      exact ih (v4 + 1) M4
set_option maxRecDepth 20000 in
set_option maxHeartbeats 4000000 in
theorem C_Row_addAll (n : Nat) (o : Nat) (h_o : SHx[o]? = some (3, [1, 0])) (p1 : Int64) (M : Mem) : Ct y_Row_addAll mt_Row_addAll wU [Value.ref o, Value.long p1] M (X_Row_addAll n o p1 M) := by
  refine ct_of (by decide +kernel) rfl (Nat.le_of_ble_eq_true rfl) ?_
  show J _ _ _ [(0, Value.ref o), (1, Value.long p1)] _ _ _
  unfold X_Row_addAll
  refine j_lload_n (pc := 0) (q := 1) d_Row_addAll_0 rfl rfl ?_
  refine j_bipush (pc := 1) d_Row_addAll_1 k_b_36 ?_
  refine j_lushr (pc := 3) d_Row_addAll_3 ?_
  refine j_l2i (pc := 4) d_Row_addAll_4 ?_
  refine j_callS1 (pc := 5) d_Row_addAll_5 (C_Integer_bitCount n ((((p1.toUInt64 >>> ((36 : Int32).toInt64.toUInt64 &&& Int64.toUInt64 63)).toInt64) : Int64).toInt32) M) cS_Row_9 cd_Integer_bitCount dn_Integer_bitCount rfl (by decide) (Nat.le_of_ble_eq_true rfl) (Nat.le_of_ble_eq_true rfl) nr_I (fun r1 M2 => ?_)
  refine j_istore_n (pc := 8) d_Row_addAll_8 rfl (by decide) rfl ?_
  refine j_iconst (pc := 9) d_Row_addAll_9 k_i_0 ?_
  refine j_istore (pc := 10) d_Row_addAll_10 (by decide) rfl ?_
  refine j_lv [2, 3, 1, 0] rfl ?_
  exact X_Row_addAll_L12_ok h_o  n 0 M2
-- Minds.knowers ([JI)I
def mt_Minds_knowers : Mt := ("ShakeHands$Minds", b_Minds_knowers, 4, some .int, 2, SHx)
theorem d_Minds_knowers_0 : decode b_Minds_knowers 0 = .ok (.iconst 0, 1) := by decide +kernel
theorem d_Minds_knowers_1 : decode b_Minds_knowers 1 = .ok (.istore_n 2, 1) := by decide +kernel
theorem d_Minds_knowers_2 : decode b_Minds_knowers 2 = .ok (.iconst 0, 1) := by decide +kernel
theorem d_Minds_knowers_3 : decode b_Minds_knowers 3 = .ok (.istore_n 3, 1) := by decide +kernel
theorem d_Minds_knowers_4 : decode b_Minds_knowers 4 = .ok (.iload_n 3, 1) := by decide +kernel
theorem d_Minds_knowers_5 : decode b_Minds_knowers 5 = .ok (.bipush 6, 2) := by decide +kernel
theorem d_Minds_knowers_7 : decode b_Minds_knowers 7 = .ok (.if_icmp .ge 25, 3) := by decide +kernel
theorem d_Minds_knowers_10 : decode b_Minds_knowers 10 = .ok (.iload_n 2, 1) := by decide +kernel
theorem d_Minds_knowers_11 : decode b_Minds_knowers 11 = .ok (.aload_n 0, 1) := by decide +kernel
theorem d_Minds_knowers_12 : decode b_Minds_knowers 12 = .ok (.iload_n 3, 1) := by decide +kernel
theorem d_Minds_knowers_13 : decode b_Minds_knowers 13 = .ok (.laload, 1) := by decide +kernel
theorem d_Minds_knowers_14 : decode b_Minds_knowers 14 = .ok (.bipush 36, 2) := by decide +kernel
theorem d_Minds_knowers_16 : decode b_Minds_knowers 16 = .ok (.iload_n 1, 1) := by decide +kernel
theorem d_Minds_knowers_17 : decode b_Minds_knowers 17 = .ok (.iadd, 1) := by decide +kernel
theorem d_Minds_knowers_18 : decode b_Minds_knowers 18 = .ok (.lushr, 1) := by decide +kernel
theorem d_Minds_knowers_19 : decode b_Minds_knowers 19 = .ok (.lconst 1, 1) := by decide +kernel
theorem d_Minds_knowers_20 : decode b_Minds_knowers 20 = .ok (.land, 1) := by decide +kernel
theorem d_Minds_knowers_21 : decode b_Minds_knowers 21 = .ok (.l2i, 1) := by decide +kernel
theorem d_Minds_knowers_22 : decode b_Minds_knowers 22 = .ok (.iload_n 3, 1) := by decide +kernel
theorem d_Minds_knowers_23 : decode b_Minds_knowers 23 = .ok (.ishl, 1) := by decide +kernel
theorem d_Minds_knowers_24 : decode b_Minds_knowers 24 = .ok (.ior, 1) := by decide +kernel
theorem d_Minds_knowers_25 : decode b_Minds_knowers 25 = .ok (.istore_n 2, 1) := by decide +kernel
theorem d_Minds_knowers_26 : decode b_Minds_knowers 26 = .ok (.iinc 3 1, 3) := by decide +kernel
theorem d_Minds_knowers_29 : decode b_Minds_knowers 29 = .ok (.goto (-25), 3) := by decide +kernel
theorem d_Minds_knowers_32 : decode b_Minds_knowers 32 = .ok (.iload_n 2, 1) := by decide +kernel
theorem d_Minds_knowers_33 : decode b_Minds_knowers 33 = .ok (.ireturn, 1) := by decide +kernel
def X_Minds_knowers_L4 (n : Nat) (rows : Nat) (a1 : Int32) (M : Mem) : Nat → Int32 → Int32 → Option (Int32 × Mem)
    | 0, _, _ => none
    | m + 1, v2, v3 => (if 6 ≤ v3 then
    some (v2, M)
    else
    gd v3 6 (
      nm (v2 ||| (((((((M.2 rows v3.toNatClampNeg).toUInt64 >>> (((36 : Int32) + a1).toInt64.toUInt64 &&& Int64.toUInt64 63)).toInt64) &&& 1) : Int64).toInt32) <<< (v3 &&& 31))) fun x1 =>
      X_Minds_knowers_L4 n rows a1 M m x1 (v3 + 1)))
def X_Minds_knowers (n : Nat) (rows : Nat) (p1 : Int32) (M : Mem) : Option (Int32 × Mem) :=
  X_Minds_knowers_L4 n rows p1 M n 0 0
set_option maxRecDepth 20000 in
set_option maxHeartbeats 4000000 in
theorem X_Minds_knowers_L4_ok {n : Nat} {rows : Nat} {a1 : Int32} (h_rows : SHx[rows]? = some (103, [6])) {M : Mem} : ∀ (m : Nat) (v2 : Int32) (v3 : Int32), J (mt_Minds_knowers) wI 4 [(0, Value.ref rows), (1, Value.int a1), (2, Value.int v2), (3, Value.int v3)] [] M (X_Minds_knowers_L4 n rows a1 M m v2 v3) := by
  intro m
  induction m with
  | zero => intro _ _; exact j_none
  | succ m ih =>
    intro v2 v3
    show J _ _ _ _ _ _ ((if 6 ≤ v3 then
some (v2, M)
else
gd v3 6 (
nm (v2 ||| (((((((M.2 rows v3.toNatClampNeg).toUInt64 >>> (((36 : Int32) + a1).toInt64.toUInt64 &&& Int64.toUInt64 63)).toInt64) &&& 1) : Int64).toInt32) <<< (v3 &&& 31))) fun x1 =>
X_Minds_knowers_L4 n rows a1 M m x1 (v3 + 1))))
    refine j_iload_n (pc := 4) (q := 3) d_Minds_knowers_4 rfl rfl ?_
    refine j_bipush (pc := 5) d_Minds_knowers_5 k_b_6 ?_
    refine j_icmp_ge (pc := 7) (tgt := 32) d_Minds_knowers_7 (by decide) (fun _ => ?_) (fun _ => ?_)
    · refine j_iload_n (pc := 32) (q := 2) d_Minds_knowers_32 rfl rfl ?_
      exact j_ireturn (pc := 33) d_Minds_knowers_33 rfl
    · refine j_iload_n (pc := 10) (q := 2) d_Minds_knowers_10 rfl rfl ?_
      refine j_aload_n (pc := 11) (q := 0) d_Minds_knowers_11 rfl rfl ?_
      refine j_iload_n (pc := 12) (q := 3) d_Minds_knowers_12 rfl rfl ?_
      refine j_lald (pc := 13) d_Minds_knowers_13 h_rows (fun _ => ?_)
      refine j_bipush (pc := 14) d_Minds_knowers_14 k_b_36 ?_
      refine j_iload_n (pc := 16) (q := 1) d_Minds_knowers_16 rfl rfl ?_
      refine j_iadd (pc := 17) d_Minds_knowers_17 ?_
      refine j_lushr (pc := 18) d_Minds_knowers_18 ?_
      refine j_lconst (pc := 19) d_Minds_knowers_19 k_l_1 ?_
      refine j_land (pc := 20) d_Minds_knowers_20 ?_
      refine j_l2i (pc := 21) d_Minds_knowers_21 ?_
      refine j_iload_n (pc := 22) (q := 3) d_Minds_knowers_22 rfl rfl ?_
      refine j_ishl (pc := 23) d_Minds_knowers_23 ?_
      refine j_ior (pc := 24) d_Minds_knowers_24 ?_
      refine j_nmi (fun x1 => ?_)
      refine j_istore_n (pc := 25) d_Minds_knowers_25 rfl (by decide) rfl ?_
      refine j_iinc (pc := 26) (q := 3) d_Minds_knowers_26 rfl (congrArg (v3 + ·) k_i_1) (by decide) rfl ?_
      refine j_goto (pc := 29) (tgt := 4) d_Minds_knowers_29 (by decide) ?_
      refine j_lv [2, 3, 1, 0] rfl ?_
      exact ih x1 (v3 + 1)
set_option maxRecDepth 20000 in
set_option maxHeartbeats 4000000 in
theorem C_Minds_knowers (n : Nat) (rows : Nat) (h_rows : SHx[rows]? = some (103, [6])) (p1 : Int32) (M : Mem) : Ct y_Minds_knowers mt_Minds_knowers wI [Value.ref rows, Value.int p1] M (X_Minds_knowers n rows p1 M) := by
  refine ct_of (by decide +kernel) rfl (Nat.le_of_ble_eq_true rfl) ?_
  show J _ _ _ [(0, Value.ref rows), (1, Value.int p1)] _ _ _
  unfold X_Minds_knowers
  refine j_iconst (pc := 0) d_Minds_knowers_0 k_i_0 ?_
  refine j_istore_n (pc := 1) d_Minds_knowers_1 rfl (by decide) rfl ?_
  refine j_iconst (pc := 2) d_Minds_knowers_2 k_i_0 ?_
  refine j_istore_n (pc := 3) d_Minds_knowers_3 rfl (by decide) rfl ?_
  refine j_lv [2, 3, 1, 0] rfl ?_
  exact X_Minds_knowers_L4_ok h_rows  n 0 0
-- Minds.known ([J)I
def mt_Minds_known : Mt := ("ShakeHands$Minds", b_Minds_known, 4, some .int, 2, SHx)
theorem d_Minds_known_0 : decode b_Minds_known 0 = .ok (.lconst 0, 1) := by decide +kernel
theorem d_Minds_known_1 : decode b_Minds_known 1 = .ok (.lstore_n 1, 1) := by decide +kernel
theorem d_Minds_known_2 : decode b_Minds_known 2 = .ok (.iconst 0, 1) := by decide +kernel
theorem d_Minds_known_3 : decode b_Minds_known 3 = .ok (.istore_n 3, 1) := by decide +kernel
theorem d_Minds_known_4 : decode b_Minds_known 4 = .ok (.iload_n 3, 1) := by decide +kernel
theorem d_Minds_known_5 : decode b_Minds_known 5 = .ok (.bipush 6, 2) := by decide +kernel
theorem d_Minds_known_7 : decode b_Minds_known 7 = .ok (.if_icmp .ge 15, 3) := by decide +kernel
theorem d_Minds_known_10 : decode b_Minds_known 10 = .ok (.lload_n 1, 1) := by decide +kernel
theorem d_Minds_known_11 : decode b_Minds_known 11 = .ok (.aload_n 0, 1) := by decide +kernel
theorem d_Minds_known_12 : decode b_Minds_known 12 = .ok (.iload_n 3, 1) := by decide +kernel
theorem d_Minds_known_13 : decode b_Minds_known 13 = .ok (.laload, 1) := by decide +kernel
theorem d_Minds_known_14 : decode b_Minds_known 14 = .ok (.lor, 1) := by decide +kernel
theorem d_Minds_known_15 : decode b_Minds_known 15 = .ok (.lstore_n 1, 1) := by decide +kernel
theorem d_Minds_known_16 : decode b_Minds_known 16 = .ok (.iinc 3 1, 3) := by decide +kernel
theorem d_Minds_known_19 : decode b_Minds_known 19 = .ok (.goto (-15), 3) := by decide +kernel
theorem d_Minds_known_22 : decode b_Minds_known 22 = .ok (.lload_n 1, 1) := by decide +kernel
theorem d_Minds_known_23 : decode b_Minds_known 23 = .ok (.bipush 36, 2) := by decide +kernel
theorem d_Minds_known_25 : decode b_Minds_known 25 = .ok (.lushr, 1) := by decide +kernel
theorem d_Minds_known_26 : decode b_Minds_known 26 = .ok (.l2i, 1) := by decide +kernel
theorem d_Minds_known_27 : decode b_Minds_known 27 = .ok (.ireturn, 1) := by decide +kernel
def X_Minds_known_L4 (n : Nat) (rows : Nat) (M : Mem) : Nat → Int64 → Int32 → Option (Int32 × Mem)
    | 0, _, _ => none
    | m + 1, v1, v3 => (if 6 ≤ v3 then
    some (((((v1.toUInt64 >>> ((36 : Int32).toInt64.toUInt64 &&& Int64.toUInt64 63)).toInt64) : Int64).toInt32), M)
    else
    gd v3 6 (
      nm (v1 ||| (M.2 rows v3.toNatClampNeg)) fun x1 =>
      X_Minds_known_L4 n rows M m x1 (v3 + 1)))
def X_Minds_known (n : Nat) (rows : Nat) (M : Mem) : Option (Int32 × Mem) :=
  X_Minds_known_L4 n rows M n 0 0
set_option maxRecDepth 20000 in
set_option maxHeartbeats 4000000 in
theorem X_Minds_known_L4_ok {n : Nat} {rows : Nat} (h_rows : SHx[rows]? = some (103, [6])) {M : Mem} : ∀ (m : Nat) (v1 : Int64) (v3 : Int32), J (mt_Minds_known) wI 4 [(0, Value.ref rows), (1, Value.long v1), (3, Value.int v3)] [] M (X_Minds_known_L4 n rows M m v1 v3) := by
  intro m
  induction m with
  | zero => intro _ _; exact j_none
  | succ m ih =>
    intro v1 v3
    show J _ _ _ _ _ _ ((if 6 ≤ v3 then
some (((((v1.toUInt64 >>> ((36 : Int32).toInt64.toUInt64 &&& Int64.toUInt64 63)).toInt64) : Int64).toInt32), M)
else
gd v3 6 (
nm (v1 ||| (M.2 rows v3.toNatClampNeg)) fun x1 =>
X_Minds_known_L4 n rows M m x1 (v3 + 1))))
    refine j_iload_n (pc := 4) (q := 2) d_Minds_known_4 rfl rfl ?_
    refine j_bipush (pc := 5) d_Minds_known_5 k_b_6 ?_
    refine j_icmp_ge (pc := 7) (tgt := 22) d_Minds_known_7 (by decide) (fun _ => ?_) (fun _ => ?_)
    · refine j_lload_n (pc := 22) (q := 1) d_Minds_known_22 rfl rfl ?_
      refine j_bipush (pc := 23) d_Minds_known_23 k_b_36 ?_
      refine j_lushr (pc := 25) d_Minds_known_25 ?_
      refine j_l2i (pc := 26) d_Minds_known_26 ?_
      exact j_ireturn (pc := 27) d_Minds_known_27 rfl
    · refine j_lload_n (pc := 10) (q := 1) d_Minds_known_10 rfl rfl ?_
      refine j_aload_n (pc := 11) (q := 0) d_Minds_known_11 rfl rfl ?_
      refine j_iload_n (pc := 12) (q := 2) d_Minds_known_12 rfl rfl ?_
      refine j_lald (pc := 13) d_Minds_known_13 h_rows (fun _ => ?_)
      refine j_lor (pc := 14) d_Minds_known_14 ?_
      refine j_nml (fun x1 => ?_)
      refine j_lstore_n (pc := 15) d_Minds_known_15 rfl (by decide) rfl ?_
      refine j_iinc (pc := 16) (q := 2) d_Minds_known_16 rfl (congrArg (v3 + ·) k_i_1) (by decide) rfl ?_
      refine j_goto (pc := 19) (tgt := 4) d_Minds_known_19 (by decide) ?_
      refine j_lv [2, 1, 0] rfl ?_
      exact ih x1 (v3 + 1)
set_option maxRecDepth 20000 in
set_option maxHeartbeats 4000000 in
theorem C_Minds_known (n : Nat) (rows : Nat) (h_rows : SHx[rows]? = some (103, [6]))  (M : Mem) : Ct y_Minds_known mt_Minds_known wI [Value.ref rows] M (X_Minds_known n rows M) := by
  refine ct_of (by decide +kernel) rfl (Nat.le_of_ble_eq_true rfl) ?_
  show J _ _ _ [(0, Value.ref rows)] _ _ _
  unfold X_Minds_known
  refine j_lconst (pc := 0) d_Minds_known_0 k_l_0 ?_
  refine j_lstore_n (pc := 1) d_Minds_known_1 rfl (by decide) rfl ?_
  refine j_iconst (pc := 2) d_Minds_known_2 k_i_0 ?_
  refine j_istore_n (pc := 3) d_Minds_known_3 rfl (by decide) rfl ?_
  refine j_lv [2, 1, 0] rfl ?_
  exact X_Minds_known_L4_ok h_rows  n 0 0
-- Minds.copy (LShakeHands$Minds;)V
def mt_Minds_copy : Mt := ("ShakeHands$Minds", b_Minds_copy, 2, none, 2, SHx)
theorem d_Minds_copy_0 : decode b_Minds_copy 0 = .ok (.aload_n 1, 1) := by decide +kernel
theorem d_Minds_copy_1 : decode b_Minds_copy 1 = .ok (.getfield 9, 3) := by decide +kernel
theorem d_Minds_copy_4 : decode b_Minds_copy 4 = .ok (.iconst 0, 1) := by decide +kernel
theorem d_Minds_copy_5 : decode b_Minds_copy 5 = .ok (.aload_n 0, 1) := by decide +kernel
theorem d_Minds_copy_6 : decode b_Minds_copy 6 = .ok (.getfield 9, 3) := by decide +kernel
theorem d_Minds_copy_9 : decode b_Minds_copy 9 = .ok (.iconst 0, 1) := by decide +kernel
theorem d_Minds_copy_10 : decode b_Minds_copy 10 = .ok (.bipush 6, 2) := by decide +kernel
theorem d_Minds_copy_12 : decode b_Minds_copy 12 = .ok (.invokestatic 19, 3) := by decide +kernel
theorem d_Minds_copy_15 : decode b_Minds_copy 15 = .ok (.aload_n 0, 1) := by decide +kernel
theorem d_Minds_copy_16 : decode b_Minds_copy 16 = .ok (.aload_n 1, 1) := by decide +kernel
theorem d_Minds_copy_17 : decode b_Minds_copy 17 = .ok (.getfield 25, 3) := by decide +kernel
theorem d_Minds_copy_20 : decode b_Minds_copy 20 = .ok (.putfield 25, 3) := by decide +kernel
theorem d_Minds_copy_23 : decode b_Minds_copy 23 = .ok (.aload_n 0, 1) := by decide +kernel
theorem d_Minds_copy_24 : decode b_Minds_copy 24 = .ok (.aload_n 1, 1) := by decide +kernel
theorem d_Minds_copy_25 : decode b_Minds_copy 25 = .ok (.getfield 29, 3) := by decide +kernel
theorem d_Minds_copy_28 : decode b_Minds_copy 28 = .ok (.putfield 29, 3) := by decide +kernel
theorem d_Minds_copy_31 : decode b_Minds_copy 31 = .ok (.aload_n 1, 1) := by decide +kernel
theorem d_Minds_copy_32 : decode b_Minds_copy 32 = .ok (.getfield 15, 3) := by decide +kernel
theorem d_Minds_copy_35 : decode b_Minds_copy 35 = .ok (.iconst 0, 1) := by decide +kernel
theorem d_Minds_copy_36 : decode b_Minds_copy 36 = .ok (.aload_n 0, 1) := by decide +kernel
theorem d_Minds_copy_37 : decode b_Minds_copy 37 = .ok (.getfield 15, 3) := by decide +kernel
theorem d_Minds_copy_40 : decode b_Minds_copy 40 = .ok (.iconst 0, 1) := by decide +kernel
theorem d_Minds_copy_41 : decode b_Minds_copy 41 = .ok (.bipush 6, 2) := by decide +kernel
theorem d_Minds_copy_43 : decode b_Minds_copy 43 = .ok (.invokestatic 19, 3) := by decide +kernel
theorem d_Minds_copy_46 : decode b_Minds_copy 46 = .ok (.return_, 1) := by decide +kernel
def X_Minds_copy (n : Nat) (o : Nat) (q : Nat) (M : Mem) : Option (Unit × Mem) :=
  gc (0 : Int32) (0 : Int32) (6 : Int32) 6 6 (
    nm (cpL M (q + 1) ((0 : Int32).toNatClampNeg) (o + 1) ((0 : Int32).toNatClampNeg) ((6 : Int32).toNatClampNeg)) fun N1 =>
    nm (si N1 o 1 (N1.1 q 1)) fun N2 =>
    nm (si N2 o 2 (N2.1 q 2)) fun N3 =>
    gc (0 : Int32) (0 : Int32) (6 : Int32) 6 6 (
      some ((), cpI N3 (q + 2) ((0 : Int32).toNatClampNeg) (o + 2) ((0 : Int32).toNatClampNeg) ((6 : Int32).toNatClampNeg))))
set_option maxRecDepth 20000 in
set_option maxHeartbeats 4000000 in
theorem C_Minds_copy (n : Nat) (o : Nat) (q : Nat) (h_o : SHx[o]? = some (2, [o + 1 + 2, 0, 0, o + 2 + 2])) (h_o1 : SHx[o + 1]? = some (103, [6])) (h_o2 : SHx[o + 2]? = some (100, [6])) (h_q : SHx[q]? = some (2, [q + 1 + 2, 0, 0, q + 2 + 2])) (h_q1 : SHx[q + 1]? = some (103, [6])) (h_q2 : SHx[q + 2]? = some (100, [6]))  (M : Mem) : Ct y_Minds_copy mt_Minds_copy wU [Value.ref o, Value.ref q] M (X_Minds_copy n o q M) := by
  refine ct_of (by decide +kernel) rfl (Nat.le_of_ble_eq_true rfl) ?_
  show J _ _ _ [(0, Value.ref o), (1, Value.ref q)] _ _ _
  unfold X_Minds_copy
  refine j_aload_n (pc := 0) (q := 1) d_Minds_copy_0 rfl rfl ?_
  refine j_getA (pc := 1) d_Minds_copy_1 fl_Minds_9 h_q (by decide) rfl ?_
  refine j_iconst (pc := 4) d_Minds_copy_4 k_i_0 ?_
  refine j_aload_n (pc := 5) (q := 0) d_Minds_copy_5 rfl rfl ?_
  refine j_getA (pc := 6) d_Minds_copy_6 fl_Minds_9 h_o (by decide) rfl ?_
  refine j_iconst (pc := 9) d_Minds_copy_9 k_i_0 ?_
  refine j_bipush (pc := 10) d_Minds_copy_10 k_b_6 ?_
  refine j_copyL (pc := 12) d_Minds_copy_12 cw_Minds_19 cw_nat cw_st h_q1 h_o1 (by decide) (Nat.le_of_ble_eq_true rfl) ?_
  refine j_aload_n (pc := 15) (q := 0) d_Minds_copy_15 rfl rfl ?_
  refine j_aload_n (pc := 16) (q := 1) d_Minds_copy_16 rfl rfl ?_
  refine j_nmM (fun N1 => ?_)
  refine j_getI (pc := 17) d_Minds_copy_17 fl_Minds_25 h_q (by decide) rfl ?_
  refine j_putI (pc := 20) d_Minds_copy_20 fl_Minds_25 rfl h_o (by decide) rfl ?_
  refine j_aload_n (pc := 23) (q := 0) d_Minds_copy_23 rfl rfl ?_
  refine j_aload_n (pc := 24) (q := 1) d_Minds_copy_24 rfl rfl ?_
  refine j_nmM (fun N2 => ?_)
  refine j_getI (pc := 25) d_Minds_copy_25 fl_Minds_29 h_q (by decide) rfl ?_
  refine j_putI (pc := 28) d_Minds_copy_28 fl_Minds_29 rfl h_o (by decide) rfl ?_
  refine j_aload_n (pc := 31) (q := 1) d_Minds_copy_31 rfl rfl ?_
  refine j_getA (pc := 32) d_Minds_copy_32 fl_Minds_15 h_q (by decide) rfl ?_
  refine j_iconst (pc := 35) d_Minds_copy_35 k_i_0 ?_
  refine j_aload_n (pc := 36) (q := 0) d_Minds_copy_36 rfl rfl ?_
  refine j_getA (pc := 37) d_Minds_copy_37 fl_Minds_15 h_o (by decide) rfl ?_
  refine j_iconst (pc := 40) d_Minds_copy_40 k_i_0 ?_
  refine j_bipush (pc := 41) d_Minds_copy_41 k_b_6 ?_
  refine j_nmM (fun N3 => ?_)
  refine j_copyI (pc := 43) d_Minds_copy_43 cw_Minds_19 cw_nat cw_st h_q2 h_o2 (by decide) (Nat.le_of_ble_eq_true rfl) ?_
  exact j_return (pc := 46) d_Minds_copy_46 rfl
-- Sheet.renew (II)V
def mt_Sheet_renew : Mt := ("ShakeHands$Sheet", b_Sheet_renew, 4, none, 2, SHx)
theorem d_Sheet_renew_0 : decode b_Sheet_renew 0 = .ok (.aload_n 0, 1) := by decide +kernel
theorem d_Sheet_renew_1 : decode b_Sheet_renew 1 = .ok (.iconst 1, 1) := by decide +kernel
theorem d_Sheet_renew_2 : decode b_Sheet_renew 2 = .ok (.putfield 13, 3) := by decide +kernel
theorem d_Sheet_renew_5 : decode b_Sheet_renew 5 = .ok (.aload_n 0, 1) := by decide +kernel
theorem d_Sheet_renew_6 : decode b_Sheet_renew 6 = .ok (.iload_n 1, 1) := by decide +kernel
theorem d_Sheet_renew_7 : decode b_Sheet_renew 7 = .ok (.putfield 17, 3) := by decide +kernel
theorem d_Sheet_renew_10 : decode b_Sheet_renew 10 = .ok (.aload_n 0, 1) := by decide +kernel
theorem d_Sheet_renew_11 : decode b_Sheet_renew 11 = .ok (.iload_n 2, 1) := by decide +kernel
theorem d_Sheet_renew_12 : decode b_Sheet_renew 12 = .ok (.putfield 21, 3) := by decide +kernel
theorem d_Sheet_renew_15 : decode b_Sheet_renew 15 = .ok (.iconst 0, 1) := by decide +kernel
theorem d_Sheet_renew_16 : decode b_Sheet_renew 16 = .ok (.istore_n 3, 1) := by decide +kernel
theorem d_Sheet_renew_17 : decode b_Sheet_renew 17 = .ok (.iload_n 3, 1) := by decide +kernel
theorem d_Sheet_renew_18 : decode b_Sheet_renew 18 = .ok (.bipush 40, 2) := by decide +kernel
theorem d_Sheet_renew_20 : decode b_Sheet_renew 20 = .ok (.if_icmp .ge 16, 3) := by decide +kernel
theorem d_Sheet_renew_23 : decode b_Sheet_renew 23 = .ok (.aload_n 0, 1) := by decide +kernel
theorem d_Sheet_renew_24 : decode b_Sheet_renew 24 = .ok (.getfield 9, 3) := by decide +kernel
theorem d_Sheet_renew_27 : decode b_Sheet_renew 27 = .ok (.iload_n 3, 1) := by decide +kernel
theorem d_Sheet_renew_28 : decode b_Sheet_renew 28 = .ok (.iconst 0, 1) := by decide +kernel
theorem d_Sheet_renew_29 : decode b_Sheet_renew 29 = .ok (.iastore, 1) := by decide +kernel
theorem d_Sheet_renew_30 : decode b_Sheet_renew 30 = .ok (.iinc 3 1, 3) := by decide +kernel
theorem d_Sheet_renew_33 : decode b_Sheet_renew 33 = .ok (.goto (-16), 3) := by decide +kernel
theorem d_Sheet_renew_36 : decode b_Sheet_renew 36 = .ok (.return_, 1) := by decide +kernel
def X_Sheet_renew_L17 (n : Nat) (o : Nat) : Nat → Int32 → Mem → Option (Unit × Mem)
    | 0, _, _ => none
    | m + 1, v3, M => (if 40 ≤ v3 then
    some ((), M)
    else
    gd v3 40 (
      X_Sheet_renew_L17 n o m (v3 + 1) (si M (o + 1) (v3.toNatClampNeg) 0)))
def X_Sheet_renew (n : Nat) (o : Nat) (p1 : Int32) (p2 : Int32) (M : Mem) : Option (Unit × Mem) :=
  X_Sheet_renew_L17 n o n 0 (si (si (si M o 0 1) o 2 p1) o 1 p2)
set_option maxRecDepth 20000 in
set_option maxHeartbeats 4000000 in
theorem X_Sheet_renew_L17_ok {n : Nat} {o : Nat} (h_o : SHx[o]? = some (5, [0, 0, 0, o + 1 + 2])) (h_o1 : SHx[o + 1]? = some (100, [40])) : ∀ (m : Nat) (v3 : Int32) (M : Mem), J (mt_Sheet_renew) wU 17 [(0, Value.ref o), (3, Value.int v3)] [] M (X_Sheet_renew_L17 n o m v3 M) := by
  intro m
  induction m with
  | zero => intro _ _; exact j_none
  | succ m ih =>
    intro v3 M
    show J _ _ _ _ _ _ ((if 40 ≤ v3 then
some ((), M)
else
gd v3 40 (
X_Sheet_renew_L17 n o m (v3 + 1) (si M (o + 1) (v3.toNatClampNeg) 0))))
    refine j_iload_n (pc := 17) (q := 1) d_Sheet_renew_17 rfl rfl ?_
    refine j_bipush (pc := 18) d_Sheet_renew_18 k_b_40 ?_
    refine j_icmp_ge (pc := 20) (tgt := 36) d_Sheet_renew_20 (by decide) (fun _ => ?_) (fun _ => ?_)
    · exact j_return (pc := 36) d_Sheet_renew_36 rfl
    · refine j_aload_n (pc := 23) (q := 0) d_Sheet_renew_23 rfl rfl ?_
      refine j_getA (pc := 24) d_Sheet_renew_24 fl_Sheet_9 h_o (by decide) rfl ?_
      refine j_iload_n (pc := 27) (q := 1) d_Sheet_renew_27 rfl rfl ?_
      refine j_iconst (pc := 28) d_Sheet_renew_28 k_i_0 ?_
      refine j_iast (pc := 29) d_Sheet_renew_29 h_o1 (fun _ => ?_)
      refine j_iinc (pc := 30) (q := 1) d_Sheet_renew_30 rfl (congrArg (v3 + ·) k_i_1) (by decide) rfl ?_
      refine j_goto (pc := 33) (tgt := 17) d_Sheet_renew_33 (by decide) ?_
      refine j_lv [1, 0] rfl ?_
      exact ih (v3 + 1) (si M (o + 1) (v3.toNatClampNeg) 0)
set_option maxRecDepth 20000 in
set_option maxHeartbeats 4000000 in
theorem C_Sheet_renew (n : Nat) (o : Nat) (h_o : SHx[o]? = some (5, [0, 0, 0, o + 1 + 2])) (h_o1 : SHx[o + 1]? = some (100, [40])) (p1 : Int32) (p2 : Int32) (M : Mem) : Ct y_Sheet_renew mt_Sheet_renew wU [Value.ref o, Value.int p1, Value.int p2] M (X_Sheet_renew n o p1 p2 M) := by
  refine ct_of (by decide +kernel) rfl (Nat.le_of_ble_eq_true rfl) ?_
  show J _ _ _ [(0, Value.ref o), (1, Value.int p1), (2, Value.int p2)] _ _ _
  unfold X_Sheet_renew
  refine j_aload_n (pc := 0) (q := 0) d_Sheet_renew_0 rfl rfl ?_
  refine j_iconst (pc := 1) d_Sheet_renew_1 k_i_1 ?_
  refine j_putZ (pc := 2) d_Sheet_renew_2 fl_Sheet_13 rfl rfl h_o (by decide) rfl ?_
  refine j_aload_n (pc := 5) (q := 0) d_Sheet_renew_5 rfl rfl ?_
  refine j_iload_n (pc := 6) (q := 1) d_Sheet_renew_6 rfl rfl ?_
  refine j_putI (pc := 7) d_Sheet_renew_7 fl_Sheet_17 rfl h_o (by decide) rfl ?_
  refine j_aload_n (pc := 10) (q := 0) d_Sheet_renew_10 rfl rfl ?_
  refine j_iload_n (pc := 11) (q := 2) d_Sheet_renew_11 rfl rfl ?_
  refine j_putI (pc := 12) d_Sheet_renew_12 fl_Sheet_21 rfl h_o (by decide) rfl ?_
  refine j_iconst (pc := 15) d_Sheet_renew_15 k_i_0 ?_
  refine j_istore_n (pc := 16) d_Sheet_renew_16 rfl (by decide) rfl ?_
  refine j_lv [1, 0] rfl ?_
  exact X_Sheet_renew_L17_ok h_o h_o1  n 0 (si (si (si M o 0 1) o 2 p1) o 1 p2)
-- Sheet.faultAt (I)I
def mt_Sheet_faultAt : Mt := ("ShakeHands$Sheet", b_Sheet_faultAt, 2, some .int, 2, SHx)
theorem d_Sheet_faultAt_0 : decode b_Sheet_faultAt 0 = .ok (.aload_n 0, 1) := by decide +kernel
theorem d_Sheet_faultAt_1 : decode b_Sheet_faultAt 1 = .ok (.getfield 13, 3) := by decide +kernel
theorem d_Sheet_faultAt_4 : decode b_Sheet_faultAt 4 = .ok (.ifCond .ne 5, 3) := by decide +kernel
theorem d_Sheet_faultAt_7 : decode b_Sheet_faultAt 7 = .ok (.iconst 1, 1) := by decide +kernel
theorem d_Sheet_faultAt_8 : decode b_Sheet_faultAt 8 = .ok (.ireturn, 1) := by decide +kernel
theorem d_Sheet_faultAt_9 : decode b_Sheet_faultAt 9 = .ok (.iload_n 1, 1) := by decide +kernel
theorem d_Sheet_faultAt_10 : decode b_Sheet_faultAt 10 = .ok (.ifCond .lt 11, 3) := by decide +kernel
theorem d_Sheet_faultAt_13 : decode b_Sheet_faultAt 13 = .ok (.iload_n 1, 1) := by decide +kernel
theorem d_Sheet_faultAt_14 : decode b_Sheet_faultAt 14 = .ok (.aload_n 0, 1) := by decide +kernel
theorem d_Sheet_faultAt_15 : decode b_Sheet_faultAt 15 = .ok (.getfield 21, 3) := by decide +kernel
theorem d_Sheet_faultAt_18 : decode b_Sheet_faultAt 18 = .ok (.if_icmp .lt 7, 3) := by decide +kernel
theorem d_Sheet_faultAt_21 : decode b_Sheet_faultAt 21 = .ok (.iconst 2, 1) := by decide +kernel
theorem d_Sheet_faultAt_22 : decode b_Sheet_faultAt 22 = .ok (.goto 4, 3) := by decide +kernel
theorem d_Sheet_faultAt_25 : decode b_Sheet_faultAt 25 = .ok (.iconst 0, 1) := by decide +kernel
theorem d_Sheet_faultAt_26 : decode b_Sheet_faultAt 26 = .ok (.ireturn, 1) := by decide +kernel
def X_Sheet_faultAt (n : Nat) (o : Nat) (p1 : Int32) (M : Mem) : Option (Int32 × Mem) :=
  (if (M.1 o 0) = 0 then
    some (1, M)
    else
    (if p1 < 0 then
      some (2, M)
      else
      (if p1 < (M.1 o 1) then
        some (0, M)
        else
        some (2, M))))
set_option maxRecDepth 20000 in
set_option maxHeartbeats 4000000 in
theorem C_Sheet_faultAt (n : Nat) (o : Nat) (h_o : SHx[o]? = some (5, [0, 0, 0, o + 1 + 2])) (h_o1 : SHx[o + 1]? = some (100, [40])) (p1 : Int32) (M : Mem) : Ct y_Sheet_faultAt mt_Sheet_faultAt wI [Value.ref o, Value.int p1] M (X_Sheet_faultAt n o p1 M) := by
  refine ct_of (by decide +kernel) rfl (Nat.le_of_ble_eq_true rfl) ?_
  show J _ _ _ [(0, Value.ref o), (1, Value.int p1)] _ _ _
  unfold X_Sheet_faultAt
  refine j_aload_n (pc := 0) (q := 0) d_Sheet_faultAt_0 rfl rfl ?_
  refine j_getI (pc := 1) d_Sheet_faultAt_1 fl_Sheet_13 h_o (by decide) rfl ?_
  refine j_if_ne (pc := 4) (tgt := 9) d_Sheet_faultAt_4 (by decide) (fun _ => ?_) (fun _ => ?_)
  · refine j_iload_n (pc := 9) (q := 1) d_Sheet_faultAt_9 rfl rfl ?_
    refine j_if_lt (pc := 10) (tgt := 21) d_Sheet_faultAt_10 (by decide) (fun _ => ?_) (fun _ => ?_)
    · refine j_iconst (pc := 21) d_Sheet_faultAt_21 k_i_2 ?_
      refine j_goto (pc := 22) (tgt := 26) d_Sheet_faultAt_22 (by decide) ?_
      exact j_ireturn (pc := 26) d_Sheet_faultAt_26 rfl
    · refine j_iload_n (pc := 13) (q := 1) d_Sheet_faultAt_13 rfl rfl ?_
      refine j_aload_n (pc := 14) (q := 0) d_Sheet_faultAt_14 rfl rfl ?_
      refine j_getI (pc := 15) d_Sheet_faultAt_15 fl_Sheet_21 h_o (by decide) rfl ?_
      refine j_icmp_lt (pc := 18) (tgt := 25) d_Sheet_faultAt_18 (by decide) (fun _ => ?_) (fun _ => ?_)
      · refine j_iconst (pc := 25) d_Sheet_faultAt_25 k_i_0 ?_
        exact j_ireturn (pc := 26) d_Sheet_faultAt_26 rfl
      · refine j_iconst (pc := 21) d_Sheet_faultAt_21 k_i_2 ?_
        refine j_goto (pc := 22) (tgt := 26) d_Sheet_faultAt_22 (by decide) ?_
        exact j_ireturn (pc := 26) d_Sheet_faultAt_26 rfl
  · refine j_iconst (pc := 7) d_Sheet_faultAt_7 k_i_1 ?_
    exact j_ireturn (pc := 8) d_Sheet_faultAt_8 rfl
-- Sheet.put (II)V
def mt_Sheet_put : Mt := ("ShakeHands$Sheet", b_Sheet_put, 3, none, 3, SHx)
theorem d_Sheet_put_0 : decode b_Sheet_put 0 = .ok (.aload_n 0, 1) := by decide +kernel
theorem d_Sheet_put_1 : decode b_Sheet_put 1 = .ok (.iload_n 1, 1) := by decide +kernel
theorem d_Sheet_put_2 : decode b_Sheet_put 2 = .ok (.invokevirtual 24, 3) := by decide +kernel
theorem d_Sheet_put_5 : decode b_Sheet_put 5 = .ok (.ifCond .ne 35, 3) := by decide +kernel
theorem d_Sheet_put_8 : decode b_Sheet_put 8 = .ok (.aload_n 0, 1) := by decide +kernel
theorem d_Sheet_put_9 : decode b_Sheet_put 9 = .ok (.getfield 9, 3) := by decide +kernel
theorem d_Sheet_put_12 : decode b_Sheet_put 12 = .ok (.iload_n 1, 1) := by decide +kernel
theorem d_Sheet_put_13 : decode b_Sheet_put 13 = .ok (.aload_n 0, 1) := by decide +kernel
theorem d_Sheet_put_14 : decode b_Sheet_put 14 = .ok (.getfield 17, 3) := by decide +kernel
theorem d_Sheet_put_17 : decode b_Sheet_put 17 = .ok (.ifCond .ne 8, 3) := by decide +kernel
theorem d_Sheet_put_20 : decode b_Sheet_put 20 = .ok (.iload_n 2, 1) := by decide +kernel
theorem d_Sheet_put_21 : decode b_Sheet_put 21 = .ok (.i2b, 1) := by decide +kernel
theorem d_Sheet_put_22 : decode b_Sheet_put 22 = .ok (.goto 17, 3) := by decide +kernel
theorem d_Sheet_put_25 : decode b_Sheet_put 25 = .ok (.aload_n 0, 1) := by decide +kernel
theorem d_Sheet_put_26 : decode b_Sheet_put 26 = .ok (.getfield 17, 3) := by decide +kernel
theorem d_Sheet_put_29 : decode b_Sheet_put 29 = .ok (.iconst 1, 1) := by decide +kernel
theorem d_Sheet_put_30 : decode b_Sheet_put 30 = .ok (.if_icmp .ne 8, 3) := by decide +kernel
theorem d_Sheet_put_33 : decode b_Sheet_put 33 = .ok (.iload_n 2, 1) := by decide +kernel
theorem d_Sheet_put_34 : decode b_Sheet_put 34 = .ok (.i2s, 1) := by decide +kernel
theorem d_Sheet_put_35 : decode b_Sheet_put 35 = .ok (.goto 4, 3) := by decide +kernel
theorem d_Sheet_put_38 : decode b_Sheet_put 38 = .ok (.iload_n 2, 1) := by decide +kernel
theorem d_Sheet_put_39 : decode b_Sheet_put 39 = .ok (.iastore, 1) := by decide +kernel
theorem d_Sheet_put_40 : decode b_Sheet_put 40 = .ok (.return_, 1) := by decide +kernel
def X_Sheet_put (n : Nat) (o : Nat) (p1 : Int32) (p2 : Int32) (M : Mem) : Option (Unit × Mem) :=
  bd (X_Sheet_faultAt n o p1 M) fun r1 M2 =>
  (if r1 = 0 then
    nm (fun (u3 : Int32) => (gd p1 40 (
          some ((), si M2 (o + 1) (p1.toNatClampNeg) u3)) : Option (Unit × Mem))) fun k39 =>
    (if (M2.1 o 2) = 0 then
      k39 (p2.toInt8.toInt32)
      else
      (if (M2.1 o 2) = 1 then
        k39 (p2.toInt16.toInt32)
        else
        k39 p2))
    else
    some ((), M2))
set_option maxRecDepth 20000 in
set_option maxHeartbeats 4000000 in
theorem C_Sheet_put (n : Nat) (o : Nat) (h_o : SHx[o]? = some (5, [0, 0, 0, o + 1 + 2])) (h_o1 : SHx[o + 1]? = some (100, [40])) (p1 : Int32) (p2 : Int32) (M : Mem) : Ct y_Sheet_put mt_Sheet_put wU [Value.ref o, Value.int p1, Value.int p2] M (X_Sheet_put n o p1 p2 M) := by
  refine ct_of (by decide +kernel) rfl (Nat.le_of_ble_eq_true rfl) ?_
  show J _ _ _ [(0, Value.ref o), (1, Value.int p1), (2, Value.int p2)] _ _ _
  unfold X_Sheet_put
  refine j_aload_n (pc := 0) (q := 0) d_Sheet_put_0 rfl rfl ?_
  refine j_iload_n (pc := 1) (q := 1) d_Sheet_put_1 rfl rfl ?_
  refine j_callV1 (pc := 2) d_Sheet_put_2 (C_Sheet_faultAt n o h_o h_o1 p1 M) cV_Sheet_24 cd_Sheet_faultAt dn_Sheet_faultAt rfl (by decide) (Nat.le_of_ble_eq_true rfl) (Nat.le_of_ble_eq_true rfl) nr_I h_o (by decide) rfl (fun r1 M2 => ?_)
  refine j_if_ne (pc := 5) (tgt := 40) d_Sheet_put_5 (by decide) (fun _ => ?_) (fun _ => ?_)
  · exact j_return (pc := 40) d_Sheet_put_40 rfl
  · refine j_aload_n (pc := 8) (q := 0) d_Sheet_put_8 rfl rfl ?_
    refine j_getA (pc := 9) d_Sheet_put_9 fl_Sheet_9 h_o (by decide) rfl ?_
    refine j_iload_n (pc := 12) (q := 1) d_Sheet_put_12 rfl rfl ?_
    refine j_aload_n (pc := 13) (q := 0) d_Sheet_put_13 rfl rfl ?_
    refine j_getI (pc := 14) d_Sheet_put_14 fl_Sheet_17 h_o (by decide) rfl ?_
    refine j_nmk (fun k => ∀ (u3 : Int32), J (mt_Sheet_put) wU 39 [] [Value.int u3, Value.int p1, Value.ref (o + 1)] M2 (k u3)) (fun u3 => ?_) (fun k39 hk39 => ?_)
    · refine j_iast (pc := 39) d_Sheet_put_39 h_o1 (fun _ => ?_)
      exact j_return (pc := 40) d_Sheet_put_40 rfl
    · refine j_if_ne (pc := 17) (tgt := 25) d_Sheet_put_17 (by decide) (fun _ => ?_) (fun _ => ?_)
      · refine j_aload_n (pc := 25) (q := 0) d_Sheet_put_25 rfl rfl ?_
        refine j_getI (pc := 26) d_Sheet_put_26 fl_Sheet_17 h_o (by decide) rfl ?_
        refine j_iconst (pc := 29) d_Sheet_put_29 k_i_1 ?_
        refine j_icmp_ne (pc := 30) (tgt := 38) d_Sheet_put_30 (by decide) (fun _ => ?_) (fun _ => ?_)
        · refine j_iload_n (pc := 38) (q := 2) d_Sheet_put_38 rfl rfl ?_
          refine j_lv [] rfl ?_
          exact hk39 p2
        · refine j_iload_n (pc := 33) (q := 2) d_Sheet_put_33 rfl rfl ?_
          refine j_i2s (pc := 34) d_Sheet_put_34 ?_
          refine j_goto (pc := 35) (tgt := 39) d_Sheet_put_35 (by decide) ?_
          refine j_lv [] rfl ?_
          exact hk39 (p2.toInt16.toInt32)
      · refine j_iload_n (pc := 20) (q := 2) d_Sheet_put_20 rfl rfl ?_
        refine j_i2b (pc := 21) d_Sheet_put_21 ?_
        refine j_goto (pc := 22) (tgt := 39) d_Sheet_put_22 (by decide) ?_
        refine j_lv [] rfl ?_
        exact hk39 (p2.toInt8.toInt32)
-- Sheet.faultOfTwo (II)I
def mt_Sheet_faultOfTwo : Mt := ("ShakeHands$Sheet", b_Sheet_faultOfTwo, 4, some .int, 3, SHx)
theorem d_Sheet_faultOfTwo_0 : decode b_Sheet_faultOfTwo 0 = .ok (.aload_n 0, 1) := by decide +kernel
theorem d_Sheet_faultOfTwo_1 : decode b_Sheet_faultOfTwo 1 = .ok (.getfield 13, 3) := by decide +kernel
theorem d_Sheet_faultOfTwo_4 : decode b_Sheet_faultOfTwo 4 = .ok (.ifCond .eq 13, 3) := by decide +kernel
theorem d_Sheet_faultOfTwo_7 : decode b_Sheet_faultOfTwo 7 = .ok (.aload_n 0, 1) := by decide +kernel
theorem d_Sheet_faultOfTwo_8 : decode b_Sheet_faultOfTwo 8 = .ok (.getfield 17, 3) := by decide +kernel
theorem d_Sheet_faultOfTwo_11 : decode b_Sheet_faultOfTwo 11 = .ok (.iload_n 1, 1) := by decide +kernel
theorem d_Sheet_faultOfTwo_12 : decode b_Sheet_faultOfTwo 12 = .ok (.if_icmp .eq 5, 3) := by decide +kernel
theorem d_Sheet_faultOfTwo_15 : decode b_Sheet_faultOfTwo 15 = .ok (.iconst 3, 1) := by decide +kernel
theorem d_Sheet_faultOfTwo_16 : decode b_Sheet_faultOfTwo 16 = .ok (.ireturn, 1) := by decide +kernel
theorem d_Sheet_faultOfTwo_17 : decode b_Sheet_faultOfTwo 17 = .ok (.aload_n 0, 1) := by decide +kernel
theorem d_Sheet_faultOfTwo_18 : decode b_Sheet_faultOfTwo 18 = .ok (.iload_n 2, 1) := by decide +kernel
theorem d_Sheet_faultOfTwo_19 : decode b_Sheet_faultOfTwo 19 = .ok (.invokevirtual 24, 3) := by decide +kernel
theorem d_Sheet_faultOfTwo_22 : decode b_Sheet_faultOfTwo 22 = .ok (.istore_n 3, 1) := by decide +kernel
theorem d_Sheet_faultOfTwo_23 : decode b_Sheet_faultOfTwo 23 = .ok (.iload_n 3, 1) := by decide +kernel
theorem d_Sheet_faultOfTwo_24 : decode b_Sheet_faultOfTwo 24 = .ok (.ifCond .eq 7, 3) := by decide +kernel
theorem d_Sheet_faultOfTwo_27 : decode b_Sheet_faultOfTwo 27 = .ok (.iload_n 3, 1) := by decide +kernel
theorem d_Sheet_faultOfTwo_28 : decode b_Sheet_faultOfTwo 28 = .ok (.goto 10, 3) := by decide +kernel
theorem d_Sheet_faultOfTwo_31 : decode b_Sheet_faultOfTwo 31 = .ok (.aload_n 0, 1) := by decide +kernel
theorem d_Sheet_faultOfTwo_32 : decode b_Sheet_faultOfTwo 32 = .ok (.iload_n 2, 1) := by decide +kernel
theorem d_Sheet_faultOfTwo_33 : decode b_Sheet_faultOfTwo 33 = .ok (.iconst 1, 1) := by decide +kernel
theorem d_Sheet_faultOfTwo_34 : decode b_Sheet_faultOfTwo 34 = .ok (.iadd, 1) := by decide +kernel
theorem d_Sheet_faultOfTwo_35 : decode b_Sheet_faultOfTwo 35 = .ok (.invokevirtual 24, 3) := by decide +kernel
theorem d_Sheet_faultOfTwo_38 : decode b_Sheet_faultOfTwo 38 = .ok (.ireturn, 1) := by decide +kernel
def X_Sheet_faultOfTwo (n : Nat) (o : Nat) (p1 : Int32) (p2 : Int32) (M : Mem) : Option (Int32 × Mem) :=
  nm (bd (X_Sheet_faultAt n o p2 M) fun r1 M2 =>
    (if r1 = 0 then
      bd (X_Sheet_faultAt n o (p2 + 1) M2) fun r3 M4 =>
      some (r3, M4)
      else
      some (r1, M2)) : Option (Int32 × Mem)) fun k17 =>
  (if (M.1 o 0) = 0 then
    k17
    else
    (if (M.1 o 2) = p1 then
      k17
      else
      some (3, M)))
set_option maxRecDepth 20000 in
set_option maxHeartbeats 4000000 in
theorem C_Sheet_faultOfTwo (n : Nat) (o : Nat) (h_o : SHx[o]? = some (5, [0, 0, 0, o + 1 + 2])) (h_o1 : SHx[o + 1]? = some (100, [40])) (p1 : Int32) (p2 : Int32) (M : Mem) : Ct y_Sheet_faultOfTwo mt_Sheet_faultOfTwo wI [Value.ref o, Value.int p1, Value.int p2] M (X_Sheet_faultOfTwo n o p1 p2 M) := by
  refine ct_of (by decide +kernel) rfl (Nat.le_of_ble_eq_true rfl) ?_
  show J _ _ _ [(0, Value.ref o), (1, Value.int p1), (2, Value.int p2)] _ _ _
  unfold X_Sheet_faultOfTwo
  refine j_aload_n (pc := 0) (q := 0) d_Sheet_faultOfTwo_0 rfl rfl ?_
  refine j_getI (pc := 1) d_Sheet_faultOfTwo_1 fl_Sheet_13 h_o (by decide) rfl ?_
  refine j_nmk (fun k => J (mt_Sheet_faultOfTwo) wI 17 [(0, Value.ref o), (2, Value.int p2)] [] M k) (?_) (fun k17 hk17 => ?_)
  · refine j_aload_n (pc := 17) (q := 0) d_Sheet_faultOfTwo_17 rfl rfl ?_
    refine j_iload_n (pc := 18) (q := 1) d_Sheet_faultOfTwo_18 rfl rfl ?_
    refine j_callV1 (pc := 19) d_Sheet_faultOfTwo_19 (C_Sheet_faultAt n o h_o h_o1 p2 M) cV_Sheet_24 cd_Sheet_faultAt dn_Sheet_faultAt rfl (by decide) (Nat.le_of_ble_eq_true rfl) (Nat.le_of_ble_eq_true rfl) nr_I h_o (by decide) rfl (fun r1 M2 => ?_)
    refine j_istore_n (pc := 22) d_Sheet_faultOfTwo_22 rfl (by decide) rfl ?_
    refine j_iload_n (pc := 23) (q := 0) d_Sheet_faultOfTwo_23 rfl rfl ?_
    refine j_if_eq (pc := 24) (tgt := 31) d_Sheet_faultOfTwo_24 (by decide) (fun _ => ?_) (fun _ => ?_)
    · refine j_aload_n (pc := 31) (q := 1) d_Sheet_faultOfTwo_31 rfl rfl ?_
      refine j_iload_n (pc := 32) (q := 2) d_Sheet_faultOfTwo_32 rfl rfl ?_
      refine j_iconst (pc := 33) d_Sheet_faultOfTwo_33 k_i_1 ?_
      refine j_iadd (pc := 34) d_Sheet_faultOfTwo_34 ?_
      refine j_callV1 (pc := 35) d_Sheet_faultOfTwo_35 (C_Sheet_faultAt n o h_o h_o1 (p2 + 1) M2) cV_Sheet_24 cd_Sheet_faultAt dn_Sheet_faultAt rfl (by decide) (Nat.le_of_ble_eq_true rfl) (Nat.le_of_ble_eq_true rfl) nr_I h_o (by decide) rfl (fun r3 M4 => ?_)
      exact j_ireturn (pc := 38) d_Sheet_faultOfTwo_38 rfl
    · refine j_iload_n (pc := 27) (q := 0) d_Sheet_faultOfTwo_27 rfl rfl ?_
      refine j_goto (pc := 28) (tgt := 38) d_Sheet_faultOfTwo_28 (by decide) ?_
      exact j_ireturn (pc := 38) d_Sheet_faultOfTwo_38 rfl
  · refine j_if_eq (pc := 4) (tgt := 17) d_Sheet_faultOfTwo_4 (by decide) (fun _ => ?_) (fun _ => ?_)
    · refine j_lv [0, 2] rfl ?_
      exact hk17
    · refine j_aload_n (pc := 7) (q := 0) d_Sheet_faultOfTwo_7 rfl rfl ?_
      refine j_getI (pc := 8) d_Sheet_faultOfTwo_8 fl_Sheet_17 h_o (by decide) rfl ?_
      refine j_iload_n (pc := 11) (q := 1) d_Sheet_faultOfTwo_11 rfl rfl ?_
      refine j_icmp_eq (pc := 12) (tgt := 17) d_Sheet_faultOfTwo_12 (by decide) (fun _ => ?_) (fun _ => ?_)
      · refine j_lv [0, 2] rfl ?_
        exact hk17
      · refine j_iconst (pc := 15) d_Sheet_faultOfTwo_15 k_i_3 ?_
        exact j_ireturn (pc := 16) d_Sheet_faultOfTwo_16 rfl
-- Sheet.cellAt (I)I
def mt_Sheet_cellAt : Mt := ("ShakeHands$Sheet", b_Sheet_cellAt, 2, some .int, 3, SHx)
theorem d_Sheet_cellAt_0 : decode b_Sheet_cellAt 0 = .ok (.aload_n 0, 1) := by decide +kernel
theorem d_Sheet_cellAt_1 : decode b_Sheet_cellAt 1 = .ok (.iload_n 1, 1) := by decide +kernel
theorem d_Sheet_cellAt_2 : decode b_Sheet_cellAt 2 = .ok (.invokevirtual 24, 3) := by decide +kernel
theorem d_Sheet_cellAt_5 : decode b_Sheet_cellAt 5 = .ok (.ifCond .ne 12, 3) := by decide +kernel
theorem d_Sheet_cellAt_8 : decode b_Sheet_cellAt 8 = .ok (.aload_n 0, 1) := by decide +kernel
theorem d_Sheet_cellAt_9 : decode b_Sheet_cellAt 9 = .ok (.getfield 9, 3) := by decide +kernel
theorem d_Sheet_cellAt_12 : decode b_Sheet_cellAt 12 = .ok (.iload_n 1, 1) := by decide +kernel
theorem d_Sheet_cellAt_13 : decode b_Sheet_cellAt 13 = .ok (.iaload, 1) := by decide +kernel
theorem d_Sheet_cellAt_14 : decode b_Sheet_cellAt 14 = .ok (.goto 4, 3) := by decide +kernel
theorem d_Sheet_cellAt_17 : decode b_Sheet_cellAt 17 = .ok (.iconst 0, 1) := by decide +kernel
theorem d_Sheet_cellAt_18 : decode b_Sheet_cellAt 18 = .ok (.ireturn, 1) := by decide +kernel
def X_Sheet_cellAt (n : Nat) (o : Nat) (p1 : Int32) (M : Mem) : Option (Int32 × Mem) :=
  bd (X_Sheet_faultAt n o p1 M) fun r1 M2 =>
  (if r1 = 0 then
    gd p1 40 (
      some ((M2.1 (o + 1) p1.toNatClampNeg), M2))
    else
    some (0, M2))
set_option maxRecDepth 20000 in
set_option maxHeartbeats 4000000 in
theorem C_Sheet_cellAt (n : Nat) (o : Nat) (h_o : SHx[o]? = some (5, [0, 0, 0, o + 1 + 2])) (h_o1 : SHx[o + 1]? = some (100, [40])) (p1 : Int32) (M : Mem) : Ct y_Sheet_cellAt mt_Sheet_cellAt wI [Value.ref o, Value.int p1] M (X_Sheet_cellAt n o p1 M) := by
  refine ct_of (by decide +kernel) rfl (Nat.le_of_ble_eq_true rfl) ?_
  show J _ _ _ [(0, Value.ref o), (1, Value.int p1)] _ _ _
  unfold X_Sheet_cellAt
  refine j_aload_n (pc := 0) (q := 0) d_Sheet_cellAt_0 rfl rfl ?_
  refine j_iload_n (pc := 1) (q := 1) d_Sheet_cellAt_1 rfl rfl ?_
  refine j_callV1 (pc := 2) d_Sheet_cellAt_2 (C_Sheet_faultAt n o h_o h_o1 p1 M) cV_Sheet_24 cd_Sheet_faultAt dn_Sheet_faultAt rfl (by decide) (Nat.le_of_ble_eq_true rfl) (Nat.le_of_ble_eq_true rfl) nr_I h_o (by decide) rfl (fun r1 M2 => ?_)
  refine j_if_ne (pc := 5) (tgt := 17) d_Sheet_cellAt_5 (by decide) (fun _ => ?_) (fun _ => ?_)
  · refine j_iconst (pc := 17) d_Sheet_cellAt_17 k_i_0 ?_
    exact j_ireturn (pc := 18) d_Sheet_cellAt_18 rfl
  · refine j_aload_n (pc := 8) (q := 0) d_Sheet_cellAt_8 rfl rfl ?_
    refine j_getA (pc := 9) d_Sheet_cellAt_9 fl_Sheet_9 h_o (by decide) rfl ?_
    refine j_iload_n (pc := 12) (q := 1) d_Sheet_cellAt_12 rfl rfl ?_
    refine j_iald (pc := 13) d_Sheet_cellAt_13 h_o1 (fun _ => ?_)
    refine j_goto (pc := 14) (tgt := 18) d_Sheet_cellAt_14 (by decide) ?_
    exact j_ireturn (pc := 18) d_Sheet_cellAt_18 rfl
-- Tape.append (J)Z
def mt_Tape_append : Mt := ("ShakeHands$Tape", b_Tape_append, 4, some .boolean, 2, SHx)
theorem d_Tape_append_0 : decode b_Tape_append 0 = .ok (.aload_n 0, 1) := by decide +kernel
theorem d_Tape_append_1 : decode b_Tape_append 1 = .ok (.getfield 13, 3) := by decide +kernel
theorem d_Tape_append_4 : decode b_Tape_append 4 = .ok (.sipush 312, 3) := by decide +kernel
theorem d_Tape_append_7 : decode b_Tape_append 7 = .ok (.if_icmp .le 5, 3) := by decide +kernel
theorem d_Tape_append_10 : decode b_Tape_append 10 = .ok (.iconst 0, 1) := by decide +kernel
theorem d_Tape_append_11 : decode b_Tape_append 11 = .ok (.ireturn, 1) := by decide +kernel
theorem d_Tape_append_12 : decode b_Tape_append 12 = .ok (.iconst 0, 1) := by decide +kernel
theorem d_Tape_append_13 : decode b_Tape_append 13 = .ok (.istore_n 3, 1) := by decide +kernel
theorem d_Tape_append_14 : decode b_Tape_append 14 = .ok (.iload_n 3, 1) := by decide +kernel
theorem d_Tape_append_15 : decode b_Tape_append 15 = .ok (.bipush 8, 2) := by decide +kernel
theorem d_Tape_append_17 : decode b_Tape_append 17 = .ok (.if_icmp .ge 31, 3) := by decide +kernel
theorem d_Tape_append_20 : decode b_Tape_append 20 = .ok (.aload_n 0, 1) := by decide +kernel
theorem d_Tape_append_21 : decode b_Tape_append 21 = .ok (.getfield 9, 3) := by decide +kernel
theorem d_Tape_append_24 : decode b_Tape_append 24 = .ok (.aload_n 0, 1) := by decide +kernel
theorem d_Tape_append_25 : decode b_Tape_append 25 = .ok (.getfield 13, 3) := by decide +kernel
theorem d_Tape_append_28 : decode b_Tape_append 28 = .ok (.iload_n 3, 1) := by decide +kernel
theorem d_Tape_append_29 : decode b_Tape_append 29 = .ok (.iadd, 1) := by decide +kernel
theorem d_Tape_append_30 : decode b_Tape_append 30 = .ok (.lload_n 1, 1) := by decide +kernel
theorem d_Tape_append_31 : decode b_Tape_append 31 = .ok (.bipush 56, 2) := by decide +kernel
theorem d_Tape_append_33 : decode b_Tape_append 33 = .ok (.bipush 8, 2) := by decide +kernel
theorem d_Tape_append_35 : decode b_Tape_append 35 = .ok (.iload_n 3, 1) := by decide +kernel
theorem d_Tape_append_36 : decode b_Tape_append 36 = .ok (.imul, 1) := by decide +kernel
theorem d_Tape_append_37 : decode b_Tape_append 37 = .ok (.isub, 1) := by decide +kernel
theorem d_Tape_append_38 : decode b_Tape_append 38 = .ok (.lushr, 1) := by decide +kernel
theorem d_Tape_append_39 : decode b_Tape_append 39 = .ok (.l2i, 1) := by decide +kernel
theorem d_Tape_append_40 : decode b_Tape_append 40 = .ok (.i2b, 1) := by decide +kernel
theorem d_Tape_append_41 : decode b_Tape_append 41 = .ok (.bastore, 1) := by decide +kernel
theorem d_Tape_append_42 : decode b_Tape_append 42 = .ok (.iinc 3 1, 3) := by decide +kernel
theorem d_Tape_append_45 : decode b_Tape_append 45 = .ok (.goto (-31), 3) := by decide +kernel
theorem d_Tape_append_48 : decode b_Tape_append 48 = .ok (.aload_n 0, 1) := by decide +kernel
theorem d_Tape_append_49 : decode b_Tape_append 49 = .ok (.dup, 1) := by decide +kernel
theorem d_Tape_append_50 : decode b_Tape_append 50 = .ok (.getfield 13, 3) := by decide +kernel
theorem d_Tape_append_53 : decode b_Tape_append 53 = .ok (.bipush 8, 2) := by decide +kernel
theorem d_Tape_append_55 : decode b_Tape_append 55 = .ok (.iadd, 1) := by decide +kernel
theorem d_Tape_append_56 : decode b_Tape_append 56 = .ok (.putfield 13, 3) := by decide +kernel
theorem d_Tape_append_59 : decode b_Tape_append 59 = .ok (.iconst 1, 1) := by decide +kernel
theorem d_Tape_append_60 : decode b_Tape_append 60 = .ok (.ireturn, 1) := by decide +kernel
def X_Tape_append_L14 (n : Nat) (a1 : Int64) (kx48 : Mem → Option (Int32 × Mem)) : Nat → Int32 → Mem → Option (Int32 × Mem)
    | 0, _, _ => none
    | m + 1, v3, M => (if 8 ≤ v3 then
    kx48 M
    else
    gd ((M.1 1 1) + v3) 320 (
      X_Tape_append_L14 n a1 kx48 m (v3 + 1) (si M 2 (((M.1 1 1) + v3).toNatClampNeg) (vp_nar .byte ((((((a1.toUInt64 >>> (((56 : Int32) - ((8 : Int32) * v3)).toInt64.toUInt64 &&& Int64.toUInt64 63)).toInt64) : Int64).toInt32) : Int32).toInt8.toInt32)))))
def X_Tape_append (n : Nat) (p1 : Int64) (M : Mem) : Option (Int32 × Mem) :=
  (if (M.1 1 1) ≤ 312 then
    X_Tape_append_L14 n p1 (fun M1 => some (1, si M1 1 1 ((M1.1 1 1) + 8))) n 0 M
    else
    some (0, M))
set_option maxRecDepth 20000 in
set_option maxHeartbeats 4000000 in
theorem X_Tape_append_L14_ok {n : Nat} {a1 : Int64} {kx48 : Mem → Option (Int32 × Mem)} (hkx48 : ∀ (M : Mem), J (mt_Tape_append) wI 48 [(0, Value.ref 1)] [] M (kx48 M)) : ∀ (m : Nat) (v3 : Int32) (M : Mem), J (mt_Tape_append) wI 14 [(0, Value.ref 1), (1, Value.long a1), (3, Value.int v3)] [] M (X_Tape_append_L14 n a1 kx48 m v3 M) := by
  intro m
  induction m with
  | zero => intro _ _; exact j_none
  | succ m ih =>
    intro v3 M
    show J _ _ _ _ _ _ ((if 8 ≤ v3 then
kx48 M
else
gd ((M.1 1 1) + v3) 320 (
X_Tape_append_L14 n a1 kx48 m (v3 + 1) (si M 2 (((M.1 1 1) + v3).toNatClampNeg) (vp_nar .byte ((((((a1.toUInt64 >>> (((56 : Int32) - ((8 : Int32) * v3)).toInt64.toUInt64 &&& Int64.toUInt64 63)).toInt64) : Int64).toInt32) : Int32).toInt8.toInt32))))))
    refine j_iload_n (pc := 14) (q := 2) d_Tape_append_14 rfl rfl ?_
    refine j_bipush (pc := 15) d_Tape_append_15 k_b_8 ?_
    refine j_icmp_ge (pc := 17) (tgt := 48) d_Tape_append_17 (by decide) (fun _ => ?_) (fun _ => ?_)
    · refine j_lv [0] rfl ?_
      exact hkx48 M
    · refine j_aload_n (pc := 20) (q := 0) d_Tape_append_20 rfl rfl ?_
      refine j_getA (pc := 21) d_Tape_append_21 fl_Tape_9 sx_1 (by decide) rfl ?_
      refine j_aload_n (pc := 24) (q := 0) d_Tape_append_24 rfl rfl ?_
      refine j_getI (pc := 25) d_Tape_append_25 fl_Tape_13 sx_1 (by decide) rfl ?_
      refine j_iload_n (pc := 28) (q := 2) d_Tape_append_28 rfl rfl ?_
      refine j_iadd (pc := 29) d_Tape_append_29 ?_
      refine j_lload_n (pc := 30) (q := 1) d_Tape_append_30 rfl rfl ?_
      refine j_bipush (pc := 31) d_Tape_append_31 k_b_56 ?_
      refine j_bipush (pc := 33) d_Tape_append_33 k_b_8 ?_
      refine j_iload_n (pc := 35) (q := 2) d_Tape_append_35 rfl rfl ?_
      refine j_imul (pc := 36) d_Tape_append_36 ?_
      refine j_isub (pc := 37) d_Tape_append_37 ?_
      refine j_lushr (pc := 38) d_Tape_append_38 ?_
      refine j_l2i (pc := 39) d_Tape_append_39 ?_
      refine j_i2b (pc := 40) d_Tape_append_40 ?_
      refine j_bast (pc := 41) d_Tape_append_41 sx_2 (fun _ => ?_)
      refine j_iinc (pc := 42) (q := 2) d_Tape_append_42 rfl (congrArg (v3 + ·) k_i_1) (by decide) rfl ?_
      refine j_goto (pc := 45) (tgt := 14) d_Tape_append_45 (by decide) ?_
      refine j_lv [1, 2, 0] rfl ?_
      exact ih (v3 + 1) (si M 2 (((M.1 1 1) + v3).toNatClampNeg) (vp_nar .byte ((((((a1.toUInt64 >>> (((56 : Int32) - ((8 : Int32) * v3)).toInt64.toUInt64 &&& Int64.toUInt64 63)).toInt64) : Int64).toInt32) : Int32).toInt8.toInt32)))
set_option maxRecDepth 20000 in
set_option maxHeartbeats 4000000 in
theorem C_Tape_append (n : Nat)   (p1 : Int64) (M : Mem) : Ct y_Tape_append mt_Tape_append wI [Value.ref 1, Value.long p1] M (X_Tape_append n p1 M) := by
  refine ct_of (by decide +kernel) rfl (Nat.le_of_ble_eq_true rfl) ?_
  show J _ _ _ [(0, Value.ref 1), (1, Value.long p1)] _ _ _
  unfold X_Tape_append
  refine j_aload_n (pc := 0) (q := 0) d_Tape_append_0 rfl rfl ?_
  refine j_getI (pc := 1) d_Tape_append_1 fl_Tape_13 sx_1 (by decide) rfl ?_
  refine j_sipush (pc := 4) d_Tape_append_4 k_s_312 ?_
  refine j_icmp_le (pc := 7) (tgt := 12) d_Tape_append_7 (by decide) (fun _ => ?_) (fun _ => ?_)
  · refine j_iconst (pc := 12) d_Tape_append_12 k_i_0 ?_
    refine j_istore_n (pc := 13) d_Tape_append_13 rfl (by decide) rfl ?_
    refine j_lv [1, 2, 0] rfl ?_
    refine X_Tape_append_L14_ok  (fun M1 => ?_) n 0 M
    refine j_aload_n (pc := 48) (q := 0) d_Tape_append_48 rfl rfl ?_
    refine j_dup (pc := 49) d_Tape_append_49 rfl ?_
    refine j_getI (pc := 50) d_Tape_append_50 fl_Tape_13 sx_1 (by decide) rfl ?_
    refine j_bipush (pc := 53) d_Tape_append_53 k_b_8 ?_
    refine j_iadd (pc := 55) d_Tape_append_55 ?_
    refine j_putI (pc := 56) d_Tape_append_56 fl_Tape_13 rfl sx_1 (by decide) rfl ?_
    refine j_iconst (pc := 59) d_Tape_append_59 k_i_1 ?_
    exact j_zreturn (pc := 60) d_Tape_append_60 rfl rfl
  · refine j_iconst (pc := 10) d_Tape_append_10 k_i_0 ?_
    exact j_zreturn (pc := 11) d_Tape_append_11 rfl rfl
-- ShakeHands.pairOf (II)I
def mt_ShakeHands_pairOf : Mt := ("ShakeHands", b_ShakeHands_pairOf, 3, some .int, 2, SHx)
theorem d_ShakeHands_pairOf_0 : decode b_ShakeHands_pairOf 0 = .ok (.iload_n 0, 1) := by decide +kernel
theorem d_ShakeHands_pairOf_1 : decode b_ShakeHands_pairOf 1 = .ok (.iload_n 1, 1) := by decide +kernel
theorem d_ShakeHands_pairOf_2 : decode b_ShakeHands_pairOf 2 = .ok (.invokestatic 305, 3) := by decide +kernel
theorem d_ShakeHands_pairOf_5 : decode b_ShakeHands_pairOf 5 = .ok (.istore_n 2, 1) := by decide +kernel
theorem d_ShakeHands_pairOf_6 : decode b_ShakeHands_pairOf 6 = .ok (.iload_n 2, 1) := by decide +kernel
theorem d_ShakeHands_pairOf_7 : decode b_ShakeHands_pairOf 7 = .ok (.iload_n 2, 1) := by decide +kernel
theorem d_ShakeHands_pairOf_8 : decode b_ShakeHands_pairOf 8 = .ok (.iconst 1, 1) := by decide +kernel
theorem d_ShakeHands_pairOf_9 : decode b_ShakeHands_pairOf 9 = .ok (.isub, 1) := by decide +kernel
theorem d_ShakeHands_pairOf_10 : decode b_ShakeHands_pairOf 10 = .ok (.imul, 1) := by decide +kernel
theorem d_ShakeHands_pairOf_11 : decode b_ShakeHands_pairOf 11 = .ok (.iconst 2, 1) := by decide +kernel
theorem d_ShakeHands_pairOf_12 : decode b_ShakeHands_pairOf 12 = .ok (.idiv, 1) := by decide +kernel
theorem d_ShakeHands_pairOf_13 : decode b_ShakeHands_pairOf 13 = .ok (.iload_n 0, 1) := by decide +kernel
theorem d_ShakeHands_pairOf_14 : decode b_ShakeHands_pairOf 14 = .ok (.iload_n 1, 1) := by decide +kernel
theorem d_ShakeHands_pairOf_15 : decode b_ShakeHands_pairOf 15 = .ok (.invokestatic 310, 3) := by decide +kernel
theorem d_ShakeHands_pairOf_18 : decode b_ShakeHands_pairOf 18 = .ok (.iadd, 1) := by decide +kernel
theorem d_ShakeHands_pairOf_19 : decode b_ShakeHands_pairOf 19 = .ok (.ireturn, 1) := by decide +kernel
def X_ShakeHands_pairOf (n : Nat) (p0 : Int32) (p1 : Int32) (M : Mem) : Option (Int32 × Mem) :=
  nm (if p0 < p1 then p1 else p0) fun x1 =>
  (if 2 = 0 then none else
    some ((((x1 * (x1 - 1)) / 2) + (if p1 < p0 then p1 else p0)), M))
set_option maxRecDepth 20000 in
set_option maxHeartbeats 4000000 in
theorem C_ShakeHands_pairOf (n : Nat)   (p0 : Int32) (p1 : Int32) (M : Mem) : Ct y_ShakeHands_pairOf mt_ShakeHands_pairOf wI [Value.int p0, Value.int p1] M (X_ShakeHands_pairOf n p0 p1 M) := by
  refine ct_of (by decide +kernel) rfl (Nat.le_of_ble_eq_true rfl) ?_
  show J _ _ _ [(0, Value.int p0), (1, Value.int p1)] _ _ _
  unfold X_ShakeHands_pairOf
  refine j_iload_n (pc := 0) (q := 0) d_ShakeHands_pairOf_0 rfl rfl ?_
  refine j_iload_n (pc := 1) (q := 1) d_ShakeHands_pairOf_1 rfl rfl ?_
  refine j_mmax (pc := 2) d_ShakeHands_pairOf_2 mw_ShakeHands_305 ms_max mc_max (by decide) (Nat.le_of_ble_eq_true rfl) ?_
  refine j_nmi (fun x1 => ?_)
  refine j_istore_n (pc := 5) d_ShakeHands_pairOf_5 rfl (by decide) rfl ?_
  refine j_iload_n (pc := 6) (q := 0) d_ShakeHands_pairOf_6 rfl rfl ?_
  refine j_iload_n (pc := 7) (q := 0) d_ShakeHands_pairOf_7 rfl rfl ?_
  refine j_iconst (pc := 8) d_ShakeHands_pairOf_8 k_i_1 ?_
  refine j_isub (pc := 9) d_ShakeHands_pairOf_9 ?_
  refine j_imul (pc := 10) d_ShakeHands_pairOf_10 ?_
  refine j_iconst (pc := 11) d_ShakeHands_pairOf_11 k_i_2 ?_
  refine j_idiv (pc := 12) d_ShakeHands_pairOf_12 (fun _ => ?_)
  refine j_iload_n (pc := 13) (q := 1) d_ShakeHands_pairOf_13 rfl rfl ?_
  refine j_iload_n (pc := 14) (q := 2) d_ShakeHands_pairOf_14 rfl rfl ?_
  refine j_mmin (pc := 15) d_ShakeHands_pairOf_15 mw_ShakeHands_310 ms_min mc_min (by decide) (Nat.le_of_ble_eq_true rfl) ?_
  refine j_iadd (pc := 18) d_ShakeHands_pairOf_18 ?_
  exact j_ireturn (pc := 19) d_ShakeHands_pairOf_19 rfl

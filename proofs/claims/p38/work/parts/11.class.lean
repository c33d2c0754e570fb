section
-- Integer.bitCount (I)I
def mt_Integer_bitCount : Mt := ("java/lang/Integer", b_Integer_bitCount, 1, some .int, 2, SHx)
theorem d_Integer_bitCount_0 : decode b_Integer_bitCount 0 = .ok (.iload_n 0, 1) := by decide +kernel
theorem d_Integer_bitCount_1 : decode b_Integer_bitCount 1 = .ok (.iload_n 0, 1) := by decide +kernel
theorem d_Integer_bitCount_2 : decode b_Integer_bitCount 2 = .ok (.iconst 1, 1) := by decide +kernel
theorem d_Integer_bitCount_3 : decode b_Integer_bitCount 3 = .ok (.iushr, 1) := by decide +kernel
theorem d_Integer_bitCount_4 : decode b_Integer_bitCount 4 = .ok (.ldc_w 265, 3) := by decide +kernel
theorem d_Integer_bitCount_7 : decode b_Integer_bitCount 7 = .ok (.iand, 1) := by decide +kernel
theorem d_Integer_bitCount_8 : decode b_Integer_bitCount 8 = .ok (.isub, 1) := by decide +kernel
theorem d_Integer_bitCount_9 : decode b_Integer_bitCount 9 = .ok (.istore_n 0, 1) := by decide +kernel
theorem d_Integer_bitCount_10 : decode b_Integer_bitCount 10 = .ok (.iload_n 0, 1) := by decide +kernel
theorem d_Integer_bitCount_11 : decode b_Integer_bitCount 11 = .ok (.ldc_w 266, 3) := by decide +kernel
theorem d_Integer_bitCount_14 : decode b_Integer_bitCount 14 = .ok (.iand, 1) := by decide +kernel
theorem d_Integer_bitCount_15 : decode b_Integer_bitCount 15 = .ok (.iload_n 0, 1) := by decide +kernel
theorem d_Integer_bitCount_16 : decode b_Integer_bitCount 16 = .ok (.iconst 2, 1) := by decide +kernel
theorem d_Integer_bitCount_17 : decode b_Integer_bitCount 17 = .ok (.iushr, 1) := by decide +kernel
theorem d_Integer_bitCount_18 : decode b_Integer_bitCount 18 = .ok (.ldc_w 266, 3) := by decide +kernel
theorem d_Integer_bitCount_21 : decode b_Integer_bitCount 21 = .ok (.iand, 1) := by decide +kernel
theorem d_Integer_bitCount_22 : decode b_Integer_bitCount 22 = .ok (.iadd, 1) := by decide +kernel
theorem d_Integer_bitCount_23 : decode b_Integer_bitCount 23 = .ok (.istore_n 0, 1) := by decide +kernel
theorem d_Integer_bitCount_24 : decode b_Integer_bitCount 24 = .ok (.iload_n 0, 1) := by decide +kernel
theorem d_Integer_bitCount_25 : decode b_Integer_bitCount 25 = .ok (.iload_n 0, 1) := by decide +kernel
theorem d_Integer_bitCount_26 : decode b_Integer_bitCount 26 = .ok (.iconst 4, 1) := by decide +kernel
theorem d_Integer_bitCount_27 : decode b_Integer_bitCount 27 = .ok (.iushr, 1) := by decide +kernel
theorem d_Integer_bitCount_28 : decode b_Integer_bitCount 28 = .ok (.iadd, 1) := by decide +kernel
theorem d_Integer_bitCount_29 : decode b_Integer_bitCount 29 = .ok (.ldc_w 267, 3) := by decide +kernel
theorem d_Integer_bitCount_32 : decode b_Integer_bitCount 32 = .ok (.iand, 1) := by decide +kernel
theorem d_Integer_bitCount_33 : decode b_Integer_bitCount 33 = .ok (.istore_n 0, 1) := by decide +kernel
theorem d_Integer_bitCount_34 : decode b_Integer_bitCount 34 = .ok (.iload_n 0, 1) := by decide +kernel
theorem d_Integer_bitCount_35 : decode b_Integer_bitCount 35 = .ok (.iload_n 0, 1) := by decide +kernel
theorem d_Integer_bitCount_36 : decode b_Integer_bitCount 36 = .ok (.bipush 8, 2) := by decide +kernel
theorem d_Integer_bitCount_38 : decode b_Integer_bitCount 38 = .ok (.iushr, 1) := by decide +kernel
theorem d_Integer_bitCount_39 : decode b_Integer_bitCount 39 = .ok (.iadd, 1) := by decide +kernel
theorem d_Integer_bitCount_40 : decode b_Integer_bitCount 40 = .ok (.istore_n 0, 1) := by decide +kernel
theorem d_Integer_bitCount_41 : decode b_Integer_bitCount 41 = .ok (.iload_n 0, 1) := by decide +kernel
theorem d_Integer_bitCount_42 : decode b_Integer_bitCount 42 = .ok (.iload_n 0, 1) := by decide +kernel
theorem d_Integer_bitCount_43 : decode b_Integer_bitCount 43 = .ok (.bipush 16, 2) := by decide +kernel
theorem d_Integer_bitCount_45 : decode b_Integer_bitCount 45 = .ok (.iushr, 1) := by decide +kernel
theorem d_Integer_bitCount_46 : decode b_Integer_bitCount 46 = .ok (.iadd, 1) := by decide +kernel
theorem d_Integer_bitCount_47 : decode b_Integer_bitCount 47 = .ok (.istore_n 0, 1) := by decide +kernel
theorem d_Integer_bitCount_48 : decode b_Integer_bitCount 48 = .ok (.iload_n 0, 1) := by decide +kernel
theorem d_Integer_bitCount_49 : decode b_Integer_bitCount 49 = .ok (.bipush 63, 2) := by decide +kernel
theorem d_Integer_bitCount_51 : decode b_Integer_bitCount 51 = .ok (.iand, 1) := by decide +kernel
theorem d_Integer_bitCount_52 : decode b_Integer_bitCount 52 = .ok (.ireturn, 1) := by decide +kernel
def X_Integer_bitCount (n : Nat) (p0 : Int32) (M : Mem) : Option (Int32 × Mem) :=
  nm (p0 - (((p0.toUInt32 >>> ((1 : Int32).toUInt32 &&& Int32.toUInt32 31)).toInt32) &&& 1431655765)) fun x1 =>
  nm ((x1 &&& 858993459) + (((x1.toUInt32 >>> ((2 : Int32).toUInt32 &&& Int32.toUInt32 31)).toInt32) &&& 858993459)) fun x2 =>
  nm ((x2 + ((x2.toUInt32 >>> ((4 : Int32).toUInt32 &&& Int32.toUInt32 31)).toInt32)) &&& 252645135) fun x3 =>
  nm (x3 + ((x3.toUInt32 >>> ((8 : Int32).toUInt32 &&& Int32.toUInt32 31)).toInt32)) fun x4 =>
  nm (x4 + ((x4.toUInt32 >>> ((16 : Int32).toUInt32 &&& Int32.toUInt32 31)).toInt32)) fun x5 =>
  some ((x5 &&& 63), M)
set_option maxRecDepth 20000 in
set_option maxHeartbeats 4000000 in
theorem C_Integer_bitCount (n : Nat)   (p0 : Int32) (M : Mem) : Ct y_Integer_bitCount mt_Integer_bitCount wI [Value.int p0] M (X_Integer_bitCount n p0 M) := by
  refine ct_of (by decide +kernel) rfl (Nat.le_of_ble_eq_true rfl) ?_
  show J _ _ _ [(0, Value.int p0)] _ _ _
  unfold X_Integer_bitCount
  refine j_iload_n (pc := 0) (q := 0) d_Integer_bitCount_0 rfl rfl ?_
  refine j_iload_n (pc := 1) (q := 0) d_Integer_bitCount_1 rfl rfl ?_
  refine j_iconst (pc := 2) d_Integer_bitCount_2 k_i_1 ?_
  refine j_iushr (pc := 3) d_Integer_bitCount_3 ?_
  refine j_ldcw (pc := 4) (own := "java/lang/Integer") d_Integer_bitCount_4 ct_Integer_265 ?_
  refine j_iand (pc := 7) d_Integer_bitCount_7 ?_
  refine j_isub (pc := 8) d_Integer_bitCount_8 ?_
  refine j_nmi (fun x1 => ?_)
  refine j_istore_n (pc := 9) d_Integer_bitCount_9 rfl (by decide) rfl ?_
  refine j_iload_n (pc := 10) (q := 0) d_Integer_bitCount_10 rfl rfl ?_
  refine j_ldcw (pc := 11) (own := "java/lang/Integer") d_Integer_bitCount_11 ct_Integer_266 ?_
  refine j_iand (pc := 14) d_Integer_bitCount_14 ?_
  refine j_iload_n (pc := 15) (q := 0) d_Integer_bitCount_15 rfl rfl ?_
  refine j_iconst (pc := 16) d_Integer_bitCount_16 k_i_2 ?_
  refine j_iushr (pc := 17) d_Integer_bitCount_17 ?_
  refine j_ldcw (pc := 18) (own := "java/lang/Integer") d_Integer_bitCount_18 ct_Integer_266 ?_
  refine j_iand (pc := 21) d_Integer_bitCount_21 ?_
  refine j_iadd (pc := 22) d_Integer_bitCount_22 ?_
  refine j_nmi (fun x2 => ?_)
  refine j_istore_n (pc := 23) d_Integer_bitCount_23 rfl (by decide) rfl ?_
  refine j_iload_n (pc := 24) (q := 0) d_Integer_bitCount_24 rfl rfl ?_
  refine j_iload_n (pc := 25) (q := 0) d_Integer_bitCount_25 rfl rfl ?_
  refine j_iconst (pc := 26) d_Integer_bitCount_26 k_i_4 ?_
  refine j_iushr (pc := 27) d_Integer_bitCount_27 ?_
  refine j_iadd (pc := 28) d_Integer_bitCount_28 ?_
  refine j_ldcw (pc := 29) (own := "java/lang/Integer") d_Integer_bitCount_29 ct_Integer_267 ?_
  refine j_iand (pc := 32) d_Integer_bitCount_32 ?_
  refine j_nmi (fun x3 => ?_)
  refine j_istore_n (pc := 33) d_Integer_bitCount_33 rfl (by decide) rfl ?_
  refine j_iload_n (pc := 34) (q := 0) d_Integer_bitCount_34 rfl rfl ?_
  refine j_iload_n (pc := 35) (q := 0) d_Integer_bitCount_35 rfl rfl ?_
  refine j_bipush (pc := 36) d_Integer_bitCount_36 k_b_8 ?_
  refine j_iushr (pc := 38) d_Integer_bitCount_38 ?_
  refine j_iadd (pc := 39) d_Integer_bitCount_39 ?_
  refine j_nmi (fun x4 => ?_)
  refine j_istore_n (pc := 40) d_Integer_bitCount_40 rfl (by decide) rfl ?_
  refine j_iload_n (pc := 41) (q := 0) d_Integer_bitCount_41 rfl rfl ?_
  refine j_iload_n (pc := 42) (q := 0) d_Integer_bitCount_42 rfl rfl ?_
  refine j_bipush (pc := 43) d_Integer_bitCount_43 k_b_16 ?_
  refine j_iushr (pc := 45) d_Integer_bitCount_45 ?_
  refine j_iadd (pc := 46) d_Integer_bitCount_46 ?_
  refine j_nmi (fun x5 => ?_)
  refine j_istore_n (pc := 47) d_Integer_bitCount_47 rfl (by decide) rfl ?_
  refine j_iload_n (pc := 48) (q := 0) d_Integer_bitCount_48 rfl rfl ?_
  refine j_bipush (pc := 49) d_Integer_bitCount_49 k_b_63 ?_
  refine j_iand (pc := 51) d_Integer_bitCount_51 ?_
  exact j_ireturn (pc := 52) d_Integer_bitCount_52 rfl
-- Row.take (J)V
def mt_Row_take : Mt := ("ShakeHands$Row", b_Row_take, 3, none, 2, SHx)
theorem d_Row_take_0 : decode b_Row_take 0 = .ok (.aload_n 0, 1) := by decide +kernel
theorem d_Row_take_1 : decode b_Row_take 1 = .ok (.lload_n 1, 1) := by decide +kernel
theorem d_Row_take_2 : decode b_Row_take 2 = .ok (.ldc2_w 15, 3) := by decide +kernel
theorem d_Row_take_5 : decode b_Row_take 5 = .ok (.land, 1) := by decide +kernel
theorem d_Row_take_6 : decode b_Row_take 6 = .ok (.putfield 17, 3) := by decide +kernel
theorem d_Row_take_9 : decode b_Row_take 9 = .ok (.aload_n 0, 1) := by decide +kernel
theorem d_Row_take_10 : decode b_Row_take 10 = .ok (.lload_n 1, 1) := by decide +kernel
theorem d_Row_take_11 : decode b_Row_take 11 = .ok (.bipush 36, 2) := by decide +kernel
theorem d_Row_take_13 : decode b_Row_take 13 = .ok (.lushr, 1) := by decide +kernel
theorem d_Row_take_14 : decode b_Row_take 14 = .ok (.l2i, 1) := by decide +kernel
theorem d_Row_take_15 : decode b_Row_take 15 = .ok (.putfield 21, 3) := by decide +kernel
theorem d_Row_take_18 : decode b_Row_take 18 = .ok (.return_, 1) := by decide +kernel
def X_Row_take (n : Nat) (o : Nat) (p1 : Int64) (M : Mem) : Option (Unit × Mem) :=
  some ((), si (sl M o 0 (p1 &&& 68719476735)) o 1 ((((p1.toUInt64 >>> ((36 : Int32).toInt64.toUInt64 &&& Int64.toUInt64 63)).toInt64) : Int64).toInt32))
set_option maxRecDepth 20000 in
set_option maxHeartbeats 4000000 in
theorem C_Row_take (n : Nat) (o : Nat) (h_o : SHx[o]? = some (3, [1, 0])) (p1 : Int64) (M : Mem) : Ct y_Row_take mt_Row_take wU [Value.ref o, Value.long p1] M (X_Row_take n o p1 M) := by
  refine ct_of (by decide +kernel) rfl (Nat.le_of_ble_eq_true rfl) ?_
  show J _ _ _ [(0, Value.ref o), (1, Value.long p1)] _ _ _
  unfold X_Row_take
  refine j_aload_n (pc := 0) (q := 0) d_Row_take_0 rfl rfl ?_
  refine j_lload_n (pc := 1) (q := 1) d_Row_take_1 rfl rfl ?_
  refine j_ldc2 (pc := 2) d_Row_take_2 cl_Row_15 ?_
  refine j_land (pc := 5) d_Row_take_5 ?_
  refine j_putL (pc := 6) d_Row_take_6 fl_Row_17 rfl h_o (by decide) rfl ?_
  refine j_aload_n (pc := 9) (q := 0) d_Row_take_9 rfl rfl ?_
  refine j_lload_n (pc := 10) (q := 1) d_Row_take_10 rfl rfl ?_
  refine j_bipush (pc := 11) d_Row_take_11 k_b_36 ?_
  refine j_lushr (pc := 13) d_Row_take_13 ?_
  refine j_l2i (pc := 14) d_Row_take_14 ?_
  refine j_putI (pc := 15) d_Row_take_15 fl_Row_21 rfl h_o (by decide) rfl ?_
  exact j_return (pc := 18) d_Row_take_18 rfl
-- Row.add (I)V
def mt_Row_add : Mt := ("ShakeHands$Row", b_Row_add, 2, none, 3, SHx)
theorem d_Row_add_0 : decode b_Row_add 0 = .ok (.aload_n 0, 1) := by decide +kernel
theorem d_Row_add_1 : decode b_Row_add 1 = .ok (.getfield 21, 3) := by decide +kernel
theorem d_Row_add_4 : decode b_Row_add 4 = .ok (.iload_n 1, 1) := by decide +kernel
theorem d_Row_add_5 : decode b_Row_add 5 = .ok (.iushr, 1) := by decide +kernel
theorem d_Row_add_6 : decode b_Row_add 6 = .ok (.iconst 1, 1) := by decide +kernel
theorem d_Row_add_7 : decode b_Row_add 7 = .ok (.iand, 1) := by decide +kernel
theorem d_Row_add_8 : decode b_Row_add 8 = .ok (.ifCond .ne 36, 3) := by decide +kernel
theorem d_Row_add_11 : decode b_Row_add 11 = .ok (.aload_n 0, 1) := by decide +kernel
theorem d_Row_add_12 : decode b_Row_add 12 = .ok (.dup, 1) := by decide +kernel
theorem d_Row_add_13 : decode b_Row_add 13 = .ok (.getfield 17, 3) := by decide +kernel
theorem d_Row_add_16 : decode b_Row_add 16 = .ok (.iload_n 1, 1) := by decide +kernel
theorem d_Row_add_17 : decode b_Row_add 17 = .ok (.i2l, 1) := by decide +kernel
theorem d_Row_add_18 : decode b_Row_add 18 = .ok (.iconst 4, 1) := by decide +kernel
theorem d_Row_add_19 : decode b_Row_add 19 = .ok (.aload_n 0, 1) := by decide +kernel
theorem d_Row_add_20 : decode b_Row_add 20 = .ok (.getfield 21, 3) := by decide +kernel
theorem d_Row_add_23 : decode b_Row_add 23 = .ok (.invokestatic 9, 3) := by decide +kernel
theorem d_Row_add_26 : decode b_Row_add 26 = .ok (.imul, 1) := by decide +kernel
theorem d_Row_add_27 : decode b_Row_add 27 = .ok (.lshl, 1) := by decide +kernel
theorem d_Row_add_28 : decode b_Row_add 28 = .ok (.lor, 1) := by decide +kernel
theorem d_Row_add_29 : decode b_Row_add 29 = .ok (.putfield 17, 3) := by decide +kernel
theorem d_Row_add_32 : decode b_Row_add 32 = .ok (.aload_n 0, 1) := by decide +kernel
theorem d_Row_add_33 : decode b_Row_add 33 = .ok (.dup, 1) := by decide +kernel
theorem d_Row_add_34 : decode b_Row_add 34 = .ok (.getfield 21, 3) := by decide +kernel
theorem d_Row_add_37 : decode b_Row_add 37 = .ok (.iconst 1, 1) := by decide +kernel
theorem d_Row_add_38 : decode b_Row_add 38 = .ok (.iload_n 1, 1) := by decide +kernel
theorem d_Row_add_39 : decode b_Row_add 39 = .ok (.ishl, 1) := by decide +kernel
theorem d_Row_add_40 : decode b_Row_add 40 = .ok (.ior, 1) := by decide +kernel
theorem d_Row_add_41 : decode b_Row_add 41 = .ok (.putfield 21, 3) := by decide +kernel
theorem d_Row_add_44 : decode b_Row_add 44 = .ok (.return_, 1) := by decide +kernel
def X_Row_add (n : Nat) (o : Nat) (p1 : Int32) (M : Mem) : Option (Unit × Mem) :=
  (if ((((M.1 o 1).toUInt32 >>> (p1.toUInt32 &&& Int32.toUInt32 31)).toInt32) &&& 1) = 0 then
    bd (X_Integer_bitCount n (M.1 o 1) M) fun r1 M2 =>
    nm (sl M2 o 0 ((M.2 o 0) ||| ((p1.toInt64) <<< (((4 : Int32) * r1).toInt64 &&& 63)))) fun N3 =>
    some ((), si N3 o 1 ((N3.1 o 1) ||| ((1 : Int32) <<< (p1 &&& 31))))
    else
    some ((), M))
set_option maxRecDepth 20000 in
set_option maxHeartbeats 4000000 in
theorem C_Row_add (n : Nat) (o : Nat) (h_o : SHx[o]? = some (3, [1, 0])) (p1 : Int32) (M : Mem) : Ct y_Row_add mt_Row_add wU [Value.ref o, Value.int p1] M (X_Row_add n o p1 M) := by
  refine ct_of (by decide +kernel) rfl (Nat.le_of_ble_eq_true rfl) ?_
  show J _ _ _ [(0, Value.ref o), (1, Value.int p1)] _ _ _
  unfold X_Row_add
  refine j_aload_n (pc := 0) (q := 0) d_Row_add_0 rfl rfl ?_
  refine j_getI (pc := 1) d_Row_add_1 fl_Row_21 h_o (by decide) rfl ?_
  refine j_iload_n (pc := 4) (q := 1) d_Row_add_4 rfl rfl ?_
  refine j_iushr (pc := 5) d_Row_add_5 ?_
  refine j_iconst (pc := 6) d_Row_add_6 k_i_1 ?_
  refine j_iand (pc := 7) d_Row_add_7 ?_
  refine j_if_ne (pc := 8) (tgt := 44) d_Row_add_8 (by decide) (fun _ => ?_) (fun _ => ?_)
  · exact j_return (pc := 44) d_Row_add_44 rfl
  · refine j_aload_n (pc := 11) (q := 0) d_Row_add_11 rfl rfl ?_
    refine j_dup (pc := 12) d_Row_add_12 rfl ?_
    refine j_getL (pc := 13) d_Row_add_13 fl_Row_17 h_o (by decide) rfl ?_
    refine j_iload_n (pc := 16) (q := 1) d_Row_add_16 rfl rfl ?_
    refine j_i2l (pc := 17) d_Row_add_17 ?_
    refine j_iconst (pc := 18) d_Row_add_18 k_i_4 ?_
    refine j_aload_n (pc := 19) (q := 0) d_Row_add_19 rfl rfl ?_
    refine j_getI (pc := 20) d_Row_add_20 fl_Row_21 h_o (by decide) rfl ?_
    refine j_callS1 (pc := 23) d_Row_add_23 (C_Integer_bitCount n (M.1 o 1) M) cS_Row_9 cd_Integer_bitCount dn_Integer_bitCount rfl (by decide) (Nat.le_of_ble_eq_true rfl) (Nat.le_of_ble_eq_true rfl) nr_I (fun r1 M2 => ?_)
    refine j_imul (pc := 26) d_Row_add_26 ?_
    refine j_lshl (pc := 27) d_Row_add_27 ?_
    refine j_lor (pc := 28) d_Row_add_28 ?_
    refine j_putL (pc := 29) d_Row_add_29 fl_Row_17 rfl h_o (by decide) rfl ?_
    refine j_aload_n (pc := 32) (q := 0) d_Row_add_32 rfl rfl ?_
    refine j_dup (pc := 33) d_Row_add_33 rfl ?_
    refine j_nmM (fun N3 => ?_)
    refine j_getI (pc := 34) d_Row_add_34 fl_Row_21 h_o (by decide) rfl ?_
    refine j_iconst (pc := 37) d_Row_add_37 k_i_1 ?_
    refine j_iload_n (pc := 38) (q := 1) d_Row_add_38 rfl rfl ?_
    refine j_ishl (pc := 39) d_Row_add_39 ?_
    refine j_ior (pc := 40) d_Row_add_40 ?_
    refine j_putI (pc := 41) d_Row_add_41 fl_Row_21 rfl h_o (by decide) rfl ?_
    exact j_return (pc := 44) d_Row_add_44 rfl
-- Row.atRest ()J
def mt_Row_atRest : Mt := ("ShakeHands$Row", b_Row_atRest, 1, some .long, 2, SHx)
theorem d_Row_atRest_0 : decode b_Row_atRest 0 = .ok (.aload_n 0, 1) := by decide +kernel
theorem d_Row_atRest_1 : decode b_Row_atRest 1 = .ok (.getfield 17, 3) := by decide +kernel
theorem d_Row_atRest_4 : decode b_Row_atRest 4 = .ok (.ldc2_w 15, 3) := by decide +kernel
theorem d_Row_atRest_7 : decode b_Row_atRest 7 = .ok (.land, 1) := by decide +kernel
theorem d_Row_atRest_8 : decode b_Row_atRest 8 = .ok (.aload_n 0, 1) := by decide +kernel
theorem d_Row_atRest_9 : decode b_Row_atRest 9 = .ok (.getfield 21, 3) := by decide +kernel
theorem d_Row_atRest_12 : decode b_Row_atRest 12 = .ok (.i2l, 1) := by decide +kernel
theorem d_Row_atRest_13 : decode b_Row_atRest 13 = .ok (.bipush 36, 2) := by decide +kernel
theorem d_Row_atRest_15 : decode b_Row_atRest 15 = .ok (.lshl, 1) := by decide +kernel
theorem d_Row_atRest_16 : decode b_Row_atRest 16 = .ok (.lor, 1) := by decide +kernel
theorem d_Row_atRest_17 : decode b_Row_atRest 17 = .ok (.lreturn, 1) := by decide +kernel
def X_Row_atRest (n : Nat) (o : Nat) (M : Mem) : Option (Int64 × Mem) :=
  some ((((M.2 o 0) &&& 68719476735) ||| ((((M.1 o 1) : Int32).toInt64) <<< ((36 : Int32).toInt64 &&& 63))), M)
set_option maxRecDepth 20000 in
set_option maxHeartbeats 4000000 in
theorem C_Row_atRest (n : Nat) (o : Nat) (h_o : SHx[o]? = some (3, [1, 0]))  (M : Mem) : Ct y_Row_atRest mt_Row_atRest wL [Value.ref o] M (X_Row_atRest n o M) := by
  refine ct_of (by decide +kernel) rfl (Nat.le_of_ble_eq_true rfl) ?_
  show J _ _ _ [(0, Value.ref o)] _ _ _
  unfold X_Row_atRest
  refine j_aload_n (pc := 0) (q := 0) d_Row_atRest_0 rfl rfl ?_
  refine j_getL (pc := 1) d_Row_atRest_1 fl_Row_17 h_o (by decide) rfl ?_
  refine j_ldc2 (pc := 4) d_Row_atRest_4 cl_Row_15 ?_
  refine j_land (pc := 7) d_Row_atRest_7 ?_
  refine j_aload_n (pc := 8) (q := 0) d_Row_atRest_8 rfl rfl ?_
  refine j_getI (pc := 9) d_Row_atRest_9 fl_Row_21 h_o (by decide) rfl ?_
  refine j_i2l (pc := 12) d_Row_atRest_12 ?_
  refine j_bipush (pc := 13) d_Row_atRest_13 k_b_36 ?_
  refine j_lshl (pc := 15) d_Row_atRest_15 ?_
  refine j_lor (pc := 16) d_Row_atRest_16 ?_
  exact j_lreturn (pc := 17) d_Row_atRest_17 rfl
-- Row.knownOf (J)I
def mt_Row_knownOf : Mt := ("ShakeHands$Row", b_Row_knownOf, 2, some .int, 2, SHx)
theorem d_Row_knownOf_0 : decode b_Row_knownOf 0 = .ok (.lload_n 0, 1) := by decide +kernel
theorem d_Row_knownOf_1 : decode b_Row_knownOf 1 = .ok (.bipush 36, 2) := by decide +kernel
theorem d_Row_knownOf_3 : decode b_Row_knownOf 3 = .ok (.lushr, 1) := by decide +kernel
theorem d_Row_knownOf_4 : decode b_Row_knownOf 4 = .ok (.l2i, 1) := by decide +kernel
theorem d_Row_knownOf_5 : decode b_Row_knownOf 5 = .ok (.ireturn, 1) := by decide +kernel
def X_Row_knownOf (n : Nat) (p0 : Int64) (M : Mem) : Option (Int32 × Mem) :=
  some (((((p0.toUInt64 >>> ((36 : Int32).toInt64.toUInt64 &&& Int64.toUInt64 63)).toInt64) : Int64).toInt32), M)
set_option maxRecDepth 20000 in
set_option maxHeartbeats 4000000 in
theorem C_Row_knownOf (n : Nat)   (p0 : Int64) (M : Mem) : Ct y_Row_knownOf mt_Row_knownOf wI [Value.long p0] M (X_Row_knownOf n p0 M) := by
  refine ct_of (by decide +kernel) rfl (Nat.le_of_ble_eq_true rfl) ?_
  show J _ _ _ [(0, Value.long p0)] _ _ _
  unfold X_Row_knownOf
  refine j_lload_n (pc := 0) (q := 0) d_Row_knownOf_0 rfl rfl ?_
  refine j_bipush (pc := 1) d_Row_knownOf_1 k_b_36 ?_
  refine j_lushr (pc := 3) d_Row_knownOf_3 ?_
  refine j_l2i (pc := 4) d_Row_knownOf_4 ?_
  exact j_ireturn (pc := 5) d_Row_knownOf_5 rfl
-- Row.sizeOf (J)I
def mt_Row_sizeOf : Mt := ("ShakeHands$Row", b_Row_sizeOf, 2, some .int, 3, SHx)
theorem d_Row_sizeOf_0 : decode b_Row_sizeOf 0 = .ok (.lload_n 0, 1) := by decide +kernel
theorem d_Row_sizeOf_1 : decode b_Row_sizeOf 1 = .ok (.bipush 36, 2) := by decide +kernel
theorem d_Row_sizeOf_3 : decode b_Row_sizeOf 3 = .ok (.lushr, 1) := by decide +kernel
theorem d_Row_sizeOf_4 : decode b_Row_sizeOf 4 = .ok (.l2i, 1) := by decide +kernel
theorem d_Row_sizeOf_5 : decode b_Row_sizeOf 5 = .ok (.invokestatic 9, 3) := by decide +kernel
theorem d_Row_sizeOf_8 : decode b_Row_sizeOf 8 = .ok (.ireturn, 1) := by decide +kernel
def X_Row_sizeOf (n : Nat) (p0 : Int64) (M : Mem) : Option (Int32 × Mem) :=
  bd (X_Integer_bitCount n ((((p0.toUInt64 >>> ((36 : Int32).toInt64.toUInt64 &&& Int64.toUInt64 63)).toInt64) : Int64).toInt32) M) fun r1 M2 =>
  some (r1, M2)
set_option maxRecDepth 20000 in
set_option maxHeartbeats 4000000 in
theorem C_Row_sizeOf (n : Nat)   (p0 : Int64) (M : Mem) : Ct y_Row_sizeOf mt_Row_sizeOf wI [Value.long p0] M (X_Row_sizeOf n p0 M) := by
  refine ct_of (by decide +kernel) rfl (Nat.le_of_ble_eq_true rfl) ?_
  show J _ _ _ [(0, Value.long p0)] _ _ _
  unfold X_Row_sizeOf
  refine j_lload_n (pc := 0) (q := 0) d_Row_sizeOf_0 rfl rfl ?_
  refine j_bipush (pc := 1) d_Row_sizeOf_1 k_b_36 ?_
  refine j_lushr (pc := 3) d_Row_sizeOf_3 ?_
  refine j_l2i (pc := 4) d_Row_sizeOf_4 ?_
  refine j_callS1 (pc := 5) d_Row_sizeOf_5 (C_Integer_bitCount n ((((p0.toUInt64 >>> ((36 : Int32).toInt64.toUInt64 &&& Int64.toUInt64 63)).toInt64) : Int64).toInt32) M) cS_Row_9 cd_Integer_bitCount dn_Integer_bitCount rfl (by decide) (Nat.le_of_ble_eq_true rfl) (Nat.le_of_ble_eq_true rfl) nr_I (fun r1 M2 => ?_)
  exact j_ireturn (pc := 8) d_Row_sizeOf_8 rfl
-- Row.thingOf (JI)I
def mt_Row_thingOf : Mt := ("ShakeHands$Row", b_Row_thingOf, 3, some .int, 2, SHx)
theorem d_Row_thingOf_0 : decode b_Row_thingOf 0 = .ok (.lload_n 0, 1) := by decide +kernel
theorem d_Row_thingOf_1 : decode b_Row_thingOf 1 = .ok (.iconst 4, 1) := by decide +kernel
theorem d_Row_thingOf_2 : decode b_Row_thingOf 2 = .ok (.iload_n 2, 1) := by decide +kernel
theorem d_Row_thingOf_3 : decode b_Row_thingOf 3 = .ok (.imul, 1) := by decide +kernel
theorem d_Row_thingOf_4 : decode b_Row_thingOf 4 = .ok (.lushr, 1) := by decide +kernel
theorem d_Row_thingOf_5 : decode b_Row_thingOf 5 = .ok (.l2i, 1) := by decide +kernel
theorem d_Row_thingOf_6 : decode b_Row_thingOf 6 = .ok (.bipush 15, 2) := by decide +kernel
theorem d_Row_thingOf_8 : decode b_Row_thingOf 8 = .ok (.iand, 1) := by decide +kernel
theorem d_Row_thingOf_9 : decode b_Row_thingOf 9 = .ok (.ireturn, 1) := by decide +kernel
def X_Row_thingOf (n : Nat) (p0 : Int64) (p2 : Int32) (M : Mem) : Option (Int32 × Mem) :=
  some ((((((p0.toUInt64 >>> (((4 : Int32) * p2).toInt64.toUInt64 &&& Int64.toUInt64 63)).toInt64) : Int64).toInt32) &&& 15), M)
set_option maxRecDepth 20000 in
set_option maxHeartbeats 4000000 in
theorem C_Row_thingOf (n : Nat)   (p0 : Int64) (p2 : Int32) (M : Mem) : Ct y_Row_thingOf mt_Row_thingOf wI [Value.long p0, Value.int p2] M (X_Row_thingOf n p0 p2 M) := by
  refine ct_of (by decide +kernel) rfl (Nat.le_of_ble_eq_true rfl) ?_
  show J _ _ _ [(0, Value.long p0), (2, Value.int p2)] _ _ _
  unfold X_Row_thingOf
  refine j_lload_n (pc := 0) (q := 0) d_Row_thingOf_0 rfl rfl ?_
  refine j_iconst (pc := 1) d_Row_thingOf_1 k_i_4 ?_
  refine j_iload_n (pc := 2) (q := 1) d_Row_thingOf_2 rfl rfl ?_
  refine j_imul (pc := 3) d_Row_thingOf_3 ?_
  refine j_lushr (pc := 4) d_Row_thingOf_4 ?_
  refine j_l2i (pc := 5) d_Row_thingOf_5 ?_
  refine j_bipush (pc := 6) d_Row_thingOf_6 k_b_15 ?_
  refine j_iand (pc := 8) d_Row_thingOf_8 ?_
  exact j_ireturn (pc := 9) d_Row_thingOf_9 rfl
-- Row.knowsIt (JI)Z
def mt_Row_knowsIt : Mt := ("ShakeHands$Row", b_Row_knowsIt, 3, some .boolean, 2, SHx)
theorem d_Row_knowsIt_0 : decode b_Row_knowsIt 0 = .ok (.lload_n 0, 1) := by decide +kernel
theorem d_Row_knowsIt_1 : decode b_Row_knowsIt 1 = .ok (.bipush 36, 2) := by decide +kernel
theorem d_Row_knowsIt_3 : decode b_Row_knowsIt 3 = .ok (.iload_n 2, 1) := by decide +kernel
theorem d_Row_knowsIt_4 : decode b_Row_knowsIt 4 = .ok (.iadd, 1) := by decide +kernel
theorem d_Row_knowsIt_5 : decode b_Row_knowsIt 5 = .ok (.lushr, 1) := by decide +kernel
theorem d_Row_knowsIt_6 : decode b_Row_knowsIt 6 = .ok (.lconst 1, 1) := by decide +kernel
theorem d_Row_knowsIt_7 : decode b_Row_knowsIt 7 = .ok (.land, 1) := by decide +kernel
theorem d_Row_knowsIt_8 : decode b_Row_knowsIt 8 = .ok (.lconst 0, 1) := by decide +kernel
theorem d_Row_knowsIt_9 : decode b_Row_knowsIt 9 = .ok (.lcmp, 1) := by decide +kernel
theorem d_Row_knowsIt_10 : decode b_Row_knowsIt 10 = .ok (.ifCond .eq 7, 3) := by decide +kernel
theorem d_Row_knowsIt_13 : decode b_Row_knowsIt 13 = .ok (.iconst 1, 1) := by decide +kernel
theorem d_Row_knowsIt_14 : decode b_Row_knowsIt 14 = .ok (.goto 4, 3) := by decide +kernel
theorem d_Row_knowsIt_17 : decode b_Row_knowsIt 17 = .ok (.iconst 0, 1) := by decide +kernel
theorem d_Row_knowsIt_18 : decode b_Row_knowsIt 18 = .ok (.ireturn, 1) := by decide +kernel
def X_Row_knowsIt (n : Nat) (p0 : Int64) (p2 : Int32) (M : Mem) : Option (Int32 × Mem) :=
  (if (lg_cmp (((p0.toUInt64 >>> (((36 : Int32) + p2).toInt64.toUInt64 &&& Int64.toUInt64 63)).toInt64) &&& 1) 0) = 0 then
    some (0, M)
    else
    some (1, M))
set_option maxRecDepth 20000 in
set_option maxHeartbeats 4000000 in
theorem C_Row_knowsIt (n : Nat)   (p0 : Int64) (p2 : Int32) (M : Mem) : Ct y_Row_knowsIt mt_Row_knowsIt wI [Value.long p0, Value.int p2] M (X_Row_knowsIt n p0 p2 M) := by
  refine ct_of (by decide +kernel) rfl (Nat.le_of_ble_eq_true rfl) ?_
  show J _ _ _ [(0, Value.long p0), (2, Value.int p2)] _ _ _
  unfold X_Row_knowsIt
  refine j_lload_n (pc := 0) (q := 0) d_Row_knowsIt_0 rfl rfl ?_
  refine j_bipush (pc := 1) d_Row_knowsIt_1 k_b_36 ?_
  refine j_iload_n (pc := 3) (q := 1) d_Row_knowsIt_3 rfl rfl ?_
  refine j_iadd (pc := 4) d_Row_knowsIt_4 ?_
  refine j_lushr (pc := 5) d_Row_knowsIt_5 ?_
  refine j_lconst (pc := 6) d_Row_knowsIt_6 k_l_1 ?_
  refine j_land (pc := 7) d_Row_knowsIt_7 ?_
  refine j_lconst (pc := 8) d_Row_knowsIt_8 k_l_0 ?_
  refine j_lcmp (pc := 9) d_Row_knowsIt_9 ?_
  refine j_if_eq (pc := 10) (tgt := 17) d_Row_knowsIt_10 (by decide) (fun _ => ?_) (fun _ => ?_)
  · refine j_iconst (pc := 17) d_Row_knowsIt_17 k_i_0 ?_
    exact j_zreturn (pc := 18) d_Row_knowsIt_18 rfl rfl
  · refine j_iconst (pc := 13) d_Row_knowsIt_13 k_i_1 ?_
    refine j_goto (pc := 14) (tgt := 18) d_Row_knowsIt_14 (by decide) ?_
    exact j_zreturn (pc := 18) d_Row_knowsIt_18 rfl rfl
-- Row.drop (I)V
def mt_Row_drop : Mt := ("ShakeHands$Row", b_Row_drop, 6, none, 3, SHx)
theorem d_Row_drop_0 : decode b_Row_drop 0 = .ok (.aload_n 0, 1) := by decide +kernel
theorem d_Row_drop_1 : decode b_Row_drop 1 = .ok (.getfield 21, 3) := by decide +kernel
theorem d_Row_drop_4 : decode b_Row_drop 4 = .ok (.invokestatic 9, 3) := by decide +kernel
theorem d_Row_drop_7 : decode b_Row_drop 7 = .ok (.istore_n 2, 1) := by decide +kernel
theorem d_Row_drop_8 : decode b_Row_drop 8 = .ok (.iconst 0, 1) := by decide +kernel
theorem d_Row_drop_9 : decode b_Row_drop 9 = .ok (.istore_n 3, 1) := by decide +kernel
theorem d_Row_drop_10 : decode b_Row_drop 10 = .ok (.iload_n 3, 1) := by decide +kernel
theorem d_Row_drop_11 : decode b_Row_drop 11 = .ok (.iload_n 2, 1) := by decide +kernel
theorem d_Row_drop_12 : decode b_Row_drop 12 = .ok (.if_icmp .ge 77, 3) := by decide +kernel
theorem d_Row_drop_15 : decode b_Row_drop 15 = .ok (.aload_n 0, 1) := by decide +kernel
theorem d_Row_drop_16 : decode b_Row_drop 16 = .ok (.getfield 17, 3) := by decide +kernel
theorem d_Row_drop_19 : decode b_Row_drop 19 = .ok (.iconst 4, 1) := by decide +kernel
theorem d_Row_drop_20 : decode b_Row_drop 20 = .ok (.iload_n 3, 1) := by decide +kernel
theorem d_Row_drop_21 : decode b_Row_drop 21 = .ok (.imul, 1) := by decide +kernel
theorem d_Row_drop_22 : decode b_Row_drop 22 = .ok (.lushr, 1) := by decide +kernel
theorem d_Row_drop_23 : decode b_Row_drop 23 = .ok (.ldc2_w 29, 3) := by decide +kernel
theorem d_Row_drop_26 : decode b_Row_drop 26 = .ok (.land, 1) := by decide +kernel
theorem d_Row_drop_27 : decode b_Row_drop 27 = .ok (.iload_n 1, 1) := by decide +kernel
theorem d_Row_drop_28 : decode b_Row_drop 28 = .ok (.i2l, 1) := by decide +kernel
theorem d_Row_drop_29 : decode b_Row_drop 29 = .ok (.lcmp, 1) := by decide +kernel
theorem d_Row_drop_30 : decode b_Row_drop 30 = .ok (.ifCond .ne 53, 3) := by decide +kernel
theorem d_Row_drop_33 : decode b_Row_drop 33 = .ok (.aload_n 0, 1) := by decide +kernel
theorem d_Row_drop_34 : decode b_Row_drop 34 = .ok (.getfield 17, 3) := by decide +kernel
theorem d_Row_drop_37 : decode b_Row_drop 37 = .ok (.lconst 1, 1) := by decide +kernel
theorem d_Row_drop_38 : decode b_Row_drop 38 = .ok (.iconst 4, 1) := by decide +kernel
theorem d_Row_drop_39 : decode b_Row_drop 39 = .ok (.iload_n 3, 1) := by decide +kernel
theorem d_Row_drop_40 : decode b_Row_drop 40 = .ok (.imul, 1) := by decide +kernel
theorem d_Row_drop_41 : decode b_Row_drop 41 = .ok (.lshl, 1) := by decide +kernel
theorem d_Row_drop_42 : decode b_Row_drop 42 = .ok (.lconst 1, 1) := by decide +kernel
theorem d_Row_drop_43 : decode b_Row_drop 43 = .ok (.lsub, 1) := by decide +kernel
theorem d_Row_drop_44 : decode b_Row_drop 44 = .ok (.land, 1) := by decide +kernel
theorem d_Row_drop_45 : decode b_Row_drop 45 = .ok (.lstore 4, 2) := by decide +kernel
theorem d_Row_drop_47 : decode b_Row_drop 47 = .ok (.aload_n 0, 1) := by decide +kernel
theorem d_Row_drop_48 : decode b_Row_drop 48 = .ok (.aload_n 0, 1) := by decide +kernel
theorem d_Row_drop_49 : decode b_Row_drop 49 = .ok (.getfield 17, 3) := by decide +kernel
theorem d_Row_drop_52 : decode b_Row_drop 52 = .ok (.iconst 4, 1) := by decide +kernel
theorem d_Row_drop_53 : decode b_Row_drop 53 = .ok (.iload_n 3, 1) := by decide +kernel
theorem d_Row_drop_54 : decode b_Row_drop 54 = .ok (.imul, 1) := by decide +kernel
theorem d_Row_drop_55 : decode b_Row_drop 55 = .ok (.lushr, 1) := by decide +kernel
theorem d_Row_drop_56 : decode b_Row_drop 56 = .ok (.iconst 4, 1) := by decide +kernel
theorem d_Row_drop_57 : decode b_Row_drop 57 = .ok (.lushr, 1) := by decide +kernel
theorem d_Row_drop_58 : decode b_Row_drop 58 = .ok (.iconst 4, 1) := by decide +kernel
theorem d_Row_drop_59 : decode b_Row_drop 59 = .ok (.iload_n 3, 1) := by decide +kernel
theorem d_Row_drop_60 : decode b_Row_drop 60 = .ok (.imul, 1) := by decide +kernel
theorem d_Row_drop_61 : decode b_Row_drop 61 = .ok (.lshl, 1) := by decide +kernel
theorem d_Row_drop_62 : decode b_Row_drop 62 = .ok (.lload 4, 2) := by decide +kernel
theorem d_Row_drop_64 : decode b_Row_drop 64 = .ok (.lor, 1) := by decide +kernel
theorem d_Row_drop_65 : decode b_Row_drop 65 = .ok (.putfield 17, 3) := by decide +kernel
theorem d_Row_drop_68 : decode b_Row_drop 68 = .ok (.aload_n 0, 1) := by decide +kernel
theorem d_Row_drop_69 : decode b_Row_drop 69 = .ok (.dup, 1) := by decide +kernel
theorem d_Row_drop_70 : decode b_Row_drop 70 = .ok (.getfield 21, 3) := by decide +kernel
theorem d_Row_drop_73 : decode b_Row_drop 73 = .ok (.iconst 1, 1) := by decide +kernel
theorem d_Row_drop_74 : decode b_Row_drop 74 = .ok (.iload_n 1, 1) := by decide +kernel
theorem d_Row_drop_75 : decode b_Row_drop 75 = .ok (.ishl, 1) := by decide +kernel
theorem d_Row_drop_76 : decode b_Row_drop 76 = .ok (.iconst (-1), 1) := by decide +kernel
theorem d_Row_drop_77 : decode b_Row_drop 77 = .ok (.ixor, 1) := by decide +kernel
theorem d_Row_drop_78 : decode b_Row_drop 78 = .ok (.iand, 1) := by decide +kernel
theorem d_Row_drop_79 : decode b_Row_drop 79 = .ok (.putfield 21, 3) := by decide +kernel
theorem d_Row_drop_82 : decode b_Row_drop 82 = .ok (.return_, 1) := by decide +kernel
theorem d_Row_drop_83 : decode b_Row_drop 83 = .ok (.iinc 3 1, 3) := by decide +kernel
theorem d_Row_drop_86 : decode b_Row_drop 86 = .ok (.goto (-76), 3) := by decide +kernel
theorem d_Row_drop_89 : decode b_Row_drop 89 = .ok (.return_, 1) := by decide +kernel
def X_Row_drop_L10 (n : Nat) (o : Nat) (a1 : Int32) (a2 : Int32) (kx33 : Int32 → Option (Unit × Mem)) (M : Mem) : Nat → Int32 → Option (Unit × Mem)
    | 0, _ => none
    | m + 1, v3 => (if a2 ≤ v3 then
    some ((), M)
    else
    (if (lg_cmp ((((M.2 o 0).toUInt64 >>> (((4 : Int32) * v3).toInt64.toUInt64 &&& Int64.toUInt64 63)).toInt64) &&& 15) (a1.toInt64)) = 0 then
      kx33 v3
      else
      X_Row_drop_L10 n o a1 a2 kx33 M m (v3 + 1)))
def X_Row_drop (n : Nat) (o : Nat) (p1 : Int32) (M : Mem) : Option (Unit × Mem) :=
  bd (X_Integer_bitCount n (M.1 o 1) M) fun r1 M2 =>
  X_Row_drop_L10 n o p1 r1 (fun y3 => nm ((M2.2 o 0) &&& (((1 : Int64) <<< (((4 : Int32) * y3).toInt64 &&& 63)) - 1)) fun x4 =>
    nm (sl M2 o 0 (((((((M2.2 o 0).toUInt64 >>> (((4 : Int32) * y3).toInt64.toUInt64 &&& Int64.toUInt64 63)).toInt64).toUInt64 >>> ((4 : Int32).toInt64.toUInt64 &&& Int64.toUInt64 63)).toInt64) <<< (((4 : Int32) * y3).toInt64 &&& 63)) ||| x4)) fun N5 =>
    some ((), si N5 o 1 ((N5.1 o 1) &&& (((1 : Int32) <<< (p1 &&& 31)) ^^^ (-1))))) M2 n 0
set_option maxRecDepth 20000 in
set_option maxHeartbeats 4000000 in
theorem X_Row_drop_L10_ok {n : Nat} {o : Nat} {a1 : Int32} {a2 : Int32} (h_o : SHx[o]? = some (3, [1, 0])) {kx33 : Int32 → Option (Unit × Mem)} {M : Mem} (hkx33 : ∀ (w3 : Int32), J (mt_Row_drop) wU 33 [(0, Value.ref o), (1, Value.int a1), (3, Value.int w3)] [] M (kx33 w3)) : ∀ (m : Nat) (v3 : Int32), J (mt_Row_drop) wU 10 [(0, Value.ref o), (1, Value.int a1), (2, Value.int a2), (3, Value.int v3)] [] M (X_Row_drop_L10 n o a1 a2 kx33 M m v3) := by
  intro m
  induction m with
  | zero => intro _; exact j_none
  | succ m ih =>
    intro v3
    show J _ _ _ _ _ _ ((if a2 ≤ v3 then
some ((), M)
else
(if (lg_cmp ((((M.2 o 0).toUInt64 >>> (((4 : Int32) * v3).toInt64.toUInt64 &&& Int64.toUInt64 63)).toInt64) &&& 15) (a1.toInt64)) = 0 then
kx33 v3
else
X_Row_drop_L10 n o a1 a2 kx33 M m (v3 + 1))))
    refine j_iload_n (pc := 10) (q := 3) d_Row_drop_10 rfl rfl ?_
    refine j_iload_n (pc := 11) (q := 2) d_Row_drop_11 rfl rfl ?_
    refine j_icmp_ge (pc := 12) (tgt := 89) d_Row_drop_12 (by decide) (fun _ => ?_) (fun _ => ?_)
    · exact j_return (pc := 89) d_Row_drop_89 rfl
    · refine j_aload_n (pc := 15) (q := 0) d_Row_drop_15 rfl rfl ?_
      refine j_getL (pc := 16) d_Row_drop_16 fl_Row_17 h_o (by decide) rfl ?_
      refine j_iconst (pc := 19) d_Row_drop_19 k_i_4 ?_
      refine j_iload_n (pc := 20) (q := 3) d_Row_drop_20 rfl rfl ?_
      refine j_imul (pc := 21) d_Row_drop_21 ?_
      refine j_lushr (pc := 22) d_Row_drop_22 ?_
      refine j_ldc2 (pc := 23) d_Row_drop_23 cl_Row_29 ?_
      refine j_land (pc := 26) d_Row_drop_26 ?_
      refine j_iload_n (pc := 27) (q := 1) d_Row_drop_27 rfl rfl ?_
      refine j_i2l (pc := 28) d_Row_drop_28 ?_
      refine j_lcmp (pc := 29) d_Row_drop_29 ?_
      refine j_if_ne (pc := 30) (tgt := 83) d_Row_drop_30 (by decide) (fun _ => ?_) (fun _ => ?_)
      · refine j_iinc (pc := 83) (q := 3) d_Row_drop_83 rfl (congrArg (v3 + ·) k_i_1) (by decide) rfl ?_
        refine j_goto (pc := 86) (tgt := 10) d_Row_drop_86 (by decide) ?_
        refine j_lv [1, 2, 3, 0] rfl ?_
        exact ih (v3 + 1)
      · refine j_lv [0, 1, 3] rfl ?_
        exact hkx33 v3
set_option maxRecDepth 20000 in
set_option maxHeartbeats 4000000 in
theorem C_Row_drop (n : Nat) (o : Nat) (h_o : SHx[o]? = some (3, [1, 0])) (p1 : Int32) (M : Mem) : Ct y_Row_drop mt_Row_drop wU [Value.ref o, Value.int p1] M (X_Row_drop n o p1 M) := by
  refine ct_of (by decide +kernel) rfl (Nat.le_of_ble_eq_true rfl) ?_
  show J _ _ _ [(0, Value.ref o), (1, Value.int p1)] _ _ _
  unfold X_Row_drop
  refine j_aload_n (pc := 0) (q := 0) d_Row_drop_0 rfl rfl ?_
  refine j_getI (pc := 1) d_Row_drop_1 fl_Row_21 h_o (by decide) rfl ?_
  refine j_callS1 (pc := 4) d_Row_drop_4 (C_Integer_bitCount n (M.1 o 1) M) cS_Row_9 cd_Integer_bitCount dn_Integer_bitCount rfl (by decide) (Nat.le_of_ble_eq_true rfl) (Nat.le_of_ble_eq_true rfl) nr_I (fun r1 M2 => ?_)
  refine j_istore_n (pc := 7) d_Row_drop_7 rfl (by decide) rfl ?_
  refine j_iconst (pc := 8) d_Row_drop_8 k_i_0 ?_
  refine j_istore_n (pc := 9) d_Row_drop_9 rfl (by decide) rfl ?_
  refine j_lv [2, 3, 1, 0] rfl ?_
  refine X_Row_drop_L10_ok h_o (fun y3 => ?_) n 0
  refine j_aload_n (pc := 33) (q := 0) d_Row_drop_33 rfl rfl ?_
  refine j_getL (pc := 34) d_Row_drop_34 fl_Row_17 h_o (by decide) rfl ?_
  refine j_lconst (pc := 37) d_Row_drop_37 k_l_1 ?_
  refine j_iconst (pc := 38) d_Row_drop_38 k_i_4 ?_
  refine j_iload_n (pc := 39) (q := 2) d_Row_drop_39 rfl rfl ?_
  refine j_imul (pc := 40) d_Row_drop_40 ?_
  refine j_lshl (pc := 41) d_Row_drop_41 ?_
  refine j_lconst (pc := 42) d_Row_drop_42 k_l_1 ?_
  refine j_lsub (pc := 43) d_Row_drop_43 ?_
  refine j_land (pc := 44) d_Row_drop_44 ?_
  refine j_nml (fun x4 => ?_)
  refine j_lstore (pc := 45) d_Row_drop_45 (by decide) rfl ?_
  refine j_aload_n (pc := 47) (q := 1) d_Row_drop_47 rfl rfl ?_
  refine j_aload_n (pc := 48) (q := 1) d_Row_drop_48 rfl rfl ?_
  refine j_getL (pc := 49) d_Row_drop_49 fl_Row_17 h_o (by decide) rfl ?_
  refine j_iconst (pc := 52) d_Row_drop_52 k_i_4 ?_
  refine j_iload_n (pc := 53) (q := 3) d_Row_drop_53 rfl rfl ?_
  refine j_imul (pc := 54) d_Row_drop_54 ?_
  refine j_lushr (pc := 55) d_Row_drop_55 ?_
  refine j_iconst (pc := 56) d_Row_drop_56 k_i_4 ?_
  refine j_lushr (pc := 57) d_Row_drop_57 ?_
  refine j_iconst (pc := 58) d_Row_drop_58 k_i_4 ?_
  refine j_iload_n (pc := 59) (q := 3) d_Row_drop_59 rfl rfl ?_
  refine j_imul (pc := 60) d_Row_drop_60 ?_
  refine j_lshl (pc := 61) d_Row_drop_61 ?_
  refine j_lload (pc := 62) (q := 0) d_Row_drop_62 rfl ?_
  refine j_lor (pc := 64) d_Row_drop_64 ?_
  refine j_putL (pc := 65) d_Row_drop_65 fl_Row_17 rfl h_o (by decide) rfl ?_
  refine j_aload_n (pc := 68) (q := 1) d_Row_drop_68 rfl rfl ?_
  refine j_dup (pc := 69) d_Row_drop_69 rfl ?_
  refine j_nmM (fun N5 => ?_)
  refine j_getI (pc := 70) d_Row_drop_70 fl_Row_21 h_o (by decide) rfl ?_
  refine j_iconst (pc := 73) d_Row_drop_73 k_i_1 ?_
  refine j_iload_n (pc := 74) (q := 2) d_Row_drop_74 rfl rfl ?_
  refine j_ishl (pc := 75) d_Row_drop_75 ?_
  refine j_iconst (pc := 76) d_Row_drop_76 k_i_m1 ?_
  refine j_ixor (pc := 77) d_Row_drop_77 ?_
  refine j_iand (pc := 78) d_Row_drop_78 ?_
  refine j_putI (pc := 79) d_Row_drop_79 fl_Row_21 rfl h_o (by decide) rfl ?_
  exact j_return (pc := 82) d_Row_drop_82 rfl
-- Row.shorten (I)V
def mt_Row_shorten : Mt := ("ShakeHands$Row", b_Row_shorten, 3, none, 3, SHx)
theorem d_Row_shorten_0 : decode b_Row_shorten 0 = .ok (.aload_n 0, 1) := by decide +kernel
theorem d_Row_shorten_1 : decode b_Row_shorten 1 = .ok (.getfield 21, 3) := by decide +kernel
theorem d_Row_shorten_4 : decode b_Row_shorten 4 = .ok (.invokestatic 9, 3) := by decide +kernel
theorem d_Row_shorten_7 : decode b_Row_shorten 7 = .ok (.iload_n 1, 1) := by decide +kernel
theorem d_Row_shorten_8 : decode b_Row_shorten 8 = .ok (.isub, 1) := by decide +kernel
theorem d_Row_shorten_9 : decode b_Row_shorten 9 = .ok (.istore_n 2, 1) := by decide +kernel
theorem d_Row_shorten_10 : decode b_Row_shorten 10 = .ok (.iload_n 2, 1) := by decide +kernel
theorem d_Row_shorten_11 : decode b_Row_shorten 11 = .ok (.ifCond .le 41, 3) := by decide +kernel
theorem d_Row_shorten_14 : decode b_Row_shorten 14 = .ok (.aload_n 0, 1) := by decide +kernel
theorem d_Row_shorten_15 : decode b_Row_shorten 15 = .ok (.dup, 1) := by decide +kernel
theorem d_Row_shorten_16 : decode b_Row_shorten 16 = .ok (.getfield 21, 3) := by decide +kernel
theorem d_Row_shorten_19 : decode b_Row_shorten 19 = .ok (.iconst 1, 1) := by decide +kernel
theorem d_Row_shorten_20 : decode b_Row_shorten 20 = .ok (.aload_n 0, 1) := by decide +kernel
theorem d_Row_shorten_21 : decode b_Row_shorten 21 = .ok (.getfield 17, 3) := by decide +kernel
theorem d_Row_shorten_24 : decode b_Row_shorten 24 = .ok (.ldc2_w 29, 3) := by decide +kernel
theorem d_Row_shorten_27 : decode b_Row_shorten 27 = .ok (.land, 1) := by decide +kernel
theorem d_Row_shorten_28 : decode b_Row_shorten 28 = .ok (.l2i, 1) := by decide +kernel
theorem d_Row_shorten_29 : decode b_Row_shorten 29 = .ok (.ishl, 1) := by decide +kernel
theorem d_Row_shorten_30 : decode b_Row_shorten 30 = .ok (.iconst (-1), 1) := by decide +kernel
theorem d_Row_shorten_31 : decode b_Row_shorten 31 = .ok (.ixor, 1) := by decide +kernel
theorem d_Row_shorten_32 : decode b_Row_shorten 32 = .ok (.iand, 1) := by decide +kernel
theorem d_Row_shorten_33 : decode b_Row_shorten 33 = .ok (.putfield 21, 3) := by decide +kernel
theorem d_Row_shorten_36 : decode b_Row_shorten 36 = .ok (.aload_n 0, 1) := by decide +kernel
theorem d_Row_shorten_37 : decode b_Row_shorten 37 = .ok (.dup, 1) := by decide +kernel
theorem d_Row_shorten_38 : decode b_Row_shorten 38 = .ok (.getfield 17, 3) := by decide +kernel
theorem d_Row_shorten_41 : decode b_Row_shorten 41 = .ok (.iconst 4, 1) := by decide +kernel
theorem d_Row_shorten_42 : decode b_Row_shorten 42 = .ok (.lushr, 1) := by decide +kernel
theorem d_Row_shorten_43 : decode b_Row_shorten 43 = .ok (.putfield 17, 3) := by decide +kernel
theorem d_Row_shorten_46 : decode b_Row_shorten 46 = .ok (.iinc 2 (-1), 3) := by decide +kernel
theorem d_Row_shorten_49 : decode b_Row_shorten 49 = .ok (.goto (-39), 3) := by decide +kernel
theorem d_Row_shorten_52 : decode b_Row_shorten 52 = .ok (.return_, 1) := by decide +kernel
def X_Row_shorten_L10 (n : Nat) (o : Nat) : Nat → Int32 → Mem → Option (Unit × Mem)
    | 0, _, _ => none
    | m + 1, v2, M => (if v2 ≤ 0 then
    some ((), M)
    else
    nm (si M o 1 ((M.1 o 1) &&& (((1 : Int32) <<< (((((M.2 o 0) &&& 15) : Int64).toInt32) &&& 31)) ^^^ (-1)))) fun N4 =>
    X_Row_shorten_L10 n o m (v2 + (-1)) (sl N4 o 0 (((N4.2 o 0).toUInt64 >>> ((4 : Int32).toInt64.toUInt64 &&& Int64.toUInt64 63)).toInt64)))
def X_Row_shorten (n : Nat) (o : Nat) (p1 : Int32) (M : Mem) : Option (Unit × Mem) :=
  bd (X_Integer_bitCount n (M.1 o 1) M) fun r1 M2 =>
  nm (r1 - p1) fun x3 =>
  X_Row_shorten_L10 n o n x3 M2
set_option maxRecDepth 20000 in
set_option maxHeartbeats 4000000 in
theorem X_Row_shorten_L10_ok {n : Nat} {o : Nat} (h_o : SHx[o]? = some (3, [1, 0])) : ∀ (m : Nat) (v2 : Int32) (M : Mem), J (mt_Row_shorten) wU 10 [(0, Value.ref o), (2, Value.int v2)] [] M (X_Row_shorten_L10 n o m v2 M) := by
  intro m
  induction m with
  | zero => intro _ _; exact j_none
  | succ m ih =>
    intro v2 M
    show J _ _ _ _ _ _ ((if v2 ≤ 0 then
some ((), M)
else
nm (si M o 1 ((M.1 o 1) &&& (((1 : Int32) <<< (((((M.2 o 0) &&& 15) : Int64).toInt32) &&& 31)) ^^^ (-1)))) fun N4 =>
X_Row_shorten_L10 n o m (v2 + (-1)) (sl N4 o 0 (((N4.2 o 0).toUInt64 >>> ((4 : Int32).toInt64.toUInt64 &&& Int64.toUInt64 63)).toInt64))))
    refine j_iload_n (pc := 10) (q := 1) d_Row_shorten_10 rfl rfl ?_
    refine j_if_le (pc := 11) (tgt := 52) d_Row_shorten_11 (by decide) (fun _ => ?_) (fun _ => ?_)
    · exact j_return (pc := 52) d_Row_shorten_52 rfl
    · refine j_aload_n (pc := 14) (q := 0) d_Row_shorten_14 rfl rfl ?_
      refine j_dup (pc := 15) d_Row_shorten_15 rfl ?_
      refine j_getI (pc := 16) d_Row_shorten_16 fl_Row_21 h_o (by decide) rfl ?_
      refine j_iconst (pc := 19) d_Row_shorten_19 k_i_1 ?_
      refine j_aload_n (pc := 20) (q := 0) d_Row_shorten_20 rfl rfl ?_
      refine j_getL (pc := 21) d_Row_shorten_21 fl_Row_17 h_o (by decide) rfl ?_
      refine j_ldc2 (pc := 24) d_Row_shorten_24 cl_Row_29 ?_
      refine j_land (pc := 27) d_Row_shorten_27 ?_
      refine j_l2i (pc := 28) d_Row_shorten_28 ?_
      refine j_ishl (pc := 29) d_Row_shorten_29 ?_
      refine j_iconst (pc := 30) d_Row_shorten_30 k_i_m1 ?_
      refine j_ixor (pc := 31) d_Row_shorten_31 ?_
      refine j_iand (pc := 32) d_Row_shorten_32 ?_
      refine j_putI (pc := 33) d_Row_shorten_33 fl_Row_21 rfl h_o (by decide) rfl ?_
      refine j_aload_n (pc := 36) (q := 0) d_Row_shorten_36 rfl rfl ?_
      refine j_dup (pc := 37) d_Row_shorten_37 rfl ?_
      refine j_nmM (fun N4 => ?_)
      refine j_getL (pc := 38) d_Row_shorten_38 fl_Row_17 h_o (by decide) rfl ?_
      refine j_iconst (pc := 41) d_Row_shorten_41 k_i_4 ?_
      refine j_lushr (pc := 42) d_Row_shorten_42 ?_
      refine j_putL (pc := 43) d_Row_shorten_43 fl_Row_17 rfl h_o (by decide) rfl ?_
      refine j_iinc (pc := 46) (q := 1) d_Row_shorten_46 rfl (congrArg (v2 + ·) k_i_m1) (by decide) rfl ?_
      refine j_goto (pc := 49) (tgt := 10) d_Row_shorten_49 (by decide) ?_
      refine j_lv [1, 0] rfl ?_
      exact ih (v2 + (-1)) (sl N4 o 0 (((N4.2 o 0).toUInt64 >>> ((4 : Int32).toInt64.toUInt64 &&& Int64.toUInt64 63)).toInt64))
set_option maxRecDepth 20000 in
set_option maxHeartbeats 4000000 in
theorem C_Row_shorten (n : Nat) (o : Nat) (h_o : SHx[o]? = some (3, [1, 0])) (p1 : Int32) (M : Mem) : Ct y_Row_shorten mt_Row_shorten wU [Value.ref o, Value.int p1] M (X_Row_shorten n o p1 M) := by
  refine ct_of (by decide +kernel) rfl (Nat.le_of_ble_eq_true rfl) ?_
  show J _ _ _ [(0, Value.ref o), (1, Value.int p1)] _ _ _
  unfold X_Row_shorten
  refine j_aload_n (pc := 0) (q := 0) d_Row_shorten_0 rfl rfl ?_
  refine j_getI (pc := 1) d_Row_shorten_1 fl_Row_21 h_o (by decide) rfl ?_
  refine j_callS1 (pc := 4) d_Row_shorten_4 (C_Integer_bitCount n (M.1 o 1) M) cS_Row_9 cd_Integer_bitCount dn_Integer_bitCount rfl (by decide) (Nat.le_of_ble_eq_true rfl) (Nat.le_of_ble_eq_true rfl) nr_I (fun r1 M2 => ?_)
  refine j_iload_n (pc := 7) (q := 1) d_Row_shorten_7 rfl rfl ?_
  refine j_isub (pc := 8) d_Row_shorten_8 ?_
  refine j_nmi (fun x3 => ?_)
  refine j_istore_n (pc := 9) d_Row_shorten_9 rfl (by decide) rfl ?_
  refine j_lv [1, 0] rfl ?_
  exact X_Row_shorten_L10_ok h_o  n x3 M2
-- Row.addAll (J)V
def mt_Row_addAll : Mt := ("ShakeHands$Row", b_Row_addAll, 5, none, 4, SHx)
theorem d_Row_addAll_0 : decode b_Row_addAll 0 = .ok (.lload_n 1, 1) := by decide +kernel
theorem d_Row_addAll_1 : decode b_Row_addAll 1 = .ok (.bipush 36, 2) := by decide +kernel
theorem d_Row_addAll_3 : decode b_Row_addAll 3 = .ok (.lushr, 1) := by decide +kernel
theorem d_Row_addAll_4 : decode b_Row_addAll 4 = .ok (.l2i, 1) := by decide +kernel
theorem d_Row_addAll_5 : decode b_Row_addAll 5 = .ok (.invokestatic 9, 3) := by decide +kernel
theorem d_Row_addAll_8 : decode b_Row_addAll 8 = .ok (.istore_n 3, 1) := by decide +kernel
theorem d_Row_addAll_9 : decode b_Row_addAll 9 = .ok (.iconst 0, 1) := by decide +kernel
theorem d_Row_addAll_10 : decode b_Row_addAll 10 = .ok (.istore 4, 2) := by decide +kernel
theorem d_Row_addAll_12 : decode b_Row_addAll 12 = .ok (.iload 4, 2) := by decide +kernel
theorem d_Row_addAll_14 : decode b_Row_addAll 14 = .ok (.iload_n 3, 1) := by decide +kernel
theorem d_Row_addAll_15 : decode b_Row_addAll 15 = .ok (.if_icmp .ge 23, 3) := by decide +kernel
theorem d_Row_addAll_18 : decode b_Row_addAll 18 = .ok (.aload_n 0, 1) := by decide +kernel
theorem d_Row_addAll_19 : decode b_Row_addAll 19 = .ok (.lload_n 1, 1) := by decide +kernel
theorem d_Row_addAll_20 : decode b_Row_addAll 20 = .ok (.iconst 4, 1) := by decide +kernel
theorem d_Row_addAll_21 : decode b_Row_addAll 21 = .ok (.iload 4, 2) := by decide +kernel
theorem d_Row_addAll_23 : decode b_Row_addAll 23 = .ok (.imul, 1) := by decide +kernel
theorem d_Row_addAll_24 : decode b_Row_addAll 24 = .ok (.lushr, 1) := by decide +kernel
theorem d_Row_addAll_25 : decode b_Row_addAll 25 = .ok (.l2i, 1) := by decide +kernel
theorem d_Row_addAll_26 : decode b_Row_addAll 26 = .ok (.bipush 15, 2) := by decide +kernel
theorem d_Row_addAll_28 : decode b_Row_addAll 28 = .ok (.iand, 1) := by decide +kernel
theorem d_Row_addAll_29 : decode b_Row_addAll 29 = .ok (.invokevirtual 25, 3) := by decide +kernel
theorem d_Row_addAll_32 : decode b_Row_addAll 32 = .ok (.iinc 4 1, 3) := by decide +kernel
theorem d_Row_addAll_35 : decode b_Row_addAll 35 = .ok (.goto (-23), 3) := by decide +kernel
theorem d_Row_addAll_38 : decode b_Row_addAll 38 = .ok (.return_, 1) := by decide +kernel
def X_Row_addAll_L12 (n : Nat) (o : Nat) (a1 : Int64) (a3 : Int32) : Nat → Int32 → Mem → Option (Unit × Mem)
    | 0, _, _ => none
    | m + 1, v4, M => (if a3 ≤ v4 then
    some ((), M)
    else
    bd (X_Row_add n o (((((a1.toUInt64 >>> (((4 : Int32) * v4).toInt64.toUInt64 &&& Int64.toUInt64 63)).toInt64) : Int64).toInt32) &&& 15) M) fun _ M4 =>
    X_Row_addAll_L12 n o a1 a3 m (v4 + 1) M4)
def X_Row_addAll (n : Nat) (o : Nat) (p1 : Int64) (M : Mem) : Option (Unit × Mem) :=
  bd (X_Integer_bitCount n ((((p1.toUInt64 >>> ((36 : Int32).toInt64.toUInt64 &&& Int64.toUInt64 63)).toInt64) : Int64).toInt32) M) fun r1 M2 =>
  X_Row_addAll_L12 n o p1 r1 n 0 M2
set_option maxRecDepth 20000 in
set_option maxHeartbeats 4000000 in
theorem X_Row_addAll_L12_ok {n : Nat} {o : Nat} {a1 : Int64} {a3 : Int32} (h_o : SHx[o]? = some (3, [1, 0])) : ∀ (m : Nat) (v4 : Int32) (M : Mem), J (mt_Row_addAll) wU 12 [(0, Value.ref o), (1, Value.long a1), (3, Value.int a3), (4, Value.int v4)] [] M (X_Row_addAll_L12 n o a1 a3 m v4 M) := by
  intro m
  induction m with
  | zero => intro _ _; exact j_none
  | succ m ih =>
    intro v4 M
    show J _ _ _ _ _ _ ((if a3 ≤ v4 then
some ((), M)
else
bd (X_Row_add n o (((((a1.toUInt64 >>> (((4 : Int32) * v4).toInt64.toUInt64 &&& Int64.toUInt64 63)).toInt64) : Int64).toInt32) &&& 15) M) fun _ M4 =>
X_Row_addAll_L12 n o a1 a3 m (v4 + 1) M4))
    refine j_iload (pc := 12) (q := 3) d_Row_addAll_12 rfl ?_
    refine j_iload_n (pc := 14) (q := 2) d_Row_addAll_14 rfl rfl ?_
    refine j_icmp_ge (pc := 15) (tgt := 38) d_Row_addAll_15 (by decide) (fun _ => ?_) (fun _ => ?_)
    · exact j_return (pc := 38) d_Row_addAll_38 rfl
    · refine j_aload_n (pc := 18) (q := 0) d_Row_addAll_18 rfl rfl ?_
      refine j_lload_n (pc := 19) (q := 1) d_Row_addAll_19 rfl rfl ?_
      refine j_iconst (pc := 20) d_Row_addAll_20 k_i_4 ?_
      refine j_iload (pc := 21) (q := 3) d_Row_addAll_21 rfl ?_
      refine j_imul (pc := 23) d_Row_addAll_23 ?_
      refine j_lushr (pc := 24) d_Row_addAll_24 ?_
      refine j_l2i (pc := 25) d_Row_addAll_25 ?_
      refine j_bipush (pc := 26) d_Row_addAll_26 k_b_15 ?_
      refine j_iand (pc := 28) d_Row_addAll_28 ?_
      refine j_callV1 (pc := 29) d_Row_addAll_29 (C_Row_add n o h_o (((((a1.toUInt64 >>> (((4 : Int32) * v4).toInt64.toUInt64 &&& Int64.toUInt64 63)).toInt64) : Int64).toInt32) &&& 15) M) cV_Row_25 cd_Row_add dn_Row_add rfl (by decide) (Nat.le_of_ble_eq_true rfl) (Nat.le_of_ble_eq_true rfl) nr_U h_o (by decide) rfl (fun r3 M4 => ?_)
      refine j_iinc (pc := 32) (q := 3) d_Row_addAll_32 rfl (congrArg (v4 + ·) k_i_1) (by decide) rfl ?_
      refine j_goto (pc := 35) (tgt := 12) d_Row_addAll_35 (by decide) ?_
      refine j_lv [1, 2, 3, 0] rfl ?_
      exact ih (v4 + 1) M4
set_option maxRecDepth 20000 in
set_option maxHeartbeats 4000000 in
theorem C_Row_addAll (n : Nat) (o : Nat) (h_o : SHx[o]? = some (3, [1, 0])) (p1 : Int64) (M : Mem) : Ct y_Row_addAll mt_Row_addAll wU [Value.ref o, Value.long p1] M (X_Row_addAll n o p1 M) := by
  refine ct_of (by decide +kernel) rfl (Nat.le_of_ble_eq_true rfl) ?_
  show J _ _ _ [(0, Value.ref o), (1, Value.long p1)] _ _ _
  unfold X_Row_addAll
  refine j_lload_n (pc := 0) (q := 1) d_Row_addAll_0 rfl rfl ?_
  refine j_bipush (pc := 1) d_Row_addAll_1 k_b_36 ?_
  refine j_lushr (pc := 3) d_Row_addAll_3 ?_
  refine j_l2i (pc := 4) d_Row_addAll_4 ?_
  refine j_callS1 (pc := 5) d_Row_addAll_5 (C_Integer_bitCount n ((((p1.toUInt64 >>> ((36 : Int32).toInt64.toUInt64 &&& Int64.toUInt64 63)).toInt64) : Int64).toInt32) M) cS_Row_9 cd_Integer_bitCount dn_Integer_bitCount rfl (by decide) (Nat.le_of_ble_eq_true rfl) (Nat.le_of_ble_eq_true rfl) nr_I (fun r1 M2 => ?_)
  refine j_istore_n (pc := 8) d_Row_addAll_8 rfl (by decide) rfl ?_
  refine j_iconst (pc := 9) d_Row_addAll_9 k_i_0 ?_
  refine j_istore (pc := 10) d_Row_addAll_10 (by decide) rfl ?_
  refine j_lv [2, 3, 1, 0] rfl ?_
  exact X_Row_addAll_L12_ok h_o  n 0 M2
-- Minds.knowers ([JI)I
def mt_Minds_knowers : Mt := ("ShakeHands$Minds", b_Minds_knowers, 4, some .int, 2, SHx)
theorem d_Minds_knowers_0 : decode b_Minds_knowers 0 = .ok (.iconst 0, 1) := by decide +kernel
theorem d_Minds_knowers_1 : decode b_Minds_knowers 1 = .ok (.istore_n 2, 1) := by decide +kernel
theorem d_Minds_knowers_2 : decode b_Minds_knowers 2 = .ok (.iconst 0, 1) := by decide +kernel
theorem d_Minds_knowers_3 : decode b_Minds_knowers 3 = .ok (.istore_n 3, 1) := by decide +kernel
theorem d_Minds_knowers_4 : decode b_Minds_knowers 4 = .ok (.iload_n 3, 1) := by decide +kernel
theorem d_Minds_knowers_5 : decode b_Minds_knowers 5 = .ok (.bipush 6, 2) := by decide +kernel
theorem d_Minds_knowers_7 : decode b_Minds_knowers 7 = .ok (.if_icmp .ge 25, 3) := by decide +kernel
theorem d_Minds_knowers_10 : decode b_Minds_knowers 10 = .ok (.iload_n 2, 1) := by decide +kernel
theorem d_Minds_knowers_11 : decode b_Minds_knowers 11 = .ok (.aload_n 0, 1) := by decide +kernel
theorem d_Minds_knowers_12 : decode b_Minds_knowers 12 = .ok (.iload_n 3, 1) := by decide +kernel
theorem d_Minds_knowers_13 : decode b_Minds_knowers 13 = .ok (.laload, 1) := by decide +kernel
theorem d_Minds_knowers_14 : decode b_Minds_knowers 14 = .ok (.bipush 36, 2) := by decide +kernel
theorem d_Minds_knowers_16 : decode b_Minds_knowers 16 = .ok (.iload_n 1, 1) := by decide +kernel
theorem d_Minds_knowers_17 : decode b_Minds_knowers 17 = .ok (.iadd, 1) := by decide +kernel
theorem d_Minds_knowers_18 : decode b_Minds_knowers 18 = .ok (.lushr, 1) := by decide +kernel
theorem d_Minds_knowers_19 : decode b_Minds_knowers 19 = .ok (.lconst 1, 1) := by decide +kernel
theorem d_Minds_knowers_20 : decode b_Minds_knowers 20 = .ok (.land, 1) := by decide +kernel
theorem d_Minds_knowers_21 : decode b_Minds_knowers 21 = .ok (.l2i, 1) := by decide +kernel
theorem d_Minds_knowers_22 : decode b_Minds_knowers 22 = .ok (.iload_n 3, 1) := by decide +kernel
theorem d_Minds_knowers_23 : decode b_Minds_knowers 23 = .ok (.ishl, 1) := by decide +kernel
theorem d_Minds_knowers_24 : decode b_Minds_knowers 24 = .ok (.ior, 1) := by decide +kernel
theorem d_Minds_knowers_25 : decode b_Minds_knowers 25 = .ok (.istore_n 2, 1) := by decide +kernel
theorem d_Minds_knowers_26 : decode b_Minds_knowers 26 = .ok (.iinc 3 1, 3) := by decide +kernel
theorem d_Minds_knowers_29 : decode b_Minds_knowers 29 = .ok (.goto (-25), 3) := by decide +kernel
theorem d_Minds_knowers_32 : decode b_Minds_knowers 32 = .ok (.iload_n 2, 1) := by decide +kernel
theorem d_Minds_knowers_33 : decode b_Minds_knowers 33 = .ok (.ireturn, 1) := by decide +kernel
def X_Minds_knowers_L4 (n : Nat) (rows : Nat) (a1 : Int32) (M : Mem) : Nat → Int32 → Int32 → Option (Int32 × Mem)
    | 0, _, _ => none
    | m + 1, v2, v3 => (if 6 ≤ v3 then
    some (v2, M)
    else
    gd v3 6 (
      nm (v2 ||| (((((((M.2 rows v3.toNatClampNeg).toUInt64 >>> (((36 : Int32) + a1).toInt64.toUInt64 &&& Int64.toUInt64 63)).toInt64) &&& 1) : Int64).toInt32) <<< (v3 &&& 31))) fun x1 =>
      X_Minds_knowers_L4 n rows a1 M m x1 (v3 + 1)))
def X_Minds_knowers (n : Nat) (rows : Nat) (p1 : Int32) (M : Mem) : Option (Int32 × Mem) :=
  X_Minds_knowers_L4 n rows p1 M n 0 0
set_option maxRecDepth 20000 in
set_option maxHeartbeats 4000000 in
theorem X_Minds_knowers_L4_ok {n : Nat} {rows : Nat} {a1 : Int32} (h_rows : SHx[rows]? = some (103, [6])) {M : Mem} : ∀ (m : Nat) (v2 : Int32) (v3 : Int32), J (mt_Minds_knowers) wI 4 [(0, Value.ref rows), (1, Value.int a1), (2, Value.int v2), (3, Value.int v3)] [] M (X_Minds_knowers_L4 n rows a1 M m v2 v3) := by
  intro m
  induction m with
  | zero => intro _ _; exact j_none
  | succ m ih =>
    intro v2 v3
    show J _ _ _ _ _ _ ((if 6 ≤ v3 then
some (v2, M)
else
gd v3 6 (
nm (v2 ||| (((((((M.2 rows v3.toNatClampNeg).toUInt64 >>> (((36 : Int32) + a1).toInt64.toUInt64 &&& Int64.toUInt64 63)).toInt64) &&& 1) : Int64).toInt32) <<< (v3 &&& 31))) fun x1 =>
X_Minds_knowers_L4 n rows a1 M m x1 (v3 + 1))))
    refine j_iload_n (pc := 4) (q := 3) d_Minds_knowers_4 rfl rfl ?_
    refine j_bipush (pc := 5) d_Minds_knowers_5 k_b_6 ?_
    refine j_icmp_ge (pc := 7) (tgt := 32) d_Minds_knowers_7 (by decide) (fun _ => ?_) (fun _ => ?_)
    · refine j_iload_n (pc := 32) (q := 2) d_Minds_knowers_32 rfl rfl ?_
      exact j_ireturn (pc := 33) d_Minds_knowers_33 rfl
    · refine j_iload_n (pc := 10) (q := 2) d_Minds_knowers_10 rfl rfl ?_
      refine j_aload_n (pc := 11) (q := 0) d_Minds_knowers_11 rfl rfl ?_
      refine j_iload_n (pc := 12) (q := 3) d_Minds_knowers_12 rfl rfl ?_
      refine j_lald (pc := 13) d_Minds_knowers_13 h_rows (fun _ => ?_)
      refine j_bipush (pc := 14) d_Minds_knowers_14 k_b_36 ?_
      refine j_iload_n (pc := 16) (q := 1) d_Minds_knowers_16 rfl rfl ?_
      refine j_iadd (pc := 17) d_Minds_knowers_17 ?_
      refine j_lushr (pc := 18) d_Minds_knowers_18 ?_
      refine j_lconst (pc := 19) d_Minds_knowers_19 k_l_1 ?_
      refine j_land (pc := 20) d_Minds_knowers_20 ?_
      refine j_l2i (pc := 21) d_Minds_knowers_21 ?_
      refine j_iload_n (pc := 22) (q := 3) d_Minds_knowers_22 rfl rfl ?_
      refine j_ishl (pc := 23) d_Minds_knowers_23 ?_
      refine j_ior (pc := 24) d_Minds_knowers_24 ?_
      refine j_nmi (fun x1 => ?_)
      refine j_istore_n (pc := 25) d_Minds_knowers_25 rfl (by decide) rfl ?_
      refine j_iinc (pc := 26) (q := 3) d_Minds_knowers_26 rfl (congrArg (v3 + ·) k_i_1) (by decide) rfl ?_
      refine j_goto (pc := 29) (tgt := 4) d_Minds_knowers_29 (by decide) ?_
      refine j_lv [2, 3, 1, 0] rfl ?_
      exact ih x1 (v3 + 1)
set_option maxRecDepth 20000 in
set_option maxHeartbeats 4000000 in
theorem C_Minds_knowers (n : Nat) (rows : Nat) (h_rows : SHx[rows]? = some (103, [6])) (p1 : Int32) (M : Mem) : Ct y_Minds_knowers mt_Minds_knowers wI [Value.ref rows, Value.int p1] M (X_Minds_knowers n rows p1 M) := by
  refine ct_of (by decide +kernel) rfl (Nat.le_of_ble_eq_true rfl) ?_
  show J _ _ _ [(0, Value.ref rows), (1, Value.int p1)] _ _ _
  unfold X_Minds_knowers
  refine j_iconst (pc := 0) d_Minds_knowers_0 k_i_0 ?_
  refine j_istore_n (pc := 1) d_Minds_knowers_1 rfl (by decide) rfl ?_
  refine j_iconst (pc := 2) d_Minds_knowers_2 k_i_0 ?_
  refine j_istore_n (pc := 3) d_Minds_knowers_3 rfl (by decide) rfl ?_
  refine j_lv [2, 3, 1, 0] rfl ?_
  exact X_Minds_knowers_L4_ok h_rows  n 0 0
-- Minds.known ([J)I
def mt_Minds_known : Mt := ("ShakeHands$Minds", b_Minds_known, 4, some .int, 2, SHx)
theorem d_Minds_known_0 : decode b_Minds_known 0 = .ok (.lconst 0, 1) := by decide +kernel
theorem d_Minds_known_1 : decode b_Minds_known 1 = .ok (.lstore_n 1, 1) := by decide +kernel
theorem d_Minds_known_2 : decode b_Minds_known 2 = .ok (.iconst 0, 1) := by decide +kernel
theorem d_Minds_known_3 : decode b_Minds_known 3 = .ok (.istore_n 3, 1) := by decide +kernel
theorem d_Minds_known_4 : decode b_Minds_known 4 = .ok (.iload_n 3, 1) := by decide +kernel
theorem d_Minds_known_5 : decode b_Minds_known 5 = .ok (.bipush 6, 2) := by decide +kernel
theorem d_Minds_known_7 : decode b_Minds_known 7 = .ok (.if_icmp .ge 15, 3) := by decide +kernel
theorem d_Minds_known_10 : decode b_Minds_known 10 = .ok (.lload_n 1, 1) := by decide +kernel
theorem d_Minds_known_11 : decode b_Minds_known 11 = .ok (.aload_n 0, 1) := by decide +kernel
theorem d_Minds_known_12 : decode b_Minds_known 12 = .ok (.iload_n 3, 1) := by decide +kernel
theorem d_Minds_known_13 : decode b_Minds_known 13 = .ok (.laload, 1) := by decide +kernel
theorem d_Minds_known_14 : decode b_Minds_known 14 = .ok (.lor, 1) := by decide +kernel
theorem d_Minds_known_15 : decode b_Minds_known 15 = .ok (.lstore_n 1, 1) := by decide +kernel
theorem d_Minds_known_16 : decode b_Minds_known 16 = .ok (.iinc 3 1, 3) := by decide +kernel
theorem d_Minds_known_19 : decode b_Minds_known 19 = .ok (.goto (-15), 3) := by decide +kernel
theorem d_Minds_known_22 : decode b_Minds_known 22 = .ok (.lload_n 1, 1) := by decide +kernel
theorem d_Minds_known_23 : decode b_Minds_known 23 = .ok (.bipush 36, 2) := by decide +kernel
theorem d_Minds_known_25 : decode b_Minds_known 25 = .ok (.lushr, 1) := by decide +kernel
theorem d_Minds_known_26 : decode b_Minds_known 26 = .ok (.l2i, 1) := by decide +kernel
theorem d_Minds_known_27 : decode b_Minds_known 27 = .ok (.ireturn, 1) := by decide +kernel
def X_Minds_known_L4 (n : Nat) (rows : Nat) (M : Mem) : Nat → Int64 → Int32 → Option (Int32 × Mem)
    | 0, _, _ => none
    | m + 1, v1, v3 => (if 6 ≤ v3 then
    some (((((v1.toUInt64 >>> ((36 : Int32).toInt64.toUInt64 &&& Int64.toUInt64 63)).toInt64) : Int64).toInt32), M)
    else
    gd v3 6 (
      nm (v1 ||| (M.2 rows v3.toNatClampNeg)) fun x1 =>
      X_Minds_known_L4 n rows M m x1 (v3 + 1)))
def X_Minds_known (n : Nat) (rows : Nat) (M : Mem) : Option (Int32 × Mem) :=
  X_Minds_known_L4 n rows M n 0 0
set_option maxRecDepth 20000 in
set_option maxHeartbeats 4000000 in
theorem X_Minds_known_L4_ok {n : Nat} {rows : Nat} (h_rows : SHx[rows]? = some (103, [6])) {M : Mem} : ∀ (m : Nat) (v1 : Int64) (v3 : Int32), J (mt_Minds_known) wI 4 [(0, Value.ref rows), (1, Value.long v1), (3, Value.int v3)] [] M (X_Minds_known_L4 n rows M m v1 v3) := by
  intro m
  induction m with
  | zero => intro _ _; exact j_none
  | succ m ih =>
    intro v1 v3
    show J _ _ _ _ _ _ ((if 6 ≤ v3 then
some (((((v1.toUInt64 >>> ((36 : Int32).toInt64.toUInt64 &&& Int64.toUInt64 63)).toInt64) : Int64).toInt32), M)
else
gd v3 6 (
nm (v1 ||| (M.2 rows v3.toNatClampNeg)) fun x1 =>
X_Minds_known_L4 n rows M m x1 (v3 + 1))))
    refine j_iload_n (pc := 4) (q := 2) d_Minds_known_4 rfl rfl ?_
    refine j_bipush (pc := 5) d_Minds_known_5 k_b_6 ?_
    refine j_icmp_ge (pc := 7) (tgt := 22) d_Minds_known_7 (by decide) (fun _ => ?_) (fun _ => ?_)
    · refine j_lload_n (pc := 22) (q := 1) d_Minds_known_22 rfl rfl ?_
      refine j_bipush (pc := 23) d_Minds_known_23 k_b_36 ?_
      refine j_lushr (pc := 25) d_Minds_known_25 ?_
      refine j_l2i (pc := 26) d_Minds_known_26 ?_
      exact j_ireturn (pc := 27) d_Minds_known_27 rfl
    · refine j_lload_n (pc := 10) (q := 1) d_Minds_known_10 rfl rfl ?_
      refine j_aload_n (pc := 11) (q := 0) d_Minds_known_11 rfl rfl ?_
      refine j_iload_n (pc := 12) (q := 2) d_Minds_known_12 rfl rfl ?_
      refine j_lald (pc := 13) d_Minds_known_13 h_rows (fun _ => ?_)
      refine j_lor (pc := 14) d_Minds_known_14 ?_
      refine j_nml (fun x1 => ?_)
      refine j_lstore_n (pc := 15) d_Minds_known_15 rfl (by decide) rfl ?_
      refine j_iinc (pc := 16) (q := 2) d_Minds_known_16 rfl (congrArg (v3 + ·) k_i_1) (by decide) rfl ?_
      refine j_goto (pc := 19) (tgt := 4) d_Minds_known_19 (by decide) ?_
      refine j_lv [2, 1, 0] rfl ?_
      exact ih x1 (v3 + 1)
set_option maxRecDepth 20000 in
set_option maxHeartbeats 4000000 in
theorem C_Minds_known (n : Nat) (rows : Nat) (h_rows : SHx[rows]? = some (103, [6]))  (M : Mem) : Ct y_Minds_known mt_Minds_known wI [Value.ref rows] M (X_Minds_known n rows M) := by
  refine ct_of (by decide +kernel) rfl (Nat.le_of_ble_eq_true rfl) ?_
  show J _ _ _ [(0, Value.ref rows)] _ _ _
  unfold X_Minds_known
  refine j_lconst (pc := 0) d_Minds_known_0 k_l_0 ?_
  refine j_lstore_n (pc := 1) d_Minds_known_1 rfl (by decide) rfl ?_
  refine j_iconst (pc := 2) d_Minds_known_2 k_i_0 ?_
  refine j_istore_n (pc := 3) d_Minds_known_3 rfl (by decide) rfl ?_
  refine j_lv [2, 1, 0] rfl ?_
  exact X_Minds_known_L4_ok h_rows  n 0 0
-- Minds.copy (LShakeHands$Minds;)V
def mt_Minds_copy : Mt := ("ShakeHands$Minds", b_Minds_copy, 2, none, 2, SHx)
theorem d_Minds_copy_0 : decode b_Minds_copy 0 = .ok (.aload_n 1, 1) := by decide +kernel
theorem d_Minds_copy_1 : decode b_Minds_copy 1 = .ok (.getfield 9, 3) := by decide +kernel
theorem d_Minds_copy_4 : decode b_Minds_copy 4 = .ok (.iconst 0, 1) := by decide +kernel
theorem d_Minds_copy_5 : decode b_Minds_copy 5 = .ok (.aload_n 0, 1) := by decide +kernel
theorem d_Minds_copy_6 : decode b_Minds_copy 6 = .ok (.getfield 9, 3) := by decide +kernel
theorem d_Minds_copy_9 : decode b_Minds_copy 9 = .ok (.iconst 0, 1) := by decide +kernel
theorem d_Minds_copy_10 : decode b_Minds_copy 10 = .ok (.bipush 6, 2) := by decide +kernel
theorem d_Minds_copy_12 : decode b_Minds_copy 12 = .ok (.invokestatic 19, 3) := by decide +kernel
theorem d_Minds_copy_15 : decode b_Minds_copy 15 = .ok (.aload_n 0, 1) := by decide +kernel
theorem d_Minds_copy_16 : decode b_Minds_copy 16 = .ok (.aload_n 1, 1) := by decide +kernel
theorem d_Minds_copy_17 : decode b_Minds_copy 17 = .ok (.getfield 25, 3) := by decide +kernel
theorem d_Minds_copy_20 : decode b_Minds_copy 20 = .ok (.putfield 25, 3) := by decide +kernel
theorem d_Minds_copy_23 : decode b_Minds_copy 23 = .ok (.aload_n 0, 1) := by decide +kernel
theorem d_Minds_copy_24 : decode b_Minds_copy 24 = .ok (.aload_n 1, 1) := by decide +kernel
theorem d_Minds_copy_25 : decode b_Minds_copy 25 = .ok (.getfield 29, 3) := by decide +kernel
theorem d_Minds_copy_28 : decode b_Minds_copy 28 = .ok (.putfield 29, 3) := by decide +kernel
theorem d_Minds_copy_31 : decode b_Minds_copy 31 = .ok (.aload_n 1, 1) := by decide +kernel
theorem d_Minds_copy_32 : decode b_Minds_copy 32 = .ok (.getfield 15, 3) := by decide +kernel
theorem d_Minds_copy_35 : decode b_Minds_copy 35 = .ok (.iconst 0, 1) := by decide +kernel
theorem d_Minds_copy_36 : decode b_Minds_copy 36 = .ok (.aload_n 0, 1) := by decide +kernel
theorem d_Minds_copy_37 : decode b_Minds_copy 37 = .ok (.getfield 15, 3) := by decide +kernel
theorem d_Minds_copy_40 : decode b_Minds_copy 40 = .ok (.iconst 0, 1) := by decide +kernel
theorem d_Minds_copy_41 : decode b_Minds_copy 41 = .ok (.bipush 6, 2) := by decide +kernel
theorem d_Minds_copy_43 : decode b_Minds_copy 43 = .ok (.invokestatic 19, 3) := by decide +kernel
theorem d_Minds_copy_46 : decode b_Minds_copy 46 = .ok (.return_, 1) := by decide +kernel
def X_Minds_copy (n : Nat) (o : Nat) (q : Nat) (M : Mem) : Option (Unit × Mem) :=
  gc (0 : Int32) (0 : Int32) (6 : Int32) 6 6 (
    nm (cpL M (q + 1) ((0 : Int32).toNatClampNeg) (o + 1) ((0 : Int32).toNatClampNeg) ((6 : Int32).toNatClampNeg)) fun N1 =>
    nm (si N1 o 1 (N1.1 q 1)) fun N2 =>
    nm (si N2 o 2 (N2.1 q 2)) fun N3 =>
    gc (0 : Int32) (0 : Int32) (6 : Int32) 6 6 (
      some ((), cpI N3 (q + 2) ((0 : Int32).toNatClampNeg) (o + 2) ((0 : Int32).toNatClampNeg) ((6 : Int32).toNatClampNeg))))
set_option maxRecDepth 20000 in
set_option maxHeartbeats 4000000 in
theorem C_Minds_copy (n : Nat) (o : Nat) (q : Nat) (h_o : SHx[o]? = some (2, [o + 1 + 2, 0, 0, o + 2 + 2])) (h_o1 : SHx[o + 1]? = some (103, [6])) (h_o2 : SHx[o + 2]? = some (100, [6])) (h_q : SHx[q]? = some (2, [q + 1 + 2, 0, 0, q + 2 + 2])) (h_q1 : SHx[q + 1]? = some (103, [6])) (h_q2 : SHx[q + 2]? = some (100, [6]))  (M : Mem) : Ct y_Minds_copy mt_Minds_copy wU [Value.ref o, Value.ref q] M (X_Minds_copy n o q M) := by
  refine ct_of (by decide +kernel) rfl (Nat.le_of_ble_eq_true rfl) ?_
  show J _ _ _ [(0, Value.ref o), (1, Value.ref q)] _ _ _
  unfold X_Minds_copy
  refine j_aload_n (pc := 0) (q := 1) d_Minds_copy_0 rfl rfl ?_
  refine j_getA (pc := 1) d_Minds_copy_1 fl_Minds_9 h_q (by decide) rfl ?_
  refine j_iconst (pc := 4) d_Minds_copy_4 k_i_0 ?_
  refine j_aload_n (pc := 5) (q := 0) d_Minds_copy_5 rfl rfl ?_
  refine j_getA (pc := 6) d_Minds_copy_6 fl_Minds_9 h_o (by decide) rfl ?_
  refine j_iconst (pc := 9) d_Minds_copy_9 k_i_0 ?_
  refine j_bipush (pc := 10) d_Minds_copy_10 k_b_6 ?_
  refine j_copyL (pc := 12) d_Minds_copy_12 cw_Minds_19 cw_nat cw_st h_q1 h_o1 (by decide) (Nat.le_of_ble_eq_true rfl) ?_
  refine j_aload_n (pc := 15) (q := 0) d_Minds_copy_15 rfl rfl ?_
  refine j_aload_n (pc := 16) (q := 1) d_Minds_copy_16 rfl rfl ?_
  refine j_nmM (fun N1 => ?_)
  refine j_getI (pc := 17) d_Minds_copy_17 fl_Minds_25 h_q (by decide) rfl ?_
  refine j_putI (pc := 20) d_Minds_copy_20 fl_Minds_25 rfl h_o (by decide) rfl ?_
  refine j_aload_n (pc := 23) (q := 0) d_Minds_copy_23 rfl rfl ?_
  refine j_aload_n (pc := 24) (q := 1) d_Minds_copy_24 rfl rfl ?_
  refine j_nmM (fun N2 => ?_)
  refine j_getI (pc := 25) d_Minds_copy_25 fl_Minds_29 h_q (by decide) rfl ?_
  refine j_putI (pc := 28) d_Minds_copy_28 fl_Minds_29 rfl h_o (by decide) rfl ?_
  refine j_aload_n (pc := 31) (q := 1) d_Minds_copy_31 rfl rfl ?_
  refine j_getA (pc := 32) d_Minds_copy_32 fl_Minds_15 h_q (by decide) rfl ?_
  refine j_iconst (pc := 35) d_Minds_copy_35 k_i_0 ?_
  refine j_aload_n (pc := 36) (q := 0) d_Minds_copy_36 rfl rfl ?_
  refine j_getA (pc := 37) d_Minds_copy_37 fl_Minds_15 h_o (by decide) rfl ?_
  refine j_iconst (pc := 40) d_Minds_copy_40 k_i_0 ?_
  refine j_bipush (pc := 41) d_Minds_copy_41 k_b_6 ?_
  refine j_nmM (fun N3 => ?_)
  refine j_copyI (pc := 43) d_Minds_copy_43 cw_Minds_19 cw_nat cw_st h_q2 h_o2 (by decide) (Nat.le_of_ble_eq_true rfl) ?_
  exact j_return (pc := 46) d_Minds_copy_46 rfl
-- Sheet.renew (II)V
def mt_Sheet_renew : Mt := ("ShakeHands$Sheet", b_Sheet_renew, 4, none, 2, SHx)
theorem d_Sheet_renew_0 : decode b_Sheet_renew 0 = .ok (.aload_n 0, 1) := by decide +kernel
theorem d_Sheet_renew_1 : decode b_Sheet_renew 1 = .ok (.iconst 1, 1) := by decide +kernel
theorem d_Sheet_renew_2 : decode b_Sheet_renew 2 = .ok (.putfield 13, 3) := by decide +kernel
theorem d_Sheet_renew_5 : decode b_Sheet_renew 5 = .ok (.aload_n 0, 1) := by decide +kernel
theorem d_Sheet_renew_6 : decode b_Sheet_renew 6 = .ok (.iload_n 1, 1) := by decide +kernel
theorem d_Sheet_renew_7 : decode b_Sheet_renew 7 = .ok (.putfield 17, 3) := by decide +kernel
theorem d_Sheet_renew_10 : decode b_Sheet_renew 10 = .ok (.aload_n 0, 1) := by decide +kernel
theorem d_Sheet_renew_11 : decode b_Sheet_renew 11 = .ok (.iload_n 2, 1) := by decide +kernel
theorem d_Sheet_renew_12 : decode b_Sheet_renew 12 = .ok (.putfield 21, 3) := by decide +kernel
theorem d_Sheet_renew_15 : decode b_Sheet_renew 15 = .ok (.iconst 0, 1) := by decide +kernel
theorem d_Sheet_renew_16 : decode b_Sheet_renew 16 = .ok (.istore_n 3, 1) := by decide +kernel
theorem d_Sheet_renew_17 : decode b_Sheet_renew 17 = .ok (.iload_n 3, 1) := by decide +kernel
theorem d_Sheet_renew_18 : decode b_Sheet_renew 18 = .ok (.bipush 40, 2) := by decide +kernel
theorem d_Sheet_renew_20 : decode b_Sheet_renew 20 = .ok (.if_icmp .ge 16, 3) := by decide +kernel
theorem d_Sheet_renew_23 : decode b_Sheet_renew 23 = .ok (.aload_n 0, 1) := by decide +kernel
theorem d_Sheet_renew_24 : decode b_Sheet_renew 24 = .ok (.getfield 9, 3) := by decide +kernel
theorem d_Sheet_renew_27 : decode b_Sheet_renew 27 = .ok (.iload_n 3, 1) := by decide +kernel
theorem d_Sheet_renew_28 : decode b_Sheet_renew 28 = .ok (.iconst 0, 1) := by decide +kernel
theorem d_Sheet_renew_29 : decode b_Sheet_renew 29 = .ok (.iastore, 1) := by decide +kernel
theorem d_Sheet_renew_30 : decode b_Sheet_renew 30 = .ok (.iinc 3 1, 3) := by decide +kernel
theorem d_Sheet_renew_33 : decode b_Sheet_renew 33 = .ok (.goto (-16), 3) := by decide +kernel
theorem d_Sheet_renew_36 : decode b_Sheet_renew 36 = .ok (.return_, 1) := by decide +kernel
def X_Sheet_renew_L17 (n : Nat) (o : Nat) : Nat → Int32 → Mem → Option (Unit × Mem)
    | 0, _, _ => none
    | m + 1, v3, M => (if 40 ≤ v3 then
    some ((), M)
    else
    gd v3 40 (
      X_Sheet_renew_L17 n o m (v3 + 1) (si M (o + 1) (v3.toNatClampNeg) 0)))
def X_Sheet_renew (n : Nat) (o : Nat) (p1 : Int32) (p2 : Int32) (M : Mem) : Option (Unit × Mem) :=
  X_Sheet_renew_L17 n o n 0 (si (si (si M o 0 1) o 2 p1) o 1 p2)
set_option maxRecDepth 20000 in
set_option maxHeartbeats 4000000 in
theorem X_Sheet_renew_L17_ok {n : Nat} {o : Nat} (h_o : SHx[o]? = some (5, [0, 0, 0, o + 1 + 2])) (h_o1 : SHx[o + 1]? = some (100, [40])) : ∀ (m : Nat) (v3 : Int32) (M : Mem), J (mt_Sheet_renew) wU 17 [(0, Value.ref o), (3, Value.int v3)] [] M (X_Sheet_renew_L17 n o m v3 M) := by
  intro m
  induction m with
  | zero => intro _ _; exact j_none
  | succ m ih =>
    intro v3 M
    show J _ _ _ _ _ _ ((if 40 ≤ v3 then
some ((), M)
else
gd v3 40 (
X_Sheet_renew_L17 n o m (v3 + 1) (si M (o + 1) (v3.toNatClampNeg) 0))))
    refine j_iload_n (pc := 17) (q := 1) d_Sheet_renew_17 rfl rfl ?_
    refine j_bipush (pc := 18) d_Sheet_renew_18 k_b_40 ?_
    refine j_icmp_ge (pc := 20) (tgt := 36) d_Sheet_renew_20 (by decide) (fun _ => ?_) (fun _ => ?_)
    · exact j_return (pc := 36) d_Sheet_renew_36 rfl
    · refine j_aload_n (pc := 23) (q := 0) d_Sheet_renew_23 rfl rfl ?_
      refine j_getA (pc := 24) d_Sheet_renew_24 fl_Sheet_9 h_o (by decide) rfl ?_
      refine j_iload_n (pc := 27) (q := 1) d_Sheet_renew_27 rfl rfl ?_
      refine j_iconst (pc := 28) d_Sheet_renew_28 k_i_0 ?_
      refine j_iast (pc := 29) d_Sheet_renew_29 h_o1 (fun _ => ?_)
      refine j_iinc (pc := 30) (q := 1) d_Sheet_renew_30 rfl (congrArg (v3 + ·) k_i_1) (by decide) rfl ?_
      refine j_goto (pc := 33) (tgt := 17) d_Sheet_renew_33 (by decide) ?_
      refine j_lv [1, 0] rfl ?_
      exact ih (v3 + 1) (si M (o + 1) (v3.toNatClampNeg) 0)
set_option maxRecDepth 20000 in
set_option maxHeartbeats 4000000 in
theorem C_Sheet_renew (n : Nat) (o : Nat) (h_o : SHx[o]? = some (5, [0, 0, 0, o + 1 + 2])) (h_o1 : SHx[o + 1]? = some (100, [40])) (p1 : Int32) (p2 : Int32) (M : Mem) : Ct y_Sheet_renew mt_Sheet_renew wU [Value.ref o, Value.int p1, Value.int p2] M (X_Sheet_renew n o p1 p2 M) := by
  refine ct_of (by decide +kernel) rfl (Nat.le_of_ble_eq_true rfl) ?_
  show J _ _ _ [(0, Value.ref o), (1, Value.int p1), (2, Value.int p2)] _ _ _
  unfold X_Sheet_renew
  refine j_aload_n (pc := 0) (q := 0) d_Sheet_renew_0 rfl rfl ?_
  refine j_iconst (pc := 1) d_Sheet_renew_1 k_i_1 ?_
  refine j_putZ (pc := 2) d_Sheet_renew_2 fl_Sheet_13 rfl rfl h_o (by decide) rfl ?_
  refine j_aload_n (pc := 5) (q := 0) d_Sheet_renew_5 rfl rfl ?_
  refine j_iload_n (pc := 6) (q := 1) d_Sheet_renew_6 rfl rfl ?_
  refine j_putI (pc := 7) d_Sheet_renew_7 fl_Sheet_17 rfl h_o (by decide) rfl ?_
  refine j_aload_n (pc := 10) (q := 0) d_Sheet_renew_10 rfl rfl ?_
  refine j_iload_n (pc := 11) (q := 2) d_Sheet_renew_11 rfl rfl ?_
  refine j_putI (pc := 12) d_Sheet_renew_12 fl_Sheet_21 rfl h_o (by decide) rfl ?_
  refine j_iconst (pc := 15) d_Sheet_renew_15 k_i_0 ?_
  refine j_istore_n (pc := 16) d_Sheet_renew_16 rfl (by decide) rfl ?_
  refine j_lv [1, 0] rfl ?_
  exact X_Sheet_renew_L17_ok h_o h_o1  n 0 (si (si (si M o 0 1) o 2 p1) o 1 p2)
-- Sheet.faultAt (I)I
def mt_Sheet_faultAt : Mt := ("ShakeHands$Sheet", b_Sheet_faultAt, 2, some .int, 2, SHx)
theorem d_Sheet_faultAt_0 : decode b_Sheet_faultAt 0 = .ok (.aload_n 0, 1) := by decide +kernel
theorem d_Sheet_faultAt_1 : decode b_Sheet_faultAt 1 = .ok (.getfield 13, 3) := by decide +kernel
theorem d_Sheet_faultAt_4 : decode b_Sheet_faultAt 4 = .ok (.ifCond .ne 5, 3) := by decide +kernel
theorem d_Sheet_faultAt_7 : decode b_Sheet_faultAt 7 = .ok (.iconst 1, 1) := by decide +kernel
theorem d_Sheet_faultAt_8 : decode b_Sheet_faultAt 8 = .ok (.ireturn, 1) := by decide +kernel
theorem d_Sheet_faultAt_9 : decode b_Sheet_faultAt 9 = .ok (.iload_n 1, 1) := by decide +kernel
theorem d_Sheet_faultAt_10 : decode b_Sheet_faultAt 10 = .ok (.ifCond .lt 11, 3) := by decide +kernel
theorem d_Sheet_faultAt_13 : decode b_Sheet_faultAt 13 = .ok (.iload_n 1, 1) := by decide +kernel
theorem d_Sheet_faultAt_14 : decode b_Sheet_faultAt 14 = .ok (.aload_n 0, 1) := by decide +kernel
theorem d_Sheet_faultAt_15 : decode b_Sheet_faultAt 15 = .ok (.getfield 21, 3) := by decide +kernel
theorem d_Sheet_faultAt_18 : decode b_Sheet_faultAt 18 = .ok (.if_icmp .lt 7, 3) := by decide +kernel
theorem d_Sheet_faultAt_21 : decode b_Sheet_faultAt 21 = .ok (.iconst 2, 1) := by decide +kernel
theorem d_Sheet_faultAt_22 : decode b_Sheet_faultAt 22 = .ok (.goto 4, 3) := by decide +kernel
theorem d_Sheet_faultAt_25 : decode b_Sheet_faultAt 25 = .ok (.iconst 0, 1) := by decide +kernel
theorem d_Sheet_faultAt_26 : decode b_Sheet_faultAt 26 = .ok (.ireturn, 1) := by decide +kernel
def X_Sheet_faultAt (n : Nat) (o : Nat) (p1 : Int32) (M : Mem) : Option (Int32 × Mem) :=
  (if (M.1 o 0) = 0 then
    some (1, M)
    else
    (if p1 < 0 then
      some (2, M)
      else
      (if p1 < (M.1 o 1) then
        some (0, M)
        else
        some (2, M))))
set_option maxRecDepth 20000 in
set_option maxHeartbeats 4000000 in
theorem C_Sheet_faultAt (n : Nat) (o : Nat) (h_o : SHx[o]? = some (5, [0, 0, 0, o + 1 + 2])) (h_o1 : SHx[o + 1]? = some (100, [40])) (p1 : Int32) (M : Mem) : Ct y_Sheet_faultAt mt_Sheet_faultAt wI [Value.ref o, Value.int p1] M (X_Sheet_faultAt n o p1 M) := by
  refine ct_of (by decide +kernel) rfl (Nat.le_of_ble_eq_true rfl) ?_
  show J _ _ _ [(0, Value.ref o), (1, Value.int p1)] _ _ _
  unfold X_Sheet_faultAt
  refine j_aload_n (pc := 0) (q := 0) d_Sheet_faultAt_0 rfl rfl ?_
  refine j_getI (pc := 1) d_Sheet_faultAt_1 fl_Sheet_13 h_o (by decide) rfl ?_
  refine j_if_ne (pc := 4) (tgt := 9) d_Sheet_faultAt_4 (by decide) (fun _ => ?_) (fun _ => ?_)
  · refine j_iload_n (pc := 9) (q := 1) d_Sheet_faultAt_9 rfl rfl ?_
    refine j_if_lt (pc := 10) (tgt := 21) d_Sheet_faultAt_10 (by decide) (fun _ => ?_) (fun _ => ?_)
    · refine j_iconst (pc := 21) d_Sheet_faultAt_21 k_i_2 ?_
      refine j_goto (pc := 22) (tgt := 26) d_Sheet_faultAt_22 (by decide) ?_
      exact j_ireturn (pc := 26) d_Sheet_faultAt_26 rfl
    · refine j_iload_n (pc := 13) (q := 1) d_Sheet_faultAt_13 rfl rfl ?_
      refine j_aload_n (pc := 14) (q := 0) d_Sheet_faultAt_14 rfl rfl ?_
      refine j_getI (pc := 15) d_Sheet_faultAt_15 fl_Sheet_21 h_o (by decide) rfl ?_
      refine j_icmp_lt (pc := 18) (tgt := 25) d_Sheet_faultAt_18 (by decide) (fun _ => ?_) (fun _ => ?_)
      · refine j_iconst (pc := 25) d_Sheet_faultAt_25 k_i_0 ?_
        exact j_ireturn (pc := 26) d_Sheet_faultAt_26 rfl
      · refine j_iconst (pc := 21) d_Sheet_faultAt_21 k_i_2 ?_
        refine j_goto (pc := 22) (tgt := 26) d_Sheet_faultAt_22 (by decide) ?_
        exact j_ireturn (pc := 26) d_Sheet_faultAt_26 rfl
  · refine j_iconst (pc := 7) d_Sheet_faultAt_7 k_i_1 ?_
    exact j_ireturn (pc := 8) d_Sheet_faultAt_8 rfl
-- Sheet.put (II)V
def mt_Sheet_put : Mt := ("ShakeHands$Sheet", b_Sheet_put, 3, none, 3, SHx)
theorem d_Sheet_put_0 : decode b_Sheet_put 0 = .ok (.aload_n 0, 1) := by decide +kernel
theorem d_Sheet_put_1 : decode b_Sheet_put 1 = .ok (.iload_n 1, 1) := by decide +kernel
theorem d_Sheet_put_2 : decode b_Sheet_put 2 = .ok (.invokevirtual 24, 3) := by decide +kernel
theorem d_Sheet_put_5 : decode b_Sheet_put 5 = .ok (.ifCond .ne 35, 3) := by decide +kernel
theorem d_Sheet_put_8 : decode b_Sheet_put 8 = .ok (.aload_n 0, 1) := by decide +kernel
theorem d_Sheet_put_9 : decode b_Sheet_put 9 = .ok (.getfield 9, 3) := by decide +kernel
theorem d_Sheet_put_12 : decode b_Sheet_put 12 = .ok (.iload_n 1, 1) := by decide +kernel
theorem d_Sheet_put_13 : decode b_Sheet_put 13 = .ok (.aload_n 0, 1) := by decide +kernel
theorem d_Sheet_put_14 : decode b_Sheet_put 14 = .ok (.getfield 17, 3) := by decide +kernel
theorem d_Sheet_put_17 : decode b_Sheet_put 17 = .ok (.ifCond .ne 8, 3) := by decide +kernel
theorem d_Sheet_put_20 : decode b_Sheet_put 20 = .ok (.iload_n 2, 1) := by decide +kernel
theorem d_Sheet_put_21 : decode b_Sheet_put 21 = .ok (.i2b, 1) := by decide +kernel
theorem d_Sheet_put_22 : decode b_Sheet_put 22 = .ok (.goto 17, 3) := by decide +kernel
theorem d_Sheet_put_25 : decode b_Sheet_put 25 = .ok (.aload_n 0, 1) := by decide +kernel
theorem d_Sheet_put_26 : decode b_Sheet_put 26 = .ok (.getfield 17, 3) := by decide +kernel
theorem d_Sheet_put_29 : decode b_Sheet_put 29 = .ok (.iconst 1, 1) := by decide +kernel
theorem d_Sheet_put_30 : decode b_Sheet_put 30 = .ok (.if_icmp .ne 8, 3) := by decide +kernel
theorem d_Sheet_put_33 : decode b_Sheet_put 33 = .ok (.iload_n 2, 1) := by decide +kernel
theorem d_Sheet_put_34 : decode b_Sheet_put 34 = .ok (.i2s, 1) := by decide +kernel
theorem d_Sheet_put_35 : decode b_Sheet_put 35 = .ok (.goto 4, 3) := by decide +kernel
theorem d_Sheet_put_38 : decode b_Sheet_put 38 = .ok (.iload_n 2, 1) := by decide +kernel
theorem d_Sheet_put_39 : decode b_Sheet_put 39 = .ok (.iastore, 1) := by decide +kernel
theorem d_Sheet_put_40 : decode b_Sheet_put 40 = .ok (.return_, 1) := by decide +kernel
def X_Sheet_put (n : Nat) (o : Nat) (p1 : Int32) (p2 : Int32) (M : Mem) : Option (Unit × Mem) :=
  bd (X_Sheet_faultAt n o p1 M) fun r1 M2 =>
  (if r1 = 0 then
    nm (fun (u3 : Int32) => (gd p1 40 (
          some ((), si M2 (o + 1) (p1.toNatClampNeg) u3)) : Option (Unit × Mem))) fun k39 =>
    (if (M2.1 o 2) = 0 then
      k39 (p2.toInt8.toInt32)
      else
      (if (M2.1 o 2) = 1 then
        k39 (p2.toInt16.toInt32)
        else
        k39 p2))
    else
    some ((), M2))
set_option maxRecDepth 20000 in
set_option maxHeartbeats 4000000 in
theorem C_Sheet_put (n : Nat) (o : Nat) (h_o : SHx[o]? = some (5, [0, 0, 0, o + 1 + 2])) (h_o1 : SHx[o + 1]? = some (100, [40])) (p1 : Int32) (p2 : Int32) (M : Mem) : Ct y_Sheet_put mt_Sheet_put wU [Value.ref o, Value.int p1, Value.int p2] M (X_Sheet_put n o p1 p2 M) := by
  refine ct_of (by decide +kernel) rfl (Nat.le_of_ble_eq_true rfl) ?_
  show J _ _ _ [(0, Value.ref o), (1, Value.int p1), (2, Value.int p2)] _ _ _
  unfold X_Sheet_put
  refine j_aload_n (pc := 0) (q := 0) d_Sheet_put_0 rfl rfl ?_
  refine j_iload_n (pc := 1) (q := 1) d_Sheet_put_1 rfl rfl ?_
  refine j_callV1 (pc := 2) d_Sheet_put_2 (C_Sheet_faultAt n o h_o h_o1 p1 M) cV_Sheet_24 cd_Sheet_faultAt dn_Sheet_faultAt rfl (by decide) (Nat.le_of_ble_eq_true rfl) (Nat.le_of_ble_eq_true rfl) nr_I h_o (by decide) rfl (fun r1 M2 => ?_)
  refine j_if_ne (pc := 5) (tgt := 40) d_Sheet_put_5 (by decide) (fun _ => ?_) (fun _ => ?_)
  · exact j_return (pc := 40) d_Sheet_put_40 rfl
  · refine j_aload_n (pc := 8) (q := 0) d_Sheet_put_8 rfl rfl ?_
    refine j_getA (pc := 9) d_Sheet_put_9 fl_Sheet_9 h_o (by decide) rfl ?_
    refine j_iload_n (pc := 12) (q := 1) d_Sheet_put_12 rfl rfl ?_
    refine j_aload_n (pc := 13) (q := 0) d_Sheet_put_13 rfl rfl ?_
    refine j_getI (pc := 14) d_Sheet_put_14 fl_Sheet_17 h_o (by decide) rfl ?_
    refine j_nmk (fun k => ∀ (u3 : Int32), J (mt_Sheet_put) wU 39 [] [Value.int u3, Value.int p1, Value.ref (o + 1)] M2 (k u3)) (fun u3 => ?_) (fun k39 hk39 => ?_)
    · refine j_iast (pc := 39) d_Sheet_put_39 h_o1 (fun _ => ?_)
      exact j_return (pc := 40) d_Sheet_put_40 rfl
    · refine j_if_ne (pc := 17) (tgt := 25) d_Sheet_put_17 (by decide) (fun _ => ?_) (fun _ => ?_)
      · refine j_aload_n (pc := 25) (q := 0) d_Sheet_put_25 rfl rfl ?_
        refine j_getI (pc := 26) d_Sheet_put_26 fl_Sheet_17 h_o (by decide) rfl ?_
        refine j_iconst (pc := 29) d_Sheet_put_29 k_i_1 ?_
        refine j_icmp_ne (pc := 30) (tgt := 38) d_Sheet_put_30 (by decide) (fun _ => ?_) (fun _ => ?_)
        · refine j_iload_n (pc := 38) (q := 2) d_Sheet_put_38 rfl rfl ?_
          refine j_lv [] rfl ?_
          exact hk39 p2
        · refine j_iload_n (pc := 33) (q := 2) d_Sheet_put_33 rfl rfl ?_
          refine j_i2s (pc := 34) d_Sheet_put_34 ?_
          refine j_goto (pc := 35) (tgt := 39) d_Sheet_put_35 (by decide) ?_
          refine j_lv [] rfl ?_
          exact hk39 (p2.toInt16.toInt32)
      · refine j_iload_n (pc := 20) (q := 2) d_Sheet_put_20 rfl rfl ?_
        refine j_i2b (pc := 21) d_Sheet_put_21 ?_
        refine j_goto (pc := 22) (tgt := 39) d_Sheet_put_22 (by decide) ?_
        refine j_lv [] rfl ?_
        exact hk39 (p2.toInt8.toInt32)
-- Sheet.faultOfTwo (II)I
def mt_Sheet_faultOfTwo : Mt := ("ShakeHands$Sheet", b_Sheet_faultOfTwo, 4, some .int, 3, SHx)
theorem d_Sheet_faultOfTwo_0 : decode b_Sheet_faultOfTwo 0 = .ok (.aload_n 0, 1) := by decide +kernel
theorem d_Sheet_faultOfTwo_1 : decode b_Sheet_faultOfTwo 1 = .ok (.getfield 13, 3) := by decide +kernel
theorem d_Sheet_faultOfTwo_4 : decode b_Sheet_faultOfTwo 4 = .ok (.ifCond .eq 13, 3) := by decide +kernel
theorem d_Sheet_faultOfTwo_7 : decode b_Sheet_faultOfTwo 7 = .ok (.aload_n 0, 1) := by decide +kernel
theorem d_Sheet_faultOfTwo_8 : decode b_Sheet_faultOfTwo 8 = .ok (.getfield 17, 3) := by decide +kernel
theorem d_Sheet_faultOfTwo_11 : decode b_Sheet_faultOfTwo 11 = .ok (.iload_n 1, 1) := by decide +kernel
theorem d_Sheet_faultOfTwo_12 : decode b_Sheet_faultOfTwo 12 = .ok (.if_icmp .eq 5, 3) := by decide +kernel
theorem d_Sheet_faultOfTwo_15 : decode b_Sheet_faultOfTwo 15 = .ok (.iconst 3, 1) := by decide +kernel
theorem d_Sheet_faultOfTwo_16 : decode b_Sheet_faultOfTwo 16 = .ok (.ireturn, 1) := by decide +kernel
theorem d_Sheet_faultOfTwo_17 : decode b_Sheet_faultOfTwo 17 = .ok (.aload_n 0, 1) := by decide +kernel
theorem d_Sheet_faultOfTwo_18 : decode b_Sheet_faultOfTwo 18 = .ok (.iload_n 2, 1) := by decide +kernel
theorem d_Sheet_faultOfTwo_19 : decode b_Sheet_faultOfTwo 19 = .ok (.invokevirtual 24, 3) := by decide +kernel
theorem d_Sheet_faultOfTwo_22 : decode b_Sheet_faultOfTwo 22 = .ok (.istore_n 3, 1) := by decide +kernel
theorem d_Sheet_faultOfTwo_23 : decode b_Sheet_faultOfTwo 23 = .ok (.iload_n 3, 1) := by decide +kernel
theorem d_Sheet_faultOfTwo_24 : decode b_Sheet_faultOfTwo 24 = .ok (.ifCond .eq 7, 3) := by decide +kernel
theorem d_Sheet_faultOfTwo_27 : decode b_Sheet_faultOfTwo 27 = .ok (.iload_n 3, 1) := by decide +kernel
theorem d_Sheet_faultOfTwo_28 : decode b_Sheet_faultOfTwo 28 = .ok (.goto 10, 3) := by decide +kernel
theorem d_Sheet_faultOfTwo_31 : decode b_Sheet_faultOfTwo 31 = .ok (.aload_n 0, 1) := by decide +kernel
theorem d_Sheet_faultOfTwo_32 : decode b_Sheet_faultOfTwo 32 = .ok (.iload_n 2, 1) := by decide +kernel
theorem d_Sheet_faultOfTwo_33 : decode b_Sheet_faultOfTwo 33 = .ok (.iconst 1, 1) := by decide +kernel
theorem d_Sheet_faultOfTwo_34 : decode b_Sheet_faultOfTwo 34 = .ok (.iadd, 1) := by decide +kernel
theorem d_Sheet_faultOfTwo_35 : decode b_Sheet_faultOfTwo 35 = .ok (.invokevirtual 24, 3) := by decide +kernel
theorem d_Sheet_faultOfTwo_38 : decode b_Sheet_faultOfTwo 38 = .ok (.ireturn, 1) := by decide +kernel
def X_Sheet_faultOfTwo (n : Nat) (o : Nat) (p1 : Int32) (p2 : Int32) (M : Mem) : Option (Int32 × Mem) :=
  nm (bd (X_Sheet_faultAt n o p2 M) fun r1 M2 =>
    (if r1 = 0 then
      bd (X_Sheet_faultAt n o (p2 + 1) M2) fun r3 M4 =>
      some (r3, M4)
      else
      some (r1, M2)) : Option (Int32 × Mem)) fun k17 =>
  (if (M.1 o 0) = 0 then
    k17
    else
    (if (M.1 o 2) = p1 then
      k17
      else
      some (3, M)))
set_option maxRecDepth 20000 in
set_option maxHeartbeats 4000000 in
theorem C_Sheet_faultOfTwo (n : Nat) (o : Nat) (h_o : SHx[o]? = some (5, [0, 0, 0, o + 1 + 2])) (h_o1 : SHx[o + 1]? = some (100, [40])) (p1 : Int32) (p2 : Int32) (M : Mem) : Ct y_Sheet_faultOfTwo mt_Sheet_faultOfTwo wI [Value.ref o, Value.int p1, Value.int p2] M (X_Sheet_faultOfTwo n o p1 p2 M) := by
  refine ct_of (by decide +kernel) rfl (Nat.le_of_ble_eq_true rfl) ?_
  show J _ _ _ [(0, Value.ref o), (1, Value.int p1), (2, Value.int p2)] _ _ _
  unfold X_Sheet_faultOfTwo
  refine j_aload_n (pc := 0) (q := 0) d_Sheet_faultOfTwo_0 rfl rfl ?_
  refine j_getI (pc := 1) d_Sheet_faultOfTwo_1 fl_Sheet_13 h_o (by decide) rfl ?_
  refine j_nmk (fun k => J (mt_Sheet_faultOfTwo) wI 17 [(0, Value.ref o), (2, Value.int p2)] [] M k) (?_) (fun k17 hk17 => ?_)
  · refine j_aload_n (pc := 17) (q := 0) d_Sheet_faultOfTwo_17 rfl rfl ?_
    refine j_iload_n (pc := 18) (q := 1) d_Sheet_faultOfTwo_18 rfl rfl ?_
    refine j_callV1 (pc := 19) d_Sheet_faultOfTwo_19 (C_Sheet_faultAt n o h_o h_o1 p2 M) cV_Sheet_24 cd_Sheet_faultAt dn_Sheet_faultAt rfl (by decide) (Nat.le_of_ble_eq_true rfl) (Nat.le_of_ble_eq_true rfl) nr_I h_o (by decide) rfl (fun r1 M2 => ?_)
    refine j_istore_n (pc := 22) d_Sheet_faultOfTwo_22 rfl (by decide) rfl ?_
    refine j_iload_n (pc := 23) (q := 0) d_Sheet_faultOfTwo_23 rfl rfl ?_
    refine j_if_eq (pc := 24) (tgt := 31) d_Sheet_faultOfTwo_24 (by decide) (fun _ => ?_) (fun _ => ?_)
    · refine j_aload_n (pc := 31) (q := 1) d_Sheet_faultOfTwo_31 rfl rfl ?_
      refine j_iload_n (pc := 32) (q := 2) d_Sheet_faultOfTwo_32 rfl rfl ?_
      refine j_iconst (pc := 33) d_Sheet_faultOfTwo_33 k_i_1 ?_
      refine j_iadd (pc := 34) d_Sheet_faultOfTwo_34 ?_
      refine j_callV1 (pc := 35) d_Sheet_faultOfTwo_35 (C_Sheet_faultAt n o h_o h_o1 (p2 + 1) M2) cV_Sheet_24 cd_Sheet_faultAt dn_Sheet_faultAt rfl (by decide) (Nat.le_of_ble_eq_true rfl) (Nat.le_of_ble_eq_true rfl) nr_I h_o (by decide) rfl (fun r3 M4 => ?_)
      exact j_ireturn (pc := 38) d_Sheet_faultOfTwo_38 rfl
    · refine j_iload_n (pc := 27) (q := 0) d_Sheet_faultOfTwo_27 rfl rfl ?_
      refine j_goto (pc := 28) (tgt := 38) d_Sheet_faultOfTwo_28 (by decide) ?_
      exact j_ireturn (pc := 38) d_Sheet_faultOfTwo_38 rfl
  · refine j_if_eq (pc := 4) (tgt := 17) d_Sheet_faultOfTwo_4 (by decide) (fun _ => ?_) (fun _ => ?_)
    · refine j_lv [0, 2] rfl ?_
      exact hk17
    · refine j_aload_n (pc := 7) (q := 0) d_Sheet_faultOfTwo_7 rfl rfl ?_
      refine j_getI (pc := 8) d_Sheet_faultOfTwo_8 fl_Sheet_17 h_o (by decide) rfl ?_
      refine j_iload_n (pc := 11) (q := 1) d_Sheet_faultOfTwo_11 rfl rfl ?_
      refine j_icmp_eq (pc := 12) (tgt := 17) d_Sheet_faultOfTwo_12 (by decide) (fun _ => ?_) (fun _ => ?_)
      · refine j_lv [0, 2] rfl ?_
        exact hk17
      · refine j_iconst (pc := 15) d_Sheet_faultOfTwo_15 k_i_3 ?_
        exact j_ireturn (pc := 16) d_Sheet_faultOfTwo_16 rfl
-- Sheet.cellAt (I)I
def mt_Sheet_cellAt : Mt := ("ShakeHands$Sheet", b_Sheet_cellAt, 2, some .int, 3, SHx)
theorem d_Sheet_cellAt_0 : decode b_Sheet_cellAt 0 = .ok (.aload_n 0, 1) := by decide +kernel
theorem d_Sheet_cellAt_1 : decode b_Sheet_cellAt 1 = .ok (.iload_n 1, 1) := by decide +kernel
theorem d_Sheet_cellAt_2 : decode b_Sheet_cellAt 2 = .ok (.invokevirtual 24, 3) := by decide +kernel
theorem d_Sheet_cellAt_5 : decode b_Sheet_cellAt 5 = .ok (.ifCond .ne 12, 3) := by decide +kernel
theorem d_Sheet_cellAt_8 : decode b_Sheet_cellAt 8 = .ok (.aload_n 0, 1) := by decide +kernel
theorem d_Sheet_cellAt_9 : decode b_Sheet_cellAt 9 = .ok (.getfield 9, 3) := by decide +kernel
theorem d_Sheet_cellAt_12 : decode b_Sheet_cellAt 12 = .ok (.iload_n 1, 1) := by decide +kernel
theorem d_Sheet_cellAt_13 : decode b_Sheet_cellAt 13 = .ok (.iaload, 1) := by decide +kernel
theorem d_Sheet_cellAt_14 : decode b_Sheet_cellAt 14 = .ok (.goto 4, 3) := by decide +kernel
theorem d_Sheet_cellAt_17 : decode b_Sheet_cellAt 17 = .ok (.iconst 0, 1) := by decide +kernel
theorem d_Sheet_cellAt_18 : decode b_Sheet_cellAt 18 = .ok (.ireturn, 1) := by decide +kernel
def X_Sheet_cellAt (n : Nat) (o : Nat) (p1 : Int32) (M : Mem) : Option (Int32 × Mem) :=
  bd (X_Sheet_faultAt n o p1 M) fun r1 M2 =>
  (if r1 = 0 then
    gd p1 40 (
      some ((M2.1 (o + 1) p1.toNatClampNeg), M2))
    else
    some (0, M2))
set_option maxRecDepth 20000 in
set_option maxHeartbeats 4000000 in
theorem C_Sheet_cellAt (n : Nat) (o : Nat) (h_o : SHx[o]? = some (5, [0, 0, 0, o + 1 + 2])) (h_o1 : SHx[o + 1]? = some (100, [40])) (p1 : Int32) (M : Mem) : Ct y_Sheet_cellAt mt_Sheet_cellAt wI [Value.ref o, Value.int p1] M (X_Sheet_cellAt n o p1 M) := by
  refine ct_of (by decide +kernel) rfl (Nat.le_of_ble_eq_true rfl) ?_
  show J _ _ _ [(0, Value.ref o), (1, Value.int p1)] _ _ _
  unfold X_Sheet_cellAt
  refine j_aload_n (pc := 0) (q := 0) d_Sheet_cellAt_0 rfl rfl ?_
  refine j_iload_n (pc := 1) (q := 1) d_Sheet_cellAt_1 rfl rfl ?_
  refine j_callV1 (pc := 2) d_Sheet_cellAt_2 (C_Sheet_faultAt n o h_o h_o1 p1 M) cV_Sheet_24 cd_Sheet_faultAt dn_Sheet_faultAt rfl (by decide) (Nat.le_of_ble_eq_true rfl) (Nat.le_of_ble_eq_true rfl) nr_I h_o (by decide) rfl (fun r1 M2 => ?_)
  refine j_if_ne (pc := 5) (tgt := 17) d_Sheet_cellAt_5 (by decide) (fun _ => ?_) (fun _ => ?_)
  · refine j_iconst (pc := 17) d_Sheet_cellAt_17 k_i_0 ?_
    exact j_ireturn (pc := 18) d_Sheet_cellAt_18 rfl
  · refine j_aload_n (pc := 8) (q := 0) d_Sheet_cellAt_8 rfl rfl ?_
    refine j_getA (pc := 9) d_Sheet_cellAt_9 fl_Sheet_9 h_o (by decide) rfl ?_
    refine j_iload_n (pc := 12) (q := 1) d_Sheet_cellAt_12 rfl rfl ?_
    refine j_iald (pc := 13) d_Sheet_cellAt_13 h_o1 (fun _ => ?_)
    refine j_goto (pc := 14) (tgt := 18) d_Sheet_cellAt_14 (by decide) ?_
    exact j_ireturn (pc := 18) d_Sheet_cellAt_18 rfl
-- Tape.append (J)Z
def mt_Tape_append : Mt := ("ShakeHands$Tape", b_Tape_append, 4, some .boolean, 2, SHx)
theorem d_Tape_append_0 : decode b_Tape_append 0 = .ok (.aload_n 0, 1) := by decide +kernel
theorem d_Tape_append_1 : decode b_Tape_append 1 = .ok (.getfield 13, 3) := by decide +kernel
theorem d_Tape_append_4 : decode b_Tape_append 4 = .ok (.sipush 312, 3) := by decide +kernel
theorem d_Tape_append_7 : decode b_Tape_append 7 = .ok (.if_icmp .le 5, 3) := by decide +kernel
theorem d_Tape_append_10 : decode b_Tape_append 10 = .ok (.iconst 0, 1) := by decide +kernel
theorem d_Tape_append_11 : decode b_Tape_append 11 = .ok (.ireturn, 1) := by decide +kernel
theorem d_Tape_append_12 : decode b_Tape_append 12 = .ok (.iconst 0, 1) := by decide +kernel
theorem d_Tape_append_13 : decode b_Tape_append 13 = .ok (.istore_n 3, 1) := by decide +kernel
theorem d_Tape_append_14 : decode b_Tape_append 14 = .ok (.iload_n 3, 1) := by decide +kernel
theorem d_Tape_append_15 : decode b_Tape_append 15 = .ok (.bipush 8, 2) := by decide +kernel
theorem d_Tape_append_17 : decode b_Tape_append 17 = .ok (.if_icmp .ge 31, 3) := by decide +kernel
theorem d_Tape_append_20 : decode b_Tape_append 20 = .ok (.aload_n 0, 1) := by decide +kernel
theorem d_Tape_append_21 : decode b_Tape_append 21 = .ok (.getfield 9, 3) := by decide +kernel
theorem d_Tape_append_24 : decode b_Tape_append 24 = .ok (.aload_n 0, 1) := by decide +kernel
theorem d_Tape_append_25 : decode b_Tape_append 25 = .ok (.getfield 13, 3) := by decide +kernel
theorem d_Tape_append_28 : decode b_Tape_append 28 = .ok (.iload_n 3, 1) := by decide +kernel
theorem d_Tape_append_29 : decode b_Tape_append 29 = .ok (.iadd, 1) := by decide +kernel
theorem d_Tape_append_30 : decode b_Tape_append 30 = .ok (.lload_n 1, 1) := by decide +kernel
theorem d_Tape_append_31 : decode b_Tape_append 31 = .ok (.bipush 56, 2) := by decide +kernel
theorem d_Tape_append_33 : decode b_Tape_append 33 = .ok (.bipush 8, 2) := by decide +kernel
theorem d_Tape_append_35 : decode b_Tape_append 35 = .ok (.iload_n 3, 1) := by decide +kernel
theorem d_Tape_append_36 : decode b_Tape_append 36 = .ok (.imul, 1) := by decide +kernel
theorem d_Tape_append_37 : decode b_Tape_append 37 = .ok (.isub, 1) := by decide +kernel
theorem d_Tape_append_38 : decode b_Tape_append 38 = .ok (.lushr, 1) := by decide +kernel
theorem d_Tape_append_39 : decode b_Tape_append 39 = .ok (.l2i, 1) := by decide +kernel
theorem d_Tape_append_40 : decode b_Tape_append 40 = .ok (.i2b, 1) := by decide +kernel
theorem d_Tape_append_41 : decode b_Tape_append 41 = .ok (.bastore, 1) := by decide +kernel
theorem d_Tape_append_42 : decode b_Tape_append 42 = .ok (.iinc 3 1, 3) := by decide +kernel
theorem d_Tape_append_45 : decode b_Tape_append 45 = .ok (.goto (-31), 3) := by decide +kernel
theorem d_Tape_append_48 : decode b_Tape_append 48 = .ok (.aload_n 0, 1) := by decide +kernel
theorem d_Tape_append_49 : decode b_Tape_append 49 = .ok (.dup, 1) := by decide +kernel
theorem d_Tape_append_50 : decode b_Tape_append 50 = .ok (.getfield 13, 3) := by decide +kernel
theorem d_Tape_append_53 : decode b_Tape_append 53 = .ok (.bipush 8, 2) := by decide +kernel
theorem d_Tape_append_55 : decode b_Tape_append 55 = .ok (.iadd, 1) := by decide +kernel
theorem d_Tape_append_56 : decode b_Tape_append 56 = .ok (.putfield 13, 3) := by decide +kernel
theorem d_Tape_append_59 : decode b_Tape_append 59 = .ok (.iconst 1, 1) := by decide +kernel
theorem d_Tape_append_60 : decode b_Tape_append 60 = .ok (.ireturn, 1) := by decide +kernel
def X_Tape_append_L14 (n : Nat) (a1 : Int64) (kx48 : Mem → Option (Int32 × Mem)) : Nat → Int32 → Mem → Option (Int32 × Mem)
    | 0, _, _ => none
    | m + 1, v3, M => (if 8 ≤ v3 then
    kx48 M
    else
    gd ((M.1 1 1) + v3) 320 (
      X_Tape_append_L14 n a1 kx48 m (v3 + 1) (si M 2 (((M.1 1 1) + v3).toNatClampNeg) (vp_nar .byte ((((((a1.toUInt64 >>> (((56 : Int32) - ((8 : Int32) * v3)).toInt64.toUInt64 &&& Int64.toUInt64 63)).toInt64) : Int64).toInt32) : Int32).toInt8.toInt32)))))
def X_Tape_append (n : Nat) (p1 : Int64) (M : Mem) : Option (Int32 × Mem) :=
  (if (M.1 1 1) ≤ 312 then
    X_Tape_append_L14 n p1 (fun M1 => some (1, si M1 1 1 ((M1.1 1 1) + 8))) n 0 M
    else
    some (0, M))
set_option maxRecDepth 20000 in
set_option maxHeartbeats 4000000 in
theorem X_Tape_append_L14_ok {n : Nat} {a1 : Int64} {kx48 : Mem → Option (Int32 × Mem)} (hkx48 : ∀ (M : Mem), J (mt_Tape_append) wI 48 [(0, Value.ref 1)] [] M (kx48 M)) : ∀ (m : Nat) (v3 : Int32) (M : Mem), J (mt_Tape_append) wI 14 [(0, Value.ref 1), (1, Value.long a1), (3, Value.int v3)] [] M (X_Tape_append_L14 n a1 kx48 m v3 M) := by
  intro m
  induction m with
  | zero => intro _ _; exact j_none
  | succ m ih =>
    intro v3 M
    show J _ _ _ _ _ _ ((if 8 ≤ v3 then
kx48 M
else
gd ((M.1 1 1) + v3) 320 (
X_Tape_append_L14 n a1 kx48 m (v3 + 1) (si M 2 (((M.1 1 1) + v3).toNatClampNeg) (vp_nar .byte ((((((a1.toUInt64 >>> (((56 : Int32) - ((8 : Int32) * v3)).toInt64.toUInt64 &&& Int64.toUInt64 63)).toInt64) : Int64).toInt32) : Int32).toInt8.toInt32))))))
    refine j_iload_n (pc := 14) (q := 2) d_Tape_append_14 rfl rfl ?_
    refine j_bipush (pc := 15) d_Tape_append_15 k_b_8 ?_
    refine j_icmp_ge (pc := 17) (tgt := 48) d_Tape_append_17 (by decide) (fun _ => ?_) (fun _ => ?_)
    · refine j_lv [0] rfl ?_
      exact hkx48 M
    · refine j_aload_n (pc := 20) (q := 0) d_Tape_append_20 rfl rfl ?_
      refine j_getA (pc := 21) d_Tape_append_21 fl_Tape_9 sx_1 (by decide) rfl ?_
      refine j_aload_n (pc := 24) (q := 0) d_Tape_append_24 rfl rfl ?_
      refine j_getI (pc := 25) d_Tape_append_25 fl_Tape_13 sx_1 (by decide) rfl ?_
      refine j_iload_n (pc := 28) (q := 2) d_Tape_append_28 rfl rfl ?_
      refine j_iadd (pc := 29) d_Tape_append_29 ?_
      refine j_lload_n (pc := 30) (q := 1) d_Tape_append_30 rfl rfl ?_
      refine j_bipush (pc := 31) d_Tape_append_31 k_b_56 ?_
      refine j_bipush (pc := 33) d_Tape_append_33 k_b_8 ?_
      refine j_iload_n (pc := 35) (q := 2) d_Tape_append_35 rfl rfl ?_
      refine j_imul (pc := 36) d_Tape_append_36 ?_
      refine j_isub (pc := 37) d_Tape_append_37 ?_
      refine j_lushr (pc := 38) d_Tape_append_38 ?_
      refine j_l2i (pc := 39) d_Tape_append_39 ?_
      refine j_i2b (pc := 40) d_Tape_append_40 ?_
      refine j_bast (pc := 41) d_Tape_append_41 sx_2 (fun _ => ?_)
      refine j_iinc (pc := 42) (q := 2) d_Tape_append_42 rfl (congrArg (v3 + ·) k_i_1) (by decide) rfl ?_
      refine j_goto (pc := 45) (tgt := 14) d_Tape_append_45 (by decide) ?_
      refine j_lv [1, 2, 0] rfl ?_
      exact ih (v3 + 1) (si M 2 (((M.1 1 1) + v3).toNatClampNeg) (vp_nar .byte ((((((a1.toUInt64 >>> (((56 : Int32) - ((8 : Int32) * v3)).toInt64.toUInt64 &&& Int64.toUInt64 63)).toInt64) : Int64).toInt32) : Int32).toInt8.toInt32)))
set_option maxRecDepth 20000 in
set_option maxHeartbeats 4000000 in
theorem C_Tape_append (n : Nat)   (p1 : Int64) (M : Mem) : Ct y_Tape_append mt_Tape_append wI [Value.ref 1, Value.long p1] M (X_Tape_append n p1 M) := by
  refine ct_of (by decide +kernel) rfl (Nat.le_of_ble_eq_true rfl) ?_
  show J _ _ _ [(0, Value.ref 1), (1, Value.long p1)] _ _ _
  unfold X_Tape_append
  refine j_aload_n (pc := 0) (q := 0) d_Tape_append_0 rfl rfl ?_
  refine j_getI (pc := 1) d_Tape_append_1 fl_Tape_13 sx_1 (by decide) rfl ?_
  refine j_sipush (pc := 4) d_Tape_append_4 k_s_312 ?_
  refine j_icmp_le (pc := 7) (tgt := 12) d_Tape_append_7 (by decide) (fun _ => ?_) (fun _ => ?_)
  · refine j_iconst (pc := 12) d_Tape_append_12 k_i_0 ?_
    refine j_istore_n (pc := 13) d_Tape_append_13 rfl (by decide) rfl ?_
    refine j_lv [1, 2, 0] rfl ?_
    refine X_Tape_append_L14_ok  (fun M1 => ?_) n 0 M
    refine j_aload_n (pc := 48) (q := 0) d_Tape_append_48 rfl rfl ?_
    refine j_dup (pc := 49) d_Tape_append_49 rfl ?_
    refine j_getI (pc := 50) d_Tape_append_50 fl_Tape_13 sx_1 (by decide) rfl ?_
    refine j_bipush (pc := 53) d_Tape_append_53 k_b_8 ?_
    refine j_iadd (pc := 55) d_Tape_append_55 ?_
    refine j_putI (pc := 56) d_Tape_append_56 fl_Tape_13 rfl sx_1 (by decide) rfl ?_
    refine j_iconst (pc := 59) d_Tape_append_59 k_i_1 ?_
    exact j_zreturn (pc := 60) d_Tape_append_60 rfl rfl
  · refine j_iconst (pc := 10) d_Tape_append_10 k_i_0 ?_
    exact j_zreturn (pc := 11) d_Tape_append_11 rfl rfl
-- ShakeHands.pairOf (II)I
def mt_ShakeHands_pairOf : Mt := ("ShakeHands", b_ShakeHands_pairOf, 3, some .int, 2, SHx)
theorem d_ShakeHands_pairOf_0 : decode b_ShakeHands_pairOf 0 = .ok (.iload_n 0, 1) := by decide +kernel
theorem d_ShakeHands_pairOf_1 : decode b_ShakeHands_pairOf 1 = .ok (.iload_n 1, 1) := by decide +kernel
theorem d_ShakeHands_pairOf_2 : decode b_ShakeHands_pairOf 2 = .ok (.invokestatic 305, 3) := by decide +kernel
theorem d_ShakeHands_pairOf_5 : decode b_ShakeHands_pairOf 5 = .ok (.istore_n 2, 1) := by decide +kernel
theorem d_ShakeHands_pairOf_6 : decode b_ShakeHands_pairOf 6 = .ok (.iload_n 2, 1) := by decide +kernel
theorem d_ShakeHands_pairOf_7 : decode b_ShakeHands_pairOf 7 = .ok (.iload_n 2, 1) := by decide +kernel
theorem d_ShakeHands_pairOf_8 : decode b_ShakeHands_pairOf 8 = .ok (.iconst 1, 1) := by decide +kernel
theorem d_ShakeHands_pairOf_9 : decode b_ShakeHands_pairOf 9 = .ok (.isub, 1) := by decide +kernel
theorem d_ShakeHands_pairOf_10 : decode b_ShakeHands_pairOf 10 = .ok (.imul, 1) := by decide +kernel
theorem d_ShakeHands_pairOf_11 : decode b_ShakeHands_pairOf 11 = .ok (.iconst 2, 1) := by decide +kernel
theorem d_ShakeHands_pairOf_12 : decode b_ShakeHands_pairOf 12 = .ok (.idiv, 1) := by decide +kernel
theorem d_ShakeHands_pairOf_13 : decode b_ShakeHands_pairOf 13 = .ok (.iload_n 0, 1) := by decide +kernel
theorem d_ShakeHands_pairOf_14 : decode b_ShakeHands_pairOf 14 = .ok (.iload_n 1, 1) := by decide +kernel
theorem d_ShakeHands_pairOf_15 : decode b_ShakeHands_pairOf 15 = .ok (.invokestatic 310, 3) := by decide +kernel
theorem d_ShakeHands_pairOf_18 : decode b_ShakeHands_pairOf 18 = .ok (.iadd, 1) := by decide +kernel
theorem d_ShakeHands_pairOf_19 : decode b_ShakeHands_pairOf 19 = .ok (.ireturn, 1) := by decide +kernel
def X_ShakeHands_pairOf (n : Nat) (p0 : Int32) (p1 : Int32) (M : Mem) : Option (Int32 × Mem) :=
  nm (if p0 < p1 then p1 else p0) fun x1 =>
  (if 2 = 0 then none else
    some ((((x1 * (x1 - 1)) / 2) + (if p1 < p0 then p1 else p0)), M))
set_option maxRecDepth 20000 in
set_option maxHeartbeats 4000000 in
theorem C_ShakeHands_pairOf (n : Nat)   (p0 : Int32) (p1 : Int32) (M : Mem) : Ct y_ShakeHands_pairOf mt_ShakeHands_pairOf wI [Value.int p0, Value.int p1] M (X_ShakeHands_pairOf n p0 p1 M) := by
  refine ct_of (by decide +kernel) rfl (Nat.le_of_ble_eq_true rfl) ?_
  show J _ _ _ [(0, Value.int p0), (1, Value.int p1)] _ _ _
  unfold X_ShakeHands_pairOf
  refine j_iload_n (pc := 0) (q := 0) d_ShakeHands_pairOf_0 rfl rfl ?_
  refine j_iload_n (pc := 1) (q := 1) d_ShakeHands_pairOf_1 rfl rfl ?_
  refine j_mmax (pc := 2) d_ShakeHands_pairOf_2 mw_ShakeHands_305 ms_max mc_max (by decide) (Nat.le_of_ble_eq_true rfl) ?_
  refine j_nmi (fun x1 => ?_)
  refine j_istore_n (pc := 5) d_ShakeHands_pairOf_5 rfl (by decide) rfl ?_
  refine j_iload_n (pc := 6) (q := 0) d_ShakeHands_pairOf_6 rfl rfl ?_
  refine j_iload_n (pc := 7) (q := 0) d_ShakeHands_pairOf_7 rfl rfl ?_
  refine j_iconst (pc := 8) d_ShakeHands_pairOf_8 k_i_1 ?_
  refine j_isub (pc := 9) d_ShakeHands_pairOf_9 ?_
  refine j_imul (pc := 10) d_ShakeHands_pairOf_10 ?_
  refine j_iconst (pc := 11) d_ShakeHands_pairOf_11 k_i_2 ?_
  refine j_idiv (pc := 12) d_ShakeHands_pairOf_12 (fun _ => ?_)
  refine j_iload_n (pc := 13) (q := 1) d_ShakeHands_pairOf_13 rfl rfl ?_
  refine j_iload_n (pc := 14) (q := 2) d_ShakeHands_pairOf_14 rfl rfl ?_
  refine j_mmin (pc := 15) d_ShakeHands_pairOf_15 mw_ShakeHands_310 ms_min mc_min (by decide) (Nat.le_of_ble_eq_true rfl) ?_
  refine j_iadd (pc := 18) d_ShakeHands_pairOf_18 ?_
  exact j_ireturn (pc := 19) d_ShakeHands_pairOf_19 rfl
end
section
-- Circle.beAsAtFirst ()V
def mt_Circle_beAsAtFirst : Mt := ("ShakeHands$Circle", b_Circle_beAsAtFirst, 1, none, 2, SHx)
theorem d_Circle_beAsAtFirst_0 : decode b_Circle_beAsAtFirst 0 = .ok (.aload_n 0, 1) := by decide +kernel
theorem d_Circle_beAsAtFirst_1 : decode b_Circle_beAsAtFirst 1 = .ok (.iconst 3, 1) := by decide +kernel
theorem d_Circle_beAsAtFirst_2 : decode b_Circle_beAsAtFirst 2 = .ok (.putfield 13, 3) := by decide +kernel
theorem d_Circle_beAsAtFirst_5 : decode b_Circle_beAsAtFirst 5 = .ok (.aload_n 0, 1) := by decide +kernel
theorem d_Circle_beAsAtFirst_6 : decode b_Circle_beAsAtFirst 6 = .ok (.bipush 9, 2) := by decide +kernel
theorem d_Circle_beAsAtFirst_8 : decode b_Circle_beAsAtFirst 8 = .ok (.putfield 17, 3) := by decide +kernel
theorem d_Circle_beAsAtFirst_11 : decode b_Circle_beAsAtFirst 11 = .ok (.aload_n 0, 1) := by decide +kernel
theorem d_Circle_beAsAtFirst_12 : decode b_Circle_beAsAtFirst 12 = .ok (.iconst 0, 1) := by decide +kernel
theorem d_Circle_beAsAtFirst_13 : decode b_Circle_beAsAtFirst 13 = .ok (.putfield 35, 3) := by decide +kernel
theorem d_Circle_beAsAtFirst_16 : decode b_Circle_beAsAtFirst 16 = .ok (.aload_n 0, 1) := by decide +kernel
theorem d_Circle_beAsAtFirst_17 : decode b_Circle_beAsAtFirst 17 = .ok (.iconst 0, 1) := by decide +kernel
theorem d_Circle_beAsAtFirst_18 : decode b_Circle_beAsAtFirst 18 = .ok (.putfield 38, 3) := by decide +kernel
theorem d_Circle_beAsAtFirst_21 : decode b_Circle_beAsAtFirst 21 = .ok (.aload_n 0, 1) := by decide +kernel
theorem d_Circle_beAsAtFirst_22 : decode b_Circle_beAsAtFirst 22 = .ok (.iconst 0, 1) := by decide +kernel
theorem d_Circle_beAsAtFirst_23 : decode b_Circle_beAsAtFirst 23 = .ok (.putfield 41, 3) := by decide +kernel
theorem d_Circle_beAsAtFirst_26 : decode b_Circle_beAsAtFirst 26 = .ok (.return_, 1) := by decide +kernel
def X_Circle_beAsAtFirst (n : Nat) (M : Mem) : Option (Unit × Mem) :=
  some ((), si (si (si (si (si M 4 0 3) 4 1 9) 4 3 0) 4 5 0) 4 7 0)
set_option maxRecDepth 20000 in
set_option maxHeartbeats 4000000 in
theorem C_Circle_beAsAtFirst (n : Nat)    (M : Mem) : Ct y_Circle_beAsAtFirst mt_Circle_beAsAtFirst wU [Value.ref 4] M (X_Circle_beAsAtFirst n M) := by
  refine ct_of (by decide +kernel) rfl (Nat.le_of_ble_eq_true rfl) ?_
  show J _ _ _ [(0, Value.ref 4)] _ _ _
  unfold X_Circle_beAsAtFirst
  refine j_aload_n (pc := 0) (q := 0) d_Circle_beAsAtFirst_0 rfl rfl ?_
  refine j_iconst (pc := 1) d_Circle_beAsAtFirst_1 k_i_3 ?_
  refine j_putI (pc := 2) d_Circle_beAsAtFirst_2 fl_Circle_13 rfl sx_4 (by decide) rfl ?_
  refine j_aload_n (pc := 5) (q := 0) d_Circle_beAsAtFirst_5 rfl rfl ?_
  refine j_bipush (pc := 6) d_Circle_beAsAtFirst_6 k_b_9 ?_
  refine j_putI (pc := 8) d_Circle_beAsAtFirst_8 fl_Circle_17 rfl sx_4 (by decide) rfl ?_
  refine j_aload_n (pc := 11) (q := 0) d_Circle_beAsAtFirst_11 rfl rfl ?_
  refine j_iconst (pc := 12) d_Circle_beAsAtFirst_12 k_i_0 ?_
  refine j_putI (pc := 13) d_Circle_beAsAtFirst_13 fl_Circle_35 rfl sx_4 (by decide) rfl ?_
  refine j_aload_n (pc := 16) (q := 0) d_Circle_beAsAtFirst_16 rfl rfl ?_
  refine j_iconst (pc := 17) d_Circle_beAsAtFirst_17 k_i_0 ?_
  refine j_putI (pc := 18) d_Circle_beAsAtFirst_18 fl_Circle_38 rfl sx_4 (by decide) rfl ?_
  refine j_aload_n (pc := 21) (q := 0) d_Circle_beAsAtFirst_21 rfl rfl ?_
  refine j_iconst (pc := 22) d_Circle_beAsAtFirst_22 k_i_0 ?_
  refine j_putI (pc := 23) d_Circle_beAsAtFirst_23 fl_Circle_41 rfl sx_4 (by decide) rfl ?_
  exact j_return (pc := 26) d_Circle_beAsAtFirst_26 rfl
-- Circle.copy (LShakeHands$Circle;)V
def mt_Circle_copy : Mt := ("ShakeHands$Circle", b_Circle_copy, 2, none, 2, SHx)
theorem d_Circle_copy_0 : decode b_Circle_copy 0 = .ok (.aload_n 0, 1) := by decide +kernel
theorem d_Circle_copy_1 : decode b_Circle_copy 1 = .ok (.aload_n 1, 1) := by decide +kernel
theorem d_Circle_copy_2 : decode b_Circle_copy 2 = .ok (.getfield 13, 3) := by decide +kernel
theorem d_Circle_copy_5 : decode b_Circle_copy 5 = .ok (.putfield 13, 3) := by decide +kernel
theorem d_Circle_copy_8 : decode b_Circle_copy 8 = .ok (.aload_n 0, 1) := by decide +kernel
theorem d_Circle_copy_9 : decode b_Circle_copy 9 = .ok (.aload_n 1, 1) := by decide +kernel
theorem d_Circle_copy_10 : decode b_Circle_copy 10 = .ok (.getfield 17, 3) := by decide +kernel
theorem d_Circle_copy_13 : decode b_Circle_copy 13 = .ok (.putfield 17, 3) := by decide +kernel
theorem d_Circle_copy_16 : decode b_Circle_copy 16 = .ok (.aload_n 0, 1) := by decide +kernel
theorem d_Circle_copy_17 : decode b_Circle_copy 17 = .ok (.aload_n 1, 1) := by decide +kernel
theorem d_Circle_copy_18 : decode b_Circle_copy 18 = .ok (.getfield 35, 3) := by decide +kernel
theorem d_Circle_copy_21 : decode b_Circle_copy 21 = .ok (.putfield 35, 3) := by decide +kernel
theorem d_Circle_copy_24 : decode b_Circle_copy 24 = .ok (.aload_n 0, 1) := by decide +kernel
theorem d_Circle_copy_25 : decode b_Circle_copy 25 = .ok (.aload_n 1, 1) := by decide +kernel
theorem d_Circle_copy_26 : decode b_Circle_copy 26 = .ok (.getfield 38, 3) := by decide +kernel
theorem d_Circle_copy_29 : decode b_Circle_copy 29 = .ok (.putfield 38, 3) := by decide +kernel
theorem d_Circle_copy_32 : decode b_Circle_copy 32 = .ok (.aload_n 0, 1) := by decide +kernel
theorem d_Circle_copy_33 : decode b_Circle_copy 33 = .ok (.aload_n 1, 1) := by decide +kernel
theorem d_Circle_copy_34 : decode b_Circle_copy 34 = .ok (.getfield 41, 3) := by decide +kernel
theorem d_Circle_copy_37 : decode b_Circle_copy 37 = .ok (.putfield 41, 3) := by decide +kernel
theorem d_Circle_copy_40 : decode b_Circle_copy 40 = .ok (.aload_n 1, 1) := by decide +kernel
theorem d_Circle_copy_41 : decode b_Circle_copy 41 = .ok (.getfield 20, 3) := by decide +kernel
theorem d_Circle_copy_44 : decode b_Circle_copy 44 = .ok (.iconst 0, 1) := by decide +kernel
theorem d_Circle_copy_45 : decode b_Circle_copy 45 = .ok (.aload_n 0, 1) := by decide +kernel
theorem d_Circle_copy_46 : decode b_Circle_copy 46 = .ok (.getfield 20, 3) := by decide +kernel
theorem d_Circle_copy_49 : decode b_Circle_copy 49 = .ok (.iconst 0, 1) := by decide +kernel
theorem d_Circle_copy_50 : decode b_Circle_copy 50 = .ok (.bipush 12, 2) := by decide +kernel
theorem d_Circle_copy_52 : decode b_Circle_copy 52 = .ok (.invokestatic 44, 3) := by decide +kernel
theorem d_Circle_copy_55 : decode b_Circle_copy 55 = .ok (.aload_n 1, 1) := by decide +kernel
theorem d_Circle_copy_56 : decode b_Circle_copy 56 = .ok (.getfield 24, 3) := by decide +kernel
theorem d_Circle_copy_59 : decode b_Circle_copy 59 = .ok (.iconst 0, 1) := by decide +kernel
theorem d_Circle_copy_60 : decode b_Circle_copy 60 = .ok (.aload_n 0, 1) := by decide +kernel
theorem d_Circle_copy_61 : decode b_Circle_copy 61 = .ok (.getfield 24, 3) := by decide +kernel
theorem d_Circle_copy_64 : decode b_Circle_copy 64 = .ok (.iconst 0, 1) := by decide +kernel
theorem d_Circle_copy_65 : decode b_Circle_copy 65 = .ok (.bipush 16, 2) := by decide +kernel
theorem d_Circle_copy_67 : decode b_Circle_copy 67 = .ok (.invokestatic 44, 3) := by decide +kernel
theorem d_Circle_copy_70 : decode b_Circle_copy 70 = .ok (.aload_n 1, 1) := by decide +kernel
theorem d_Circle_copy_71 : decode b_Circle_copy 71 = .ok (.getfield 27, 3) := by decide +kernel
theorem d_Circle_copy_74 : decode b_Circle_copy 74 = .ok (.iconst 0, 1) := by decide +kernel
theorem d_Circle_copy_75 : decode b_Circle_copy 75 = .ok (.aload_n 0, 1) := by decide +kernel
theorem d_Circle_copy_76 : decode b_Circle_copy 76 = .ok (.getfield 27, 3) := by decide +kernel
theorem d_Circle_copy_79 : decode b_Circle_copy 79 = .ok (.iconst 0, 1) := by decide +kernel
theorem d_Circle_copy_80 : decode b_Circle_copy 80 = .ok (.bipush 8, 2) := by decide +kernel
theorem d_Circle_copy_82 : decode b_Circle_copy 82 = .ok (.invokestatic 44, 3) := by decide +kernel
theorem d_Circle_copy_85 : decode b_Circle_copy 85 = .ok (.return_, 1) := by decide +kernel
def X_Circle_copy (n : Nat) (M : Mem) : Option (Unit × Mem) :=
  nm (si M 11 0 (M.1 4 0)) fun N1 =>
  nm (si N1 11 1 (N1.1 4 1)) fun N2 =>
  nm (si N2 11 3 (N2.1 4 3)) fun N3 =>
  nm (si N3 11 5 (N3.1 4 5)) fun N4 =>
  nm (si N4 11 7 (N4.1 4 7)) fun N5 =>
  gc (0 : Int32) (0 : Int32) (12 : Int32) 12 12 (
    nm (cpI N5 5 ((0 : Int32).toNatClampNeg) 12 ((0 : Int32).toNatClampNeg) ((12 : Int32).toNatClampNeg)) fun N6 =>
    gc (0 : Int32) (0 : Int32) (16 : Int32) 16 16 (
      nm (cpI N6 6 ((0 : Int32).toNatClampNeg) 13 ((0 : Int32).toNatClampNeg) ((16 : Int32).toNatClampNeg)) fun N7 =>
      gc (0 : Int32) (0 : Int32) (8 : Int32) 8 8 (
        some ((), cpI N7 7 ((0 : Int32).toNatClampNeg) 14 ((0 : Int32).toNatClampNeg) ((8 : Int32).toNatClampNeg)))))
set_option maxRecDepth 20000 in
set_option maxHeartbeats 4000000 in
theorem C_Circle_copy (n : Nat)    (M : Mem) : Ct y_Circle_copy mt_Circle_copy wU [Value.ref 11, Value.ref 4] M (X_Circle_copy n M) := by
  refine ct_of (by decide +kernel) rfl (Nat.le_of_ble_eq_true rfl) ?_
  show J _ _ _ [(0, Value.ref 11), (1, Value.ref 4)] _ _ _
  unfold X_Circle_copy
  refine j_aload_n (pc := 0) (q := 0) d_Circle_copy_0 rfl rfl ?_
  refine j_aload_n (pc := 1) (q := 1) d_Circle_copy_1 rfl rfl ?_
  refine j_getI (pc := 2) d_Circle_copy_2 fl_Circle_13 sx_4 (by decide) rfl ?_
  refine j_putI (pc := 5) d_Circle_copy_5 fl_Circle_13 rfl sx_11 (by decide) rfl ?_
  refine j_aload_n (pc := 8) (q := 0) d_Circle_copy_8 rfl rfl ?_
  refine j_aload_n (pc := 9) (q := 1) d_Circle_copy_9 rfl rfl ?_
  refine j_nmM (fun N1 => ?_)
  refine j_getI (pc := 10) d_Circle_copy_10 fl_Circle_17 sx_4 (by decide) rfl ?_
  refine j_putI (pc := 13) d_Circle_copy_13 fl_Circle_17 rfl sx_11 (by decide) rfl ?_
  refine j_aload_n (pc := 16) (q := 0) d_Circle_copy_16 rfl rfl ?_
  refine j_aload_n (pc := 17) (q := 1) d_Circle_copy_17 rfl rfl ?_
  refine j_nmM (fun N2 => ?_)
  refine j_getI (pc := 18) d_Circle_copy_18 fl_Circle_35 sx_4 (by decide) rfl ?_
  refine j_putI (pc := 21) d_Circle_copy_21 fl_Circle_35 rfl sx_11 (by decide) rfl ?_
  refine j_aload_n (pc := 24) (q := 0) d_Circle_copy_24 rfl rfl ?_
  refine j_aload_n (pc := 25) (q := 1) d_Circle_copy_25 rfl rfl ?_
  refine j_nmM (fun N3 => ?_)
  refine j_getI (pc := 26) d_Circle_copy_26 fl_Circle_38 sx_4 (by decide) rfl ?_
  refine j_putI (pc := 29) d_Circle_copy_29 fl_Circle_38 rfl sx_11 (by decide) rfl ?_
  refine j_aload_n (pc := 32) (q := 0) d_Circle_copy_32 rfl rfl ?_
  refine j_aload_n (pc := 33) (q := 1) d_Circle_copy_33 rfl rfl ?_
  refine j_nmM (fun N4 => ?_)
  refine j_getI (pc := 34) d_Circle_copy_34 fl_Circle_41 sx_4 (by decide) rfl ?_
  refine j_putI (pc := 37) d_Circle_copy_37 fl_Circle_41 rfl sx_11 (by decide) rfl ?_
  refine j_aload_n (pc := 40) (q := 1) d_Circle_copy_40 rfl rfl ?_
  refine j_getA (pc := 41) d_Circle_copy_41 fl_Circle_20 sx_4 (by decide) rfl ?_
  refine j_iconst (pc := 44) d_Circle_copy_44 k_i_0 ?_
  refine j_aload_n (pc := 45) (q := 0) d_Circle_copy_45 rfl rfl ?_
  refine j_getA (pc := 46) d_Circle_copy_46 fl_Circle_20 sx_11 (by decide) rfl ?_
  refine j_iconst (pc := 49) d_Circle_copy_49 k_i_0 ?_
  refine j_bipush (pc := 50) d_Circle_copy_50 k_b_12 ?_
  refine j_nmM (fun N5 => ?_)
  refine j_copyI (pc := 52) d_Circle_copy_52 cw_Circle_44 cw_nat cw_st sx_5 sx_12 (by decide) (Nat.le_of_ble_eq_true rfl) ?_
  refine j_aload_n (pc := 55) (q := 1) d_Circle_copy_55 rfl rfl ?_
  refine j_getA (pc := 56) d_Circle_copy_56 fl_Circle_24 sx_4 (by decide) rfl ?_
  refine j_iconst (pc := 59) d_Circle_copy_59 k_i_0 ?_
  refine j_aload_n (pc := 60) (q := 0) d_Circle_copy_60 rfl rfl ?_
  refine j_getA (pc := 61) d_Circle_copy_61 fl_Circle_24 sx_11 (by decide) rfl ?_
  refine j_iconst (pc := 64) d_Circle_copy_64 k_i_0 ?_
  refine j_bipush (pc := 65) d_Circle_copy_65 k_b_16 ?_
  refine j_nmM (fun N6 => ?_)
  refine j_copyI (pc := 67) d_Circle_copy_67 cw_Circle_44 cw_nat cw_st sx_6 sx_13 (by decide) (Nat.le_of_ble_eq_true rfl) ?_
  refine j_aload_n (pc := 70) (q := 1) d_Circle_copy_70 rfl rfl ?_
  refine j_getA (pc := 71) d_Circle_copy_71 fl_Circle_27 sx_4 (by decide) rfl ?_
  refine j_iconst (pc := 74) d_Circle_copy_74 k_i_0 ?_
  refine j_aload_n (pc := 75) (q := 0) d_Circle_copy_75 rfl rfl ?_
  refine j_getA (pc := 76) d_Circle_copy_76 fl_Circle_27 sx_11 (by decide) rfl ?_
  refine j_iconst (pc := 79) d_Circle_copy_79 k_i_0 ?_
  refine j_bipush (pc := 80) d_Circle_copy_80 k_b_8 ?_
  refine j_nmM (fun N7 => ?_)
  refine j_copyI (pc := 82) d_Circle_copy_82 cw_Circle_44 cw_nat cw_st sx_7 sx_14 (by decide) (Nat.le_of_ble_eq_true rfl) ?_
  exact j_return (pc := 85) d_Circle_copy_85 rfl
-- Circle.firstJoin ()I
def mt_Circle_firstJoin : Mt := ("ShakeHands$Circle", b_Circle_firstJoin, 2, some .int, 2, SHx)
theorem d_Circle_firstJoin_0 : decode b_Circle_firstJoin 0 = .ok (.iconst 0, 1) := by decide +kernel
theorem d_Circle_firstJoin_1 : decode b_Circle_firstJoin 1 = .ok (.istore_n 1, 1) := by decide +kernel
theorem d_Circle_firstJoin_2 : decode b_Circle_firstJoin 2 = .ok (.iload_n 1, 1) := by decide +kernel
theorem d_Circle_firstJoin_3 : decode b_Circle_firstJoin 3 = .ok (.aload_n 0, 1) := by decide +kernel
theorem d_Circle_firstJoin_4 : decode b_Circle_firstJoin 4 = .ok (.getfield 35, 3) := by decide +kernel
theorem d_Circle_firstJoin_7 : decode b_Circle_firstJoin 7 = .ok (.if_icmp .ge 53, 3) := by decide +kernel
theorem d_Circle_firstJoin_10 : decode b_Circle_firstJoin 10 = .ok (.aload_n 0, 1) := by decide +kernel
theorem d_Circle_firstJoin_11 : decode b_Circle_firstJoin 11 = .ok (.getfield 31, 3) := by decide +kernel
theorem d_Circle_firstJoin_14 : decode b_Circle_firstJoin 14 = .ok (.getfield 88, 3) := by decide +kernel
theorem d_Circle_firstJoin_17 : decode b_Circle_firstJoin 17 = .ok (.aload_n 0, 1) := by decide +kernel
theorem d_Circle_firstJoin_18 : decode b_Circle_firstJoin 18 = .ok (.getfield 20, 3) := by decide +kernel
theorem d_Circle_firstJoin_21 : decode b_Circle_firstJoin 21 = .ok (.iconst 3, 1) := by decide +kernel
theorem d_Circle_firstJoin_22 : decode b_Circle_firstJoin 22 = .ok (.iload_n 1, 1) := by decide +kernel
theorem d_Circle_firstJoin_23 : decode b_Circle_firstJoin 23 = .ok (.imul, 1) := by decide +kernel
theorem d_Circle_firstJoin_24 : decode b_Circle_firstJoin 24 = .ok (.iaload, 1) := by decide +kernel
theorem d_Circle_firstJoin_25 : decode b_Circle_firstJoin 25 = .ok (.iushr, 1) := by decide +kernel
theorem d_Circle_firstJoin_26 : decode b_Circle_firstJoin 26 = .ok (.aload_n 0, 1) := by decide +kernel
theorem d_Circle_firstJoin_27 : decode b_Circle_firstJoin 27 = .ok (.getfield 31, 3) := by decide +kernel
theorem d_Circle_firstJoin_30 : decode b_Circle_firstJoin 30 = .ok (.getfield 88, 3) := by decide +kernel
theorem d_Circle_firstJoin_33 : decode b_Circle_firstJoin 33 = .ok (.aload_n 0, 1) := by decide +kernel
theorem d_Circle_firstJoin_34 : decode b_Circle_firstJoin 34 = .ok (.getfield 20, 3) := by decide +kernel
theorem d_Circle_firstJoin_37 : decode b_Circle_firstJoin 37 = .ok (.iconst 3, 1) := by decide +kernel
theorem d_Circle_firstJoin_38 : decode b_Circle_firstJoin 38 = .ok (.iload_n 1, 1) := by decide +kernel
theorem d_Circle_firstJoin_39 : decode b_Circle_firstJoin 39 = .ok (.imul, 1) := by decide +kernel
theorem d_Circle_firstJoin_40 : decode b_Circle_firstJoin 40 = .ok (.iconst 1, 1) := by decide +kernel
theorem d_Circle_firstJoin_41 : decode b_Circle_firstJoin 41 = .ok (.iadd, 1) := by decide +kernel
theorem d_Circle_firstJoin_42 : decode b_Circle_firstJoin 42 = .ok (.iaload, 1) := by decide +kernel
theorem d_Circle_firstJoin_43 : decode b_Circle_firstJoin 43 = .ok (.iushr, 1) := by decide +kernel
theorem d_Circle_firstJoin_44 : decode b_Circle_firstJoin 44 = .ok (.iand, 1) := by decide +kernel
theorem d_Circle_firstJoin_45 : decode b_Circle_firstJoin 45 = .ok (.iconst 1, 1) := by decide +kernel
theorem d_Circle_firstJoin_46 : decode b_Circle_firstJoin 46 = .ok (.iand, 1) := by decide +kernel
theorem d_Circle_firstJoin_47 : decode b_Circle_firstJoin 47 = .ok (.ifCond .eq 7, 3) := by decide +kernel
theorem d_Circle_firstJoin_50 : decode b_Circle_firstJoin 50 = .ok (.iconst 3, 1) := by decide +kernel
theorem d_Circle_firstJoin_51 : decode b_Circle_firstJoin 51 = .ok (.iload_n 1, 1) := by decide +kernel
theorem d_Circle_firstJoin_52 : decode b_Circle_firstJoin 52 = .ok (.imul, 1) := by decide +kernel
theorem d_Circle_firstJoin_53 : decode b_Circle_firstJoin 53 = .ok (.ireturn, 1) := by decide +kernel
theorem d_Circle_firstJoin_54 : decode b_Circle_firstJoin 54 = .ok (.iinc 1 1, 3) := by decide +kernel
theorem d_Circle_firstJoin_57 : decode b_Circle_firstJoin 57 = .ok (.goto (-55), 3) := by decide +kernel
theorem d_Circle_firstJoin_60 : decode b_Circle_firstJoin 60 = .ok (.iconst (-1), 1) := by decide +kernel
theorem d_Circle_firstJoin_61 : decode b_Circle_firstJoin 61 = .ok (.ireturn, 1) := by decide +kernel
def X_Circle_firstJoin_L2 (n : Nat) (M : Mem) : Nat → Int32 → Option (Int32 × Mem)
    | 0, _ => none
    | m + 1, v1 => (if (M.1 11 3) ≤ v1 then
    some ((-1), M)
    else
    gd ((3 : Int32) * v1) 12 (
      gd (((3 : Int32) * v1) + 1) 12 (
        (if (((((M.1 15 1).toUInt32 >>> ((M.1 12 ((3 : Int32) * v1).toNatClampNeg).toUInt32 &&& Int32.toUInt32 31)).toInt32) &&& (((M.1 15 1).toUInt32 >>> ((M.1 12 (((3 : Int32) * v1) + 1).toNatClampNeg).toUInt32 &&& Int32.toUInt32 31)).toInt32)) &&& 1) = 0 then
          X_Circle_firstJoin_L2 n M m (v1 + 1)
          else
          some (((3 : Int32) * v1), M)))))
def X_Circle_firstJoin (n : Nat) (M : Mem) : Option (Int32 × Mem) :=
  X_Circle_firstJoin_L2 n M n 0
set_option maxRecDepth 20000 in
set_option maxHeartbeats 4000000 in
theorem X_Circle_firstJoin_L2_ok {n : Nat} {M : Mem} : ∀ (m : Nat) (v1 : Int32), J (mt_Circle_firstJoin) wI 2 [(0, Value.ref 11), (1, Value.int v1)] [] M (X_Circle_firstJoin_L2 n M m v1) := by
  intro m
  induction m with
  | zero => intro _; exact j_none
  | succ m ih =>
    intro v1
    show J _ _ _ _ _ _ ((if (M.1 11 3) ≤ v1 then
some ((-1), M)
else
gd ((3 : Int32) * v1) 12 (
gd (((3 : Int32) * v1) + 1) 12 (
(if (((((M.1 15 1).toUInt32 >>> ((M.1 12 ((3 : Int32) * v1).toNatClampNeg).toUInt32 &&& Int32.toUInt32 31)).toInt32) &&& (((M.1 15 1).toUInt32 >>> ((M.1 12 (((3 : Int32) * v1) + 1).toNatClampNeg).toUInt32 &&& Int32.toUInt32 31)).toInt32)) &&& 1) = 0 then
X_Circle_firstJoin_L2 n M m (v1 + 1)
else
some (((3 : Int32) * v1), M))))))
    refine j_iload_n (pc := 2) (q := 1) d_Circle_firstJoin_2 rfl rfl ?_
    refine j_aload_n (pc := 3) (q := 0) d_Circle_firstJoin_3 rfl rfl ?_
    refine j_getI (pc := 4) d_Circle_firstJoin_4 fl_Circle_35 sx_11 (by decide) rfl ?_
    refine j_icmp_ge (pc := 7) (tgt := 60) d_Circle_firstJoin_7 (by decide) (fun _ => ?_) (fun _ => ?_)
    · refine j_iconst (pc := 60) d_Circle_firstJoin_60 k_i_m1 ?_
      exact j_ireturn (pc := 61) d_Circle_firstJoin_61 rfl
    · refine j_aload_n (pc := 10) (q := 0) d_Circle_firstJoin_10 rfl rfl ?_
      refine j_getA (pc := 11) d_Circle_firstJoin_11 fl_Circle_31 sx_11 (by decide) rfl ?_
      refine j_getI (pc := 14) d_Circle_firstJoin_14 fl_Circle_88 sx_15 (by decide) rfl ?_
      refine j_aload_n (pc := 17) (q := 0) d_Circle_firstJoin_17 rfl rfl ?_
      refine j_getA (pc := 18) d_Circle_firstJoin_18 fl_Circle_20 sx_11 (by decide) rfl ?_
      refine j_iconst (pc := 21) d_Circle_firstJoin_21 k_i_3 ?_
      refine j_iload_n (pc := 22) (q := 1) d_Circle_firstJoin_22 rfl rfl ?_
      refine j_imul (pc := 23) d_Circle_firstJoin_23 ?_
      refine j_iald (pc := 24) d_Circle_firstJoin_24 sx_12 (fun _ => ?_)
      refine j_iushr (pc := 25) d_Circle_firstJoin_25 ?_
      refine j_aload_n (pc := 26) (q := 0) d_Circle_firstJoin_26 rfl rfl ?_
      refine j_getA (pc := 27) d_Circle_firstJoin_27 fl_Circle_31 sx_11 (by decide) rfl ?_
      refine j_getI (pc := 30) d_Circle_firstJoin_30 fl_Circle_88 sx_15 (by decide) rfl ?_
      refine j_aload_n (pc := 33) (q := 0) d_Circle_firstJoin_33 rfl rfl ?_
      refine j_getA (pc := 34) d_Circle_firstJoin_34 fl_Circle_20 sx_11 (by decide) rfl ?_
      refine j_iconst (pc := 37) d_Circle_firstJoin_37 k_i_3 ?_
      refine j_iload_n (pc := 38) (q := 1) d_Circle_firstJoin_38 rfl rfl ?_
      refine j_imul (pc := 39) d_Circle_firstJoin_39 ?_
      refine j_iconst (pc := 40) d_Circle_firstJoin_40 k_i_1 ?_
      refine j_iadd (pc := 41) d_Circle_firstJoin_41 ?_
      refine j_iald (pc := 42) d_Circle_firstJoin_42 sx_12 (fun _ => ?_)
      refine j_iushr (pc := 43) d_Circle_firstJoin_43 ?_
      refine j_iand (pc := 44) d_Circle_firstJoin_44 ?_
      refine j_iconst (pc := 45) d_Circle_firstJoin_45 k_i_1 ?_
      refine j_iand (pc := 46) d_Circle_firstJoin_46 ?_
      refine j_if_eq (pc := 47) (tgt := 54) d_Circle_firstJoin_47 (by decide) (fun _ => ?_) (fun _ => ?_)
      · refine j_iinc (pc := 54) (q := 1) d_Circle_firstJoin_54 rfl (congrArg (v1 + ·) k_i_1) (by decide) rfl ?_
        refine j_goto (pc := 57) (tgt := 2) d_Circle_firstJoin_57 (by decide) ?_
        refine j_lv [1, 0] rfl ?_
        exact ih (v1 + 1)
      · refine j_iconst (pc := 50) d_Circle_firstJoin_50 k_i_3 ?_
        refine j_iload_n (pc := 51) (q := 1) d_Circle_firstJoin_51 rfl rfl ?_
        refine j_imul (pc := 52) d_Circle_firstJoin_52 ?_
        exact j_ireturn (pc := 53) d_Circle_firstJoin_53 rfl
set_option maxRecDepth 20000 in
set_option maxHeartbeats 4000000 in
theorem C_Circle_firstJoin (n : Nat)    (M : Mem) : Ct y_Circle_firstJoin mt_Circle_firstJoin wI [Value.ref 11] M (X_Circle_firstJoin n M) := by
  refine ct_of (by decide +kernel) rfl (Nat.le_of_ble_eq_true rfl) ?_
  show J _ _ _ [(0, Value.ref 11)] _ _ _
  unfold X_Circle_firstJoin
  refine j_iconst (pc := 0) d_Circle_firstJoin_0 k_i_0 ?_
  refine j_istore_n (pc := 1) d_Circle_firstJoin_1 rfl (by decide) rfl ?_
  refine j_lv [1, 0] rfl ?_
  exact X_Circle_firstJoin_L2_ok   n 0
-- Circle.settle ()V
def mt_Circle_settle : Mt := ("ShakeHands$Circle", b_Circle_settle, 3, none, 4, SHx)
theorem d_Circle_settle_0 : decode b_Circle_settle 0 = .ok (.aload_n 0, 1) := by decide +kernel
theorem d_Circle_settle_1 : decode b_Circle_settle 1 = .ok (.invokevirtual 81, 3) := by decide +kernel
theorem d_Circle_settle_4 : decode b_Circle_settle 4 = .ok (.istore_n 1, 1) := by decide +kernel
theorem d_Circle_settle_5 : decode b_Circle_settle 5 = .ok (.iconst 0, 1) := by decide +kernel
theorem d_Circle_settle_6 : decode b_Circle_settle 6 = .ok (.istore_n 2, 1) := by decide +kernel
theorem d_Circle_settle_7 : decode b_Circle_settle 7 = .ok (.iload_n 2, 1) := by decide +kernel
theorem d_Circle_settle_8 : decode b_Circle_settle 8 = .ok (.bipush 16, 2) := by decide +kernel
theorem d_Circle_settle_10 : decode b_Circle_settle 10 = .ok (.if_icmp .ge 61, 3) := by decide +kernel
theorem d_Circle_settle_13 : decode b_Circle_settle 13 = .ok (.iload_n 1, 1) := by decide +kernel
theorem d_Circle_settle_14 : decode b_Circle_settle 14 = .ok (.ifCond .lt 57, 3) := by decide +kernel
theorem d_Circle_settle_17 : decode b_Circle_settle 17 = .ok (.aload_n 0, 1) := by decide +kernel
theorem d_Circle_settle_18 : decode b_Circle_settle 18 = .ok (.getfield 31, 3) := by decide +kernel
theorem d_Circle_settle_21 : decode b_Circle_settle 21 = .ok (.aload_n 0, 1) := by decide +kernel
theorem d_Circle_settle_22 : decode b_Circle_settle 22 = .ok (.getfield 20, 3) := by decide +kernel
theorem d_Circle_settle_25 : decode b_Circle_settle 25 = .ok (.iload_n 1, 1) := by decide +kernel
theorem d_Circle_settle_26 : decode b_Circle_settle 26 = .ok (.iaload, 1) := by decide +kernel
theorem d_Circle_settle_27 : decode b_Circle_settle 27 = .ok (.invokevirtual 74, 3) := by decide +kernel
theorem d_Circle_settle_30 : decode b_Circle_settle 30 = .ok (.aload_n 0, 1) := by decide +kernel
theorem d_Circle_settle_31 : decode b_Circle_settle 31 = .ok (.getfield 31, 3) := by decide +kernel
theorem d_Circle_settle_34 : decode b_Circle_settle 34 = .ok (.aload_n 0, 1) := by decide +kernel
theorem d_Circle_settle_35 : decode b_Circle_settle 35 = .ok (.getfield 20, 3) := by decide +kernel
theorem d_Circle_settle_38 : decode b_Circle_settle 38 = .ok (.iload_n 1, 1) := by decide +kernel
theorem d_Circle_settle_39 : decode b_Circle_settle 39 = .ok (.iconst 1, 1) := by decide +kernel
theorem d_Circle_settle_40 : decode b_Circle_settle 40 = .ok (.iadd, 1) := by decide +kernel
theorem d_Circle_settle_41 : decode b_Circle_settle 41 = .ok (.iaload, 1) := by decide +kernel
theorem d_Circle_settle_42 : decode b_Circle_settle 42 = .ok (.invokevirtual 74, 3) := by decide +kernel
theorem d_Circle_settle_45 : decode b_Circle_settle 45 = .ok (.aload_n 0, 1) := by decide +kernel
theorem d_Circle_settle_46 : decode b_Circle_settle 46 = .ok (.getfield 31, 3) := by decide +kernel
theorem d_Circle_settle_49 : decode b_Circle_settle 49 = .ok (.aload_n 0, 1) := by decide +kernel
theorem d_Circle_settle_50 : decode b_Circle_settle 50 = .ok (.getfield 20, 3) := by decide +kernel
theorem d_Circle_settle_53 : decode b_Circle_settle 53 = .ok (.iload_n 1, 1) := by decide +kernel
theorem d_Circle_settle_54 : decode b_Circle_settle 54 = .ok (.iconst 2, 1) := by decide +kernel
theorem d_Circle_settle_55 : decode b_Circle_settle 55 = .ok (.iadd, 1) := by decide +kernel
theorem d_Circle_settle_56 : decode b_Circle_settle 56 = .ok (.iaload, 1) := by decide +kernel
theorem d_Circle_settle_57 : decode b_Circle_settle 57 = .ok (.invokevirtual 70, 3) := by decide +kernel
theorem d_Circle_settle_60 : decode b_Circle_settle 60 = .ok (.aload_n 0, 1) := by decide +kernel
theorem d_Circle_settle_61 : decode b_Circle_settle 61 = .ok (.invokevirtual 81, 3) := by decide +kernel
theorem d_Circle_settle_64 : decode b_Circle_settle 64 = .ok (.istore_n 1, 1) := by decide +kernel
theorem d_Circle_settle_65 : decode b_Circle_settle 65 = .ok (.iinc 2 1, 3) := by decide +kernel
theorem d_Circle_settle_68 : decode b_Circle_settle 68 = .ok (.goto (-61), 3) := by decide +kernel
theorem d_Circle_settle_71 : decode b_Circle_settle 71 = .ok (.aload_n 0, 1) := by decide +kernel
theorem d_Circle_settle_72 : decode b_Circle_settle 72 = .ok (.getfield 31, 3) := by decide +kernel
theorem d_Circle_settle_75 : decode b_Circle_settle 75 = .ok (.aload_n 0, 1) := by decide +kernel
theorem d_Circle_settle_76 : decode b_Circle_settle 76 = .ok (.getfield 17, 3) := by decide +kernel
theorem d_Circle_settle_79 : decode b_Circle_settle 79 = .ok (.invokevirtual 85, 3) := by decide +kernel
theorem d_Circle_settle_82 : decode b_Circle_settle 82 = .ok (.return_, 1) := by decide +kernel
def X_Circle_settle_L7 (n : Nat) (kx71 : Mem → Option (Unit × Mem)) : Nat → Int32 → Int32 → Mem → Option (Unit × Mem)
    | 0, _, _, _ => none
    | m + 1, v1, v2, M => (if 16 ≤ v2 then
    kx71 M
    else
    (if v1 < 0 then
      kx71 M
      else
      gd v1 12 (
        bd (X_Row_drop n 15 (M.1 12 v1.toNatClampNeg) M) fun _ M4 =>
        gd (v1 + 1) 12 (
          bd (X_Row_drop n 15 (M4.1 12 (v1 + 1).toNatClampNeg) M4) fun _ M6 =>
          gd (v1 + 2) 12 (
            bd (X_Row_add n 15 (M6.1 12 (v1 + 2).toNatClampNeg) M6) fun _ M8 =>
            bd (X_Circle_firstJoin n M8) fun r9 M10 =>
            X_Circle_settle_L7 n kx71 m r9 (v2 + 1) M10)))))
def X_Circle_settle (n : Nat) (M : Mem) : Option (Unit × Mem) :=
  bd (X_Circle_firstJoin n M) fun r1 M2 =>
  X_Circle_settle_L7 n (fun M11 => bd (X_Row_shorten n 15 (M11.1 11 1) M11) fun _ M13 =>
    some ((), M13)) n r1 0 M2
set_option maxRecDepth 20000 in
set_option maxHeartbeats 4000000 in
theorem X_Circle_settle_L7_ok {n : Nat} {kx71 : Mem → Option (Unit × Mem)} (hkx71 : ∀ (M : Mem), J (mt_Circle_settle) wU 71 [(0, Value.ref 11)] [] M (kx71 M)) : ∀ (m : Nat) (v1 : Int32) (v2 : Int32) (M : Mem), J (mt_Circle_settle) wU 7 [(0, Value.ref 11), (1, Value.int v1), (2, Value.int v2)] [] M (X_Circle_settle_L7 n kx71 m v1 v2 M) := by
  intro m
  induction m with
  | zero => intro _ _ _; exact j_none
  | succ m ih =>
    intro v1 v2 M
    show J _ _ _ _ _ _ ((if 16 ≤ v2 then
kx71 M
else
(if v1 < 0 then
kx71 M
else
gd v1 12 (
bd (X_Row_drop n 15 (M.1 12 v1.toNatClampNeg) M) fun _ M4 =>
gd (v1 + 1) 12 (
bd (X_Row_drop n 15 (M4.1 12 (v1 + 1).toNatClampNeg) M4) fun _ M6 =>
gd (v1 + 2) 12 (
bd (X_Row_add n 15 (M6.1 12 (v1 + 2).toNatClampNeg) M6) fun _ M8 =>
bd (X_Circle_firstJoin n M8) fun r9 M10 =>
X_Circle_settle_L7 n kx71 m r9 (v2 + 1) M10))))))
    refine j_iload_n (pc := 7) (q := 2) d_Circle_settle_7 rfl rfl ?_
    refine j_bipush (pc := 8) d_Circle_settle_8 k_b_16 ?_
    refine j_icmp_ge (pc := 10) (tgt := 71) d_Circle_settle_10 (by decide) (fun _ => ?_) (fun _ => ?_)
    · refine j_lv [0] rfl ?_
      exact hkx71 M
    · refine j_iload_n (pc := 13) (q := 1) d_Circle_settle_13 rfl rfl ?_
      refine j_if_lt (pc := 14) (tgt := 71) d_Circle_settle_14 (by decide) (fun _ => ?_) (fun _ => ?_)
      · refine j_lv [0] rfl ?_
        exact hkx71 M
      · refine j_aload_n (pc := 17) (q := 0) d_Circle_settle_17 rfl rfl ?_
        refine j_getA (pc := 18) d_Circle_settle_18 fl_Circle_31 sx_11 (by decide) rfl ?_
        refine j_aload_n (pc := 21) (q := 0) d_Circle_settle_21 rfl rfl ?_
        refine j_getA (pc := 22) d_Circle_settle_22 fl_Circle_20 sx_11 (by decide) rfl ?_
        refine j_iload_n (pc := 25) (q := 1) d_Circle_settle_25 rfl rfl ?_
        refine j_iald (pc := 26) d_Circle_settle_26 sx_12 (fun _ => ?_)
        refine j_callV1 (pc := 27) d_Circle_settle_27 (C_Row_drop n 15 sx_15 (M.1 12 v1.toNatClampNeg) M) cV_Circle_74 cd_Row_drop dn_Row_drop rfl (by decide) (Nat.le_of_ble_eq_true rfl) (Nat.le_of_ble_eq_true rfl) nr_U sx_15 (by decide) rfl (fun r3 M4 => ?_)
        refine j_aload_n (pc := 30) (q := 0) d_Circle_settle_30 rfl rfl ?_
        refine j_getA (pc := 31) d_Circle_settle_31 fl_Circle_31 sx_11 (by decide) rfl ?_
        refine j_aload_n (pc := 34) (q := 0) d_Circle_settle_34 rfl rfl ?_
        refine j_getA (pc := 35) d_Circle_settle_35 fl_Circle_20 sx_11 (by decide) rfl ?_
        refine j_iload_n (pc := 38) (q := 1) d_Circle_settle_38 rfl rfl ?_
        refine j_iconst (pc := 39) d_Circle_settle_39 k_i_1 ?_
        refine j_iadd (pc := 40) d_Circle_settle_40 ?_
        refine j_iald (pc := 41) d_Circle_settle_41 sx_12 (fun _ => ?_)
        refine j_callV1 (pc := 42) d_Circle_settle_42 (C_Row_drop n 15 sx_15 (M4.1 12 (v1 + 1).toNatClampNeg) M4) cV_Circle_74 cd_Row_drop dn_Row_drop rfl (by decide) (Nat.le_of_ble_eq_true rfl) (Nat.le_of_ble_eq_true rfl) nr_U sx_15 (by decide) rfl (fun r5 M6 => ?_)
        refine j_aload_n (pc := 45) (q := 0) d_Circle_settle_45 rfl rfl ?_
        refine j_getA (pc := 46) d_Circle_settle_46 fl_Circle_31 sx_11 (by decide) rfl ?_
        refine j_aload_n (pc := 49) (q := 0) d_Circle_settle_49 rfl rfl ?_
        refine j_getA (pc := 50) d_Circle_settle_50 fl_Circle_20 sx_11 (by decide) rfl ?_
        refine j_iload_n (pc := 53) (q := 1) d_Circle_settle_53 rfl rfl ?_
        refine j_iconst (pc := 54) d_Circle_settle_54 k_i_2 ?_
        refine j_iadd (pc := 55) d_Circle_settle_55 ?_
        refine j_iald (pc := 56) d_Circle_settle_56 sx_12 (fun _ => ?_)
        refine j_callV1 (pc := 57) d_Circle_settle_57 (C_Row_add n 15 sx_15 (M6.1 12 (v1 + 2).toNatClampNeg) M6) cV_Circle_70 cd_Row_add dn_Row_add rfl (by decide) (Nat.le_of_ble_eq_true rfl) (Nat.le_of_ble_eq_true rfl) nr_U sx_15 (by decide) rfl (fun r7 M8 => ?_)
        refine j_aload_n (pc := 60) (q := 0) d_Circle_settle_60 rfl rfl ?_
        refine j_callV0 (pc := 61) d_Circle_settle_61 (C_Circle_firstJoin n M8) cV_Circle_81 cd_Circle_firstJoin dn_Circle_firstJoin rfl (by decide) (Nat.le_of_ble_eq_true rfl) (Nat.le_of_ble_eq_true rfl) nr_I sx_11 (by decide) rfl (fun r9 M10 => ?_)
        refine j_istore_n (pc := 64) d_Circle_settle_64 rfl (by decide) rfl ?_
        refine j_iinc (pc := 65) (q := 2) d_Circle_settle_65 rfl (congrArg (v2 + ·) k_i_1) (by decide) rfl ?_
        refine j_goto (pc := 68) (tgt := 7) d_Circle_settle_68 (by decide) ?_
        refine j_lv [2, 1, 0] rfl ?_
        exact ih r9 (v2 + 1) M10
set_option maxRecDepth 20000 in
set_option maxHeartbeats 4000000 in
theorem C_Circle_settle (n : Nat)    (M : Mem) : Ct y_Circle_settle mt_Circle_settle wU [Value.ref 11] M (X_Circle_settle n M) := by
  refine ct_of (by decide +kernel) rfl (Nat.le_of_ble_eq_true rfl) ?_
  show J _ _ _ [(0, Value.ref 11)] _ _ _
  unfold X_Circle_settle
  refine j_aload_n (pc := 0) (q := 0) d_Circle_settle_0 rfl rfl ?_
  refine j_callV0 (pc := 1) d_Circle_settle_1 (C_Circle_firstJoin n M) cV_Circle_81 cd_Circle_firstJoin dn_Circle_firstJoin rfl (by decide) (Nat.le_of_ble_eq_true rfl) (Nat.le_of_ble_eq_true rfl) nr_I sx_11 (by decide) rfl (fun r1 M2 => ?_)
  refine j_istore_n (pc := 4) d_Circle_settle_4 rfl (by decide) rfl ?_
  refine j_iconst (pc := 5) d_Circle_settle_5 k_i_0 ?_
  refine j_istore_n (pc := 6) d_Circle_settle_6 rfl (by decide) rfl ?_
  refine j_lv [2, 1, 0] rfl ?_
  refine X_Circle_settle_L7_ok  (fun M11 => ?_) n r1 0 M2
  refine j_aload_n (pc := 71) (q := 0) d_Circle_settle_71 rfl rfl ?_
  refine j_getA (pc := 72) d_Circle_settle_72 fl_Circle_31 sx_11 (by decide) rfl ?_
  refine j_aload_n (pc := 75) (q := 0) d_Circle_settle_75 rfl rfl ?_
  refine j_getI (pc := 76) d_Circle_settle_76 fl_Circle_17 sx_11 (by decide) rfl ?_
  refine j_callV1 (pc := 79) d_Circle_settle_79 (C_Row_shorten n 15 sx_15 (M11.1 11 1) M11) cV_Circle_85 cd_Row_shorten dn_Row_shorten rfl (by decide) (Nat.le_of_ble_eq_true rfl) (Nat.le_of_ble_eq_true rfl) nr_U sx_15 (by decide) rfl (fun r12 M13 => ?_)
  exact j_return (pc := 82) d_Circle_settle_82 rfl
-- Circle.taught (JI)J
def mt_Circle_taught : Mt := ("ShakeHands$Circle", b_Circle_taught, 4, some .long, 5, SHx)
theorem d_Circle_taught_0 : decode b_Circle_taught 0 = .ok (.aload_n 0, 1) := by decide +kernel
theorem d_Circle_taught_1 : decode b_Circle_taught 1 = .ok (.getfield 31, 3) := by decide +kernel
theorem d_Circle_taught_4 : decode b_Circle_taught 4 = .ok (.lload_n 1, 1) := by decide +kernel
theorem d_Circle_taught_5 : decode b_Circle_taught 5 = .ok (.invokevirtual 56, 3) := by decide +kernel
theorem d_Circle_taught_8 : decode b_Circle_taught 8 = .ok (.aload_n 0, 1) := by decide +kernel
theorem d_Circle_taught_9 : decode b_Circle_taught 9 = .ok (.getfield 31, 3) := by decide +kernel
theorem d_Circle_taught_12 : decode b_Circle_taught 12 = .ok (.iload_n 3, 1) := by decide +kernel
theorem d_Circle_taught_13 : decode b_Circle_taught 13 = .ok (.invokevirtual 70, 3) := by decide +kernel
theorem d_Circle_taught_16 : decode b_Circle_taught 16 = .ok (.aload_n 0, 1) := by decide +kernel
theorem d_Circle_taught_17 : decode b_Circle_taught 17 = .ok (.invokevirtual 63, 3) := by decide +kernel
theorem d_Circle_taught_20 : decode b_Circle_taught 20 = .ok (.aload_n 0, 1) := by decide +kernel
theorem d_Circle_taught_21 : decode b_Circle_taught 21 = .ok (.getfield 31, 3) := by decide +kernel
theorem d_Circle_taught_24 : decode b_Circle_taught 24 = .ok (.invokevirtual 66, 3) := by decide +kernel
theorem d_Circle_taught_27 : decode b_Circle_taught 27 = .ok (.lreturn, 1) := by decide +kernel
def X_Circle_taught (n : Nat) (p1 : Int64) (p3 : Int32) (M : Mem) : Option (Int64 × Mem) :=
  bd (X_Row_take n 15 p1 M) fun _ M2 =>
  bd (X_Row_add n 15 p3 M2) fun _ M4 =>
  bd (X_Circle_settle n M4) fun _ M6 =>
  bd (X_Row_atRest n 15 M6) fun r7 M8 =>
  some (r7, M8)
set_option maxRecDepth 20000 in
set_option maxHeartbeats 4000000 in
theorem C_Circle_taught (n : Nat)   (p1 : Int64) (p3 : Int32) (M : Mem) : Ct y_Circle_taught mt_Circle_taught wL [Value.ref 11, Value.long p1, Value.int p3] M (X_Circle_taught n p1 p3 M) := by
  refine ct_of (by decide +kernel) rfl (Nat.le_of_ble_eq_true rfl) ?_
  show J _ _ _ [(0, Value.ref 11), (1, Value.long p1), (3, Value.int p3)] _ _ _
  unfold X_Circle_taught
  refine j_aload_n (pc := 0) (q := 0) d_Circle_taught_0 rfl rfl ?_
  refine j_getA (pc := 1) d_Circle_taught_1 fl_Circle_31 sx_11 (by decide) rfl ?_
  refine j_lload_n (pc := 4) (q := 1) d_Circle_taught_4 rfl rfl ?_
  refine j_callV1 (pc := 5) d_Circle_taught_5 (C_Row_take n 15 sx_15 p1 M) cV_Circle_56 cd_Row_take dn_Row_take rfl (by decide) (Nat.le_of_ble_eq_true rfl) (Nat.le_of_ble_eq_true rfl) nr_U sx_15 (by decide) rfl (fun r1 M2 => ?_)
  refine j_aload_n (pc := 8) (q := 0) d_Circle_taught_8 rfl rfl ?_
  refine j_getA (pc := 9) d_Circle_taught_9 fl_Circle_31 sx_11 (by decide) rfl ?_
  refine j_iload_n (pc := 12) (q := 2) d_Circle_taught_12 rfl rfl ?_
  refine j_callV1 (pc := 13) d_Circle_taught_13 (C_Row_add n 15 sx_15 p3 M2) cV_Circle_70 cd_Row_add dn_Row_add rfl (by decide) (Nat.le_of_ble_eq_true rfl) (Nat.le_of_ble_eq_true rfl) nr_U sx_15 (by decide) rfl (fun r3 M4 => ?_)
  refine j_aload_n (pc := 16) (q := 0) d_Circle_taught_16 rfl rfl ?_
  refine j_callV0 (pc := 17) d_Circle_taught_17 (C_Circle_settle n M4) cV_Circle_63 cd_Circle_settle dn_Circle_settle rfl (by decide) (Nat.le_of_ble_eq_true rfl) (Nat.le_of_ble_eq_true rfl) nr_U sx_11 (by decide) rfl (fun r5 M6 => ?_)
  refine j_aload_n (pc := 20) (q := 0) d_Circle_taught_20 rfl rfl ?_
  refine j_getA (pc := 21) d_Circle_taught_21 fl_Circle_31 sx_11 (by decide) rfl ?_
  refine j_callV0 (pc := 24) d_Circle_taught_24 (C_Row_atRest n 15 sx_15 M6) cV_Circle_66 cd_Row_atRest dn_Row_atRest rfl (by decide) (Nat.le_of_ble_eq_true rfl) (Nat.le_of_ble_eq_true rfl) nr_L sx_15 (by decide) rfl (fun r7 M8 => ?_)
  exact j_lreturn (pc := 27) d_Circle_taught_27 rfl
-- Circle.without (JI)J
def mt_Circle_without : Mt := ("ShakeHands$Circle", b_Circle_without, 4, some .long, 4, SHx)
theorem d_Circle_without_0 : decode b_Circle_without 0 = .ok (.aload_n 0, 1) := by decide +kernel
theorem d_Circle_without_1 : decode b_Circle_without 1 = .ok (.getfield 31, 3) := by decide +kernel
theorem d_Circle_without_4 : decode b_Circle_without 4 = .ok (.lload_n 1, 1) := by decide +kernel
theorem d_Circle_without_5 : decode b_Circle_without 5 = .ok (.invokevirtual 56, 3) := by decide +kernel
theorem d_Circle_without_8 : decode b_Circle_without 8 = .ok (.aload_n 0, 1) := by decide +kernel
theorem d_Circle_without_9 : decode b_Circle_without 9 = .ok (.getfield 31, 3) := by decide +kernel
theorem d_Circle_without_12 : decode b_Circle_without 12 = .ok (.iload_n 3, 1) := by decide +kernel
theorem d_Circle_without_13 : decode b_Circle_without 13 = .ok (.invokevirtual 74, 3) := by decide +kernel
theorem d_Circle_without_16 : decode b_Circle_without 16 = .ok (.aload_n 0, 1) := by decide +kernel
theorem d_Circle_without_17 : decode b_Circle_without 17 = .ok (.getfield 31, 3) := by decide +kernel
theorem d_Circle_without_20 : decode b_Circle_without 20 = .ok (.invokevirtual 66, 3) := by decide +kernel
theorem d_Circle_without_23 : decode b_Circle_without 23 = .ok (.lreturn, 1) := by decide +kernel
def X_Circle_without (n : Nat) (p1 : Int64) (p3 : Int32) (M : Mem) : Option (Int64 × Mem) :=
  bd (X_Row_take n 15 p1 M) fun _ M2 =>
  bd (X_Row_drop n 15 p3 M2) fun _ M4 =>
  bd (X_Row_atRest n 15 M4) fun r5 M6 =>
  some (r5, M6)
set_option maxRecDepth 20000 in
set_option maxHeartbeats 4000000 in
theorem C_Circle_without (n : Nat)   (p1 : Int64) (p3 : Int32) (M : Mem) : Ct y_Circle_without mt_Circle_without wL [Value.ref 11, Value.long p1, Value.int p3] M (X_Circle_without n p1 p3 M) := by
  refine ct_of (by decide +kernel) rfl (Nat.le_of_ble_eq_true rfl) ?_
  show J _ _ _ [(0, Value.ref 11), (1, Value.long p1), (3, Value.int p3)] _ _ _
  unfold X_Circle_without
  refine j_aload_n (pc := 0) (q := 0) d_Circle_without_0 rfl rfl ?_
  refine j_getA (pc := 1) d_Circle_without_1 fl_Circle_31 sx_11 (by decide) rfl ?_
  refine j_lload_n (pc := 4) (q := 1) d_Circle_without_4 rfl rfl ?_
  refine j_callV1 (pc := 5) d_Circle_without_5 (C_Row_take n 15 sx_15 p1 M) cV_Circle_56 cd_Row_take dn_Row_take rfl (by decide) (Nat.le_of_ble_eq_true rfl) (Nat.le_of_ble_eq_true rfl) nr_U sx_15 (by decide) rfl (fun r1 M2 => ?_)
  refine j_aload_n (pc := 8) (q := 0) d_Circle_without_8 rfl rfl ?_
  refine j_getA (pc := 9) d_Circle_without_9 fl_Circle_31 sx_11 (by decide) rfl ?_
  refine j_iload_n (pc := 12) (q := 2) d_Circle_without_12 rfl rfl ?_
  refine j_callV1 (pc := 13) d_Circle_without_13 (C_Row_drop n 15 sx_15 p3 M2) cV_Circle_74 cd_Row_drop dn_Row_drop rfl (by decide) (Nat.le_of_ble_eq_true rfl) (Nat.le_of_ble_eq_true rfl) nr_U sx_15 (by decide) rfl (fun r3 M4 => ?_)
  refine j_aload_n (pc := 16) (q := 0) d_Circle_without_16 rfl rfl ?_
  refine j_getA (pc := 17) d_Circle_without_17 fl_Circle_31 sx_11 (by decide) rfl ?_
  refine j_callV0 (pc := 20) d_Circle_without_20 (C_Row_atRest n 15 sx_15 M4) cV_Circle_66 cd_Row_atRest dn_Row_atRest rfl (by decide) (Nat.le_of_ble_eq_true rfl) (Nat.le_of_ble_eq_true rfl) nr_L sx_15 (by decide) rfl (fun r5 M6 => ?_)
  exact j_lreturn (pc := 23) d_Circle_without_23 rfl
-- Circle.meet ([JII)Z
def mt_Circle_meet : Mt := ("ShakeHands$Circle", b_Circle_meet, 9, some .boolean, 5, SHx)
theorem d_Circle_meet_0 : decode b_Circle_meet 0 = .ok (.iload_n 3, 1) := by decide +kernel
theorem d_Circle_meet_1 : decode b_Circle_meet 1 = .ok (.ifCond .lt 9, 3) := by decide +kernel
theorem d_Circle_meet_4 : decode b_Circle_meet 4 = .ok (.iload_n 3, 1) := by decide +kernel
theorem d_Circle_meet_5 : decode b_Circle_meet 5 = .ok (.bipush 15, 2) := by decide +kernel
theorem d_Circle_meet_7 : decode b_Circle_meet 7 = .ok (.if_icmp .lt 5, 3) := by decide +kernel
theorem d_Circle_meet_10 : decode b_Circle_meet 10 = .ok (.iconst 0, 1) := by decide +kernel
theorem d_Circle_meet_11 : decode b_Circle_meet 11 = .ok (.ireturn, 1) := by decide +kernel
theorem d_Circle_meet_12 : decode b_Circle_meet 12 = .ok (.getstatic 50, 3) := by decide +kernel
theorem d_Circle_meet_15 : decode b_Circle_meet 15 = .ok (.iload_n 3, 1) := by decide +kernel
theorem d_Circle_meet_16 : decode b_Circle_meet 16 = .ok (.iaload, 1) := by decide +kernel
theorem d_Circle_meet_17 : decode b_Circle_meet 17 = .ok (.istore 4, 2) := by decide +kernel
theorem d_Circle_meet_19 : decode b_Circle_meet 19 = .ok (.getstatic 53, 3) := by decide +kernel
theorem d_Circle_meet_22 : decode b_Circle_meet 22 = .ok (.iload_n 3, 1) := by decide +kernel
theorem d_Circle_meet_23 : decode b_Circle_meet 23 = .ok (.iaload, 1) := by decide +kernel
theorem d_Circle_meet_24 : decode b_Circle_meet 24 = .ok (.istore 5, 2) := by decide +kernel
theorem d_Circle_meet_26 : decode b_Circle_meet 26 = .ok (.iload_n 2, 1) := by decide +kernel
theorem d_Circle_meet_27 : decode b_Circle_meet 27 = .ok (.iload 4, 2) := by decide +kernel
theorem d_Circle_meet_29 : decode b_Circle_meet 29 = .ok (.iushr, 1) := by decide +kernel
theorem d_Circle_meet_30 : decode b_Circle_meet 30 = .ok (.iload_n 2, 1) := by decide +kernel
theorem d_Circle_meet_31 : decode b_Circle_meet 31 = .ok (.iload 5, 2) := by decide +kernel
theorem d_Circle_meet_33 : decode b_Circle_meet 33 = .ok (.iushr, 1) := by decide +kernel
theorem d_Circle_meet_34 : decode b_Circle_meet 34 = .ok (.ior, 1) := by decide +kernel
theorem d_Circle_meet_35 : decode b_Circle_meet 35 = .ok (.iconst 1, 1) := by decide +kernel
theorem d_Circle_meet_36 : decode b_Circle_meet 36 = .ok (.iand, 1) := by decide +kernel
theorem d_Circle_meet_37 : decode b_Circle_meet 37 = .ok (.ifCond .eq 5, 3) := by decide +kernel
theorem d_Circle_meet_40 : decode b_Circle_meet 40 = .ok (.iconst 0, 1) := by decide +kernel
theorem d_Circle_meet_41 : decode b_Circle_meet 41 = .ok (.ireturn, 1) := by decide +kernel
theorem d_Circle_meet_42 : decode b_Circle_meet 42 = .ok (.aload_n 0, 1) := by decide +kernel
theorem d_Circle_meet_43 : decode b_Circle_meet 43 = .ok (.getfield 31, 3) := by decide +kernel
theorem d_Circle_meet_46 : decode b_Circle_meet 46 = .ok (.aload_n 1, 1) := by decide +kernel
theorem d_Circle_meet_47 : decode b_Circle_meet 47 = .ok (.iload 4, 2) := by decide +kernel
theorem d_Circle_meet_49 : decode b_Circle_meet 49 = .ok (.laload, 1) := by decide +kernel
theorem d_Circle_meet_50 : decode b_Circle_meet 50 = .ok (.invokevirtual 56, 3) := by decide +kernel
theorem d_Circle_meet_53 : decode b_Circle_meet 53 = .ok (.aload_n 0, 1) := by decide +kernel
theorem d_Circle_meet_54 : decode b_Circle_meet 54 = .ok (.getfield 31, 3) := by decide +kernel
theorem d_Circle_meet_57 : decode b_Circle_meet 57 = .ok (.aload_n 1, 1) := by decide +kernel
theorem d_Circle_meet_58 : decode b_Circle_meet 58 = .ok (.iload 5, 2) := by decide +kernel
theorem d_Circle_meet_60 : decode b_Circle_meet 60 = .ok (.laload, 1) := by decide +kernel
theorem d_Circle_meet_61 : decode b_Circle_meet 61 = .ok (.invokevirtual 60, 3) := by decide +kernel
theorem d_Circle_meet_64 : decode b_Circle_meet 64 = .ok (.aload_n 0, 1) := by decide +kernel
theorem d_Circle_meet_65 : decode b_Circle_meet 65 = .ok (.invokevirtual 63, 3) := by decide +kernel
theorem d_Circle_meet_68 : decode b_Circle_meet 68 = .ok (.aload_n 0, 1) := by decide +kernel
theorem d_Circle_meet_69 : decode b_Circle_meet 69 = .ok (.getfield 31, 3) := by decide +kernel
theorem d_Circle_meet_72 : decode b_Circle_meet 72 = .ok (.invokevirtual 66, 3) := by decide +kernel
theorem d_Circle_meet_75 : decode b_Circle_meet 75 = .ok (.lstore 6, 2) := by decide +kernel
theorem d_Circle_meet_77 : decode b_Circle_meet 77 = .ok (.lload 6, 2) := by decide +kernel
theorem d_Circle_meet_79 : decode b_Circle_meet 79 = .ok (.aload_n 1, 1) := by decide +kernel
theorem d_Circle_meet_80 : decode b_Circle_meet 80 = .ok (.iload 4, 2) := by decide +kernel
theorem d_Circle_meet_82 : decode b_Circle_meet 82 = .ok (.laload, 1) := by decide +kernel
theorem d_Circle_meet_83 : decode b_Circle_meet 83 = .ok (.lcmp, 1) := by decide +kernel
theorem d_Circle_meet_84 : decode b_Circle_meet 84 = .ok (.ifCond .ne 13, 3) := by decide +kernel
theorem d_Circle_meet_87 : decode b_Circle_meet 87 = .ok (.lload 6, 2) := by decide +kernel
theorem d_Circle_meet_89 : decode b_Circle_meet 89 = .ok (.aload_n 1, 1) := by decide +kernel
theorem d_Circle_meet_90 : decode b_Circle_meet 90 = .ok (.iload 5, 2) := by decide +kernel
theorem d_Circle_meet_92 : decode b_Circle_meet 92 = .ok (.laload, 1) := by decide +kernel
theorem d_Circle_meet_93 : decode b_Circle_meet 93 = .ok (.lcmp, 1) := by decide +kernel
theorem d_Circle_meet_94 : decode b_Circle_meet 94 = .ok (.ifCond .eq 7, 3) := by decide +kernel
theorem d_Circle_meet_97 : decode b_Circle_meet 97 = .ok (.iconst 1, 1) := by decide +kernel
theorem d_Circle_meet_98 : decode b_Circle_meet 98 = .ok (.goto 4, 3) := by decide +kernel
theorem d_Circle_meet_101 : decode b_Circle_meet 101 = .ok (.iconst 0, 1) := by decide +kernel
theorem d_Circle_meet_102 : decode b_Circle_meet 102 = .ok (.istore 8, 2) := by decide +kernel
theorem d_Circle_meet_104 : decode b_Circle_meet 104 = .ok (.aload_n 1, 1) := by decide +kernel
theorem d_Circle_meet_105 : decode b_Circle_meet 105 = .ok (.iload 4, 2) := by decide +kernel
theorem d_Circle_meet_107 : decode b_Circle_meet 107 = .ok (.lload 6, 2) := by decide +kernel
theorem d_Circle_meet_109 : decode b_Circle_meet 109 = .ok (.lastore, 1) := by decide +kernel
theorem d_Circle_meet_110 : decode b_Circle_meet 110 = .ok (.aload_n 1, 1) := by decide +kernel
theorem d_Circle_meet_111 : decode b_Circle_meet 111 = .ok (.iload 5, 2) := by decide +kernel
theorem d_Circle_meet_113 : decode b_Circle_meet 113 = .ok (.lload 6, 2) := by decide +kernel
theorem d_Circle_meet_115 : decode b_Circle_meet 115 = .ok (.lastore, 1) := by decide +kernel
theorem d_Circle_meet_116 : decode b_Circle_meet 116 = .ok (.iload 8, 2) := by decide +kernel
theorem d_Circle_meet_118 : decode b_Circle_meet 118 = .ok (.ireturn, 1) := by decide +kernel
def X_Circle_meet (n : Nat) (rows : Nat) (p2 : Int32) (p3 : Int32) (M : Mem) : Option (Int32 × Mem) :=
  (if p3 < 0 then
    some (0, M)
    else
    (if p3 < 15 then
      gd p3 15 (
        nm (lsr p3.toNatClampNeg) fun x1 =>
        gd p3 15 (
          nm (grt p3.toNatClampNeg) fun x2 =>
          (if ((((p2.toUInt32 >>> (x1.toUInt32 &&& Int32.toUInt32 31)).toInt32) ||| ((p2.toUInt32 >>> (x2.toUInt32 &&& Int32.toUInt32 31)).toInt32)) &&& 1) = 0 then
            gd x1 6 (
              bd (X_Row_take n 15 (M.2 rows x1.toNatClampNeg) M) fun _ M4 =>
              gd x2 6 (
                bd (X_Row_addAll n 15 (M4.2 rows x2.toNatClampNeg) M4) fun _ M6 =>
                bd (X_Circle_settle n M6) fun _ M8 =>
                bd (X_Row_atRest n 15 M8) fun r9 M10 =>
                gd x1 6 (
                  nm (fun (u11 : Int32) => (gd x1 6 (
                        gd x2 6 (
                          zr u11 (sl (sl M10 rows (x1.toNatClampNeg) r9) rows (x2.toNatClampNeg) r9))) : Option (Int32 × Mem))) fun k102 =>
                  (if (lg_cmp r9 (M10.2 rows x1.toNatClampNeg)) = 0 then
                    gd x2 6 (
                      (if (lg_cmp r9 (M10.2 rows x2.toNatClampNeg)) = 0 then
                        k102 0
                        else
                        k102 1))
                    else
                    k102 1))))
            else
            some (0, M))))
      else
      some (0, M)))
set_option maxRecDepth 20000 in
set_option maxHeartbeats 4000000 in
theorem C_Circle_meet (n : Nat) (rows : Nat) (h_rows : SHx[rows]? = some (103, [6])) (p2 : Int32) (p3 : Int32) (M : Mem) : Ct y_Circle_meet mt_Circle_meet wI [Value.ref 11, Value.ref rows, Value.int p2, Value.int p3] M (X_Circle_meet n rows p2 p3 M) := by
  refine ct_of (by decide +kernel) rfl (Nat.le_of_ble_eq_true rfl) ?_
  show J _ _ _ [(0, Value.ref 11), (1, Value.ref rows), (2, Value.int p2), (3, Value.int p3)] _ _ _
  unfold X_Circle_meet
  refine j_iload_n (pc := 0) (q := 3) d_Circle_meet_0 rfl rfl ?_
  refine j_if_lt (pc := 1) (tgt := 10) d_Circle_meet_1 (by decide) (fun _ => ?_) (fun _ => ?_)
  · refine j_iconst (pc := 10) d_Circle_meet_10 k_i_0 ?_
    exact j_zreturn (pc := 11) d_Circle_meet_11 rfl rfl
  · refine j_iload_n (pc := 4) (q := 3) d_Circle_meet_4 rfl rfl ?_
    refine j_bipush (pc := 5) d_Circle_meet_5 k_b_15 ?_
    refine j_icmp_lt (pc := 7) (tgt := 12) d_Circle_meet_7 (by decide) (fun _ => ?_) (fun _ => ?_)
    · refine j_gets200 (pc := 12) d_Circle_meet_12 gs_Circle_50 ?_
      refine j_iload_n (pc := 15) (q := 3) d_Circle_meet_15 rfl rfl ?_
      refine j_ialdS200 (pc := 16) d_Circle_meet_16 (fun _ => ?_)
      refine j_nmi (fun x1 => ?_)
      refine j_istore (pc := 17) d_Circle_meet_17 (by decide) rfl ?_
      refine j_gets201 (pc := 19) d_Circle_meet_19 gs_Circle_53 ?_
      refine j_iload_n (pc := 22) (q := 4) d_Circle_meet_22 rfl rfl ?_
      refine j_ialdS201 (pc := 23) d_Circle_meet_23 (fun _ => ?_)
      refine j_nmi (fun x2 => ?_)
      refine j_istore (pc := 24) d_Circle_meet_24 (by decide) rfl ?_
      refine j_iload_n (pc := 26) (q := 4) d_Circle_meet_26 rfl rfl ?_
      refine j_iload (pc := 27) (q := 1) d_Circle_meet_27 rfl ?_
      refine j_iushr (pc := 29) d_Circle_meet_29 ?_
      refine j_iload_n (pc := 30) (q := 4) d_Circle_meet_30 rfl rfl ?_
      refine j_iload (pc := 31) (q := 0) d_Circle_meet_31 rfl ?_
      refine j_iushr (pc := 33) d_Circle_meet_33 ?_
      refine j_ior (pc := 34) d_Circle_meet_34 ?_
      refine j_iconst (pc := 35) d_Circle_meet_35 k_i_1 ?_
      refine j_iand (pc := 36) d_Circle_meet_36 ?_
      refine j_if_eq (pc := 37) (tgt := 42) d_Circle_meet_37 (by decide) (fun _ => ?_) (fun _ => ?_)
      · refine j_aload_n (pc := 42) (q := 2) d_Circle_meet_42 rfl rfl ?_
        refine j_getA (pc := 43) d_Circle_meet_43 fl_Circle_31 sx_11 (by decide) rfl ?_
        refine j_aload_n (pc := 46) (q := 3) d_Circle_meet_46 rfl rfl ?_
        refine j_iload (pc := 47) (q := 1) d_Circle_meet_47 rfl ?_
        refine j_lald (pc := 49) d_Circle_meet_49 h_rows (fun _ => ?_)
        refine j_callV1 (pc := 50) d_Circle_meet_50 (C_Row_take n 15 sx_15 (M.2 rows x1.toNatClampNeg) M) cV_Circle_56 cd_Row_take dn_Row_take rfl (by decide) (Nat.le_of_ble_eq_true rfl) (Nat.le_of_ble_eq_true rfl) nr_U sx_15 (by decide) rfl (fun r3 M4 => ?_)
        refine j_aload_n (pc := 53) (q := 2) d_Circle_meet_53 rfl rfl ?_
        refine j_getA (pc := 54) d_Circle_meet_54 fl_Circle_31 sx_11 (by decide) rfl ?_
        refine j_aload_n (pc := 57) (q := 3) d_Circle_meet_57 rfl rfl ?_
        refine j_iload (pc := 58) (q := 0) d_Circle_meet_58 rfl ?_
        refine j_lald (pc := 60) d_Circle_meet_60 h_rows (fun _ => ?_)
        refine j_callV1 (pc := 61) d_Circle_meet_61 (C_Row_addAll n 15 sx_15 (M4.2 rows x2.toNatClampNeg) M4) cV_Circle_60 cd_Row_addAll dn_Row_addAll rfl (by decide) (Nat.le_of_ble_eq_true rfl) (Nat.le_of_ble_eq_true rfl) nr_U sx_15 (by decide) rfl (fun r5 M6 => ?_)
        refine j_aload_n (pc := 64) (q := 2) d_Circle_meet_64 rfl rfl ?_
        refine j_callV0 (pc := 65) d_Circle_meet_65 (C_Circle_settle n M6) cV_Circle_63 cd_Circle_settle dn_Circle_settle rfl (by decide) (Nat.le_of_ble_eq_true rfl) (Nat.le_of_ble_eq_true rfl) nr_U sx_11 (by decide) rfl (fun r7 M8 => ?_)
        refine j_aload_n (pc := 68) (q := 2) d_Circle_meet_68 rfl rfl ?_
        refine j_getA (pc := 69) d_Circle_meet_69 fl_Circle_31 sx_11 (by decide) rfl ?_
        refine j_callV0 (pc := 72) d_Circle_meet_72 (C_Row_atRest n 15 sx_15 M8) cV_Circle_66 cd_Row_atRest dn_Row_atRest rfl (by decide) (Nat.le_of_ble_eq_true rfl) (Nat.le_of_ble_eq_true rfl) nr_L sx_15 (by decide) rfl (fun r9 M10 => ?_)
        refine j_lstore (pc := 75) d_Circle_meet_75 (by decide) rfl ?_
        refine j_lload (pc := 77) (q := 0) d_Circle_meet_77 rfl ?_
        refine j_aload_n (pc := 79) (q := 4) d_Circle_meet_79 rfl rfl ?_
        refine j_iload (pc := 80) (q := 2) d_Circle_meet_80 rfl ?_
        refine j_lald (pc := 82) d_Circle_meet_82 h_rows (fun _ => ?_)
        refine j_lcmp (pc := 83) d_Circle_meet_83 ?_
        refine j_nmk (fun k => ∀ (u11 : Int32), J (mt_Circle_meet) wI 102 [(1, Value.ref rows), (4, Value.int x1), (5, Value.int x2), (6, Value.long r9)] [Value.int u11] M10 (k u11)) (fun u11 => ?_) (fun k102 hk102 => ?_)
        · refine j_istore (pc := 102) d_Circle_meet_102 (by decide) rfl ?_
          refine j_aload_n (pc := 104) (q := 1) d_Circle_meet_104 rfl rfl ?_
          refine j_iload (pc := 105) (q := 2) d_Circle_meet_105 rfl ?_
          refine j_lload (pc := 107) (q := 4) d_Circle_meet_107 rfl ?_
          refine j_last (pc := 109) d_Circle_meet_109 h_rows (fun _ => ?_)
          refine j_aload_n (pc := 110) (q := 1) d_Circle_meet_110 rfl rfl ?_
          refine j_iload (pc := 111) (q := 3) d_Circle_meet_111 rfl ?_
          refine j_lload (pc := 113) (q := 4) d_Circle_meet_113 rfl ?_
          refine j_last (pc := 115) d_Circle_meet_115 h_rows (fun _ => ?_)
          refine j_iload (pc := 116) (q := 0) d_Circle_meet_116 rfl ?_
          exact j_zr (pc := 118) d_Circle_meet_118 rfl
        · refine j_if_ne (pc := 84) (tgt := 97) d_Circle_meet_84 (by decide) (fun _ => ?_) (fun _ => ?_)
          · refine j_iconst (pc := 97) d_Circle_meet_97 k_i_1 ?_
            refine j_goto (pc := 98) (tgt := 102) d_Circle_meet_98 (by decide) ?_
            refine j_lv [4, 2, 1, 0] rfl ?_
            exact hk102 1
          · refine j_lload (pc := 87) (q := 0) d_Circle_meet_87 rfl ?_
            refine j_aload_n (pc := 89) (q := 4) d_Circle_meet_89 rfl rfl ?_
            refine j_iload (pc := 90) (q := 1) d_Circle_meet_90 rfl ?_
            refine j_lald (pc := 92) d_Circle_meet_92 h_rows (fun _ => ?_)
            refine j_lcmp (pc := 93) d_Circle_meet_93 ?_
            refine j_if_eq (pc := 94) (tgt := 101) d_Circle_meet_94 (by decide) (fun _ => ?_) (fun _ => ?_)
            · refine j_iconst (pc := 101) d_Circle_meet_101 k_i_0 ?_
              refine j_lv [4, 2, 1, 0] rfl ?_
              exact hk102 0
            · refine j_iconst (pc := 97) d_Circle_meet_97 k_i_1 ?_
              refine j_goto (pc := 98) (tgt := 102) d_Circle_meet_98 (by decide) ?_
              refine j_lv [4, 2, 1, 0] rfl ?_
              exact hk102 1
      · refine j_iconst (pc := 40) d_Circle_meet_40 k_i_0 ?_
        exact j_zreturn (pc := 41) d_Circle_meet_41 rfl rfl
    · refine j_iconst (pc := 10) d_Circle_meet_10 k_i_0 ?_
      exact j_zreturn (pc := 11) d_Circle_meet_11 rfl rfl
-- Circle.celebrate ([JII)V
def mt_Circle_celebrate : Mt := ("ShakeHands$Circle", b_Circle_celebrate, 5, none, 6, SHx)
theorem d_Circle_celebrate_0 : decode b_Circle_celebrate 0 = .ok (.iconst 0, 1) := by decide +kernel
theorem d_Circle_celebrate_1 : decode b_Circle_celebrate 1 = .ok (.istore 4, 2) := by decide +kernel
theorem d_Circle_celebrate_3 : decode b_Circle_celebrate 3 = .ok (.iload 4, 2) := by decide +kernel
theorem d_Circle_celebrate_5 : decode b_Circle_celebrate 5 = .ok (.iload_n 3, 1) := by decide +kernel
theorem d_Circle_celebrate_6 : decode b_Circle_celebrate 6 = .ok (.if_icmp .ge 32, 3) := by decide +kernel
theorem d_Circle_celebrate_9 : decode b_Circle_celebrate 9 = .ok (.iload 4, 2) := by decide +kernel
theorem d_Circle_celebrate_11 : decode b_Circle_celebrate 11 = .ok (.aload_n 0, 1) := by decide +kernel
theorem d_Circle_celebrate_12 : decode b_Circle_celebrate 12 = .ok (.getfield 38, 3) := by decide +kernel
theorem d_Circle_celebrate_15 : decode b_Circle_celebrate 15 = .ok (.if_icmp .ge 23, 3) := by decide +kernel
theorem d_Circle_celebrate_18 : decode b_Circle_celebrate 18 = .ok (.aload_n 0, 1) := by decide +kernel
theorem d_Circle_celebrate_19 : decode b_Circle_celebrate 19 = .ok (.aload_n 1, 1) := by decide +kernel
theorem d_Circle_celebrate_20 : decode b_Circle_celebrate 20 = .ok (.iload_n 2, 1) := by decide +kernel
theorem d_Circle_celebrate_21 : decode b_Circle_celebrate 21 = .ok (.aload_n 0, 1) := by decide +kernel
theorem d_Circle_celebrate_22 : decode b_Circle_celebrate 22 = .ok (.getfield 24, 3) := by decide +kernel
theorem d_Circle_celebrate_25 : decode b_Circle_celebrate 25 = .ok (.iload 4, 2) := by decide +kernel
theorem d_Circle_celebrate_27 : decode b_Circle_celebrate 27 = .ok (.iaload, 1) := by decide +kernel
theorem d_Circle_celebrate_28 : decode b_Circle_celebrate 28 = .ok (.invokevirtual 77, 3) := by decide +kernel
theorem d_Circle_celebrate_31 : decode b_Circle_celebrate 31 = .ok (.pop, 1) := by decide +kernel
theorem d_Circle_celebrate_32 : decode b_Circle_celebrate 32 = .ok (.iinc 4 1, 3) := by decide +kernel
theorem d_Circle_celebrate_35 : decode b_Circle_celebrate 35 = .ok (.goto (-32), 3) := by decide +kernel
theorem d_Circle_celebrate_38 : decode b_Circle_celebrate 38 = .ok (.return_, 1) := by decide +kernel
def X_Circle_celebrate_L3 (n : Nat) (rows : Nat) (a2 : Int32) (a3 : Int32) : Nat → Int32 → Mem → Option (Unit × Mem)
    | 0, _, _ => none
    | m + 1, v4, M => (if a3 ≤ v4 then
    some ((), M)
    else
    (if (M.1 11 5) ≤ v4 then
      some ((), M)
      else
      gd v4 16 (
        bd (X_Circle_meet n rows a2 (M.1 13 v4.toNatClampNeg) M) fun r1 M2 =>
        X_Circle_celebrate_L3 n rows a2 a3 m (v4 + 1) M2)))
def X_Circle_celebrate (n : Nat) (rows : Nat) (p2 : Int32) (p3 : Int32) (M : Mem) : Option (Unit × Mem) :=
  X_Circle_celebrate_L3 n rows p2 p3 n 0 M
set_option maxRecDepth 20000 in
set_option maxHeartbeats 4000000 in
theorem X_Circle_celebrate_L3_ok {n : Nat} {rows : Nat} {a2 : Int32} {a3 : Int32} (h_rows : SHx[rows]? = some (103, [6])) : ∀ (m : Nat) (v4 : Int32) (M : Mem), J (mt_Circle_celebrate) wU 3 [(0, Value.ref 11), (1, Value.ref rows), (2, Value.int a2), (3, Value.int a3), (4, Value.int v4)] [] M (X_Circle_celebrate_L3 n rows a2 a3 m v4 M) := by
  intro m
  induction m with
  | zero => intro _ _; exact j_none
  | succ m ih =>
    intro v4 M
    show J _ _ _ _ _ _ ((if a3 ≤ v4 then
some ((), M)
else
(if (M.1 11 5) ≤ v4 then
some ((), M)
else
gd v4 16 (
bd (X_Circle_meet n rows a2 (M.1 13 v4.toNatClampNeg) M) fun r1 M2 =>
X_Circle_celebrate_L3 n rows a2 a3 m (v4 + 1) M2))))
    refine j_iload (pc := 3) (q := 4) d_Circle_celebrate_3 rfl ?_
    refine j_iload_n (pc := 5) (q := 3) d_Circle_celebrate_5 rfl rfl ?_
    refine j_icmp_ge (pc := 6) (tgt := 38) d_Circle_celebrate_6 (by decide) (fun _ => ?_) (fun _ => ?_)
    · exact j_return (pc := 38) d_Circle_celebrate_38 rfl
    · refine j_iload (pc := 9) (q := 4) d_Circle_celebrate_9 rfl ?_
      refine j_aload_n (pc := 11) (q := 0) d_Circle_celebrate_11 rfl rfl ?_
      refine j_getI (pc := 12) d_Circle_celebrate_12 fl_Circle_38 sx_11 (by decide) rfl ?_
      refine j_icmp_ge (pc := 15) (tgt := 38) d_Circle_celebrate_15 (by decide) (fun _ => ?_) (fun _ => ?_)
      · exact j_return (pc := 38) d_Circle_celebrate_38 rfl
      · refine j_aload_n (pc := 18) (q := 0) d_Circle_celebrate_18 rfl rfl ?_
        refine j_aload_n (pc := 19) (q := 1) d_Circle_celebrate_19 rfl rfl ?_
        refine j_iload_n (pc := 20) (q := 2) d_Circle_celebrate_20 rfl rfl ?_
        refine j_aload_n (pc := 21) (q := 0) d_Circle_celebrate_21 rfl rfl ?_
        refine j_getA (pc := 22) d_Circle_celebrate_22 fl_Circle_24 sx_11 (by decide) rfl ?_
        refine j_iload (pc := 25) (q := 4) d_Circle_celebrate_25 rfl ?_
        refine j_iald (pc := 27) d_Circle_celebrate_27 sx_13 (fun _ => ?_)
        refine j_callV3 (pc := 28) d_Circle_celebrate_28 (C_Circle_meet n rows h_rows a2 (M.1 13 v4.toNatClampNeg) M) cV_Circle_77 cd_Circle_meet dn_Circle_meet rfl (by decide) (Nat.le_of_ble_eq_true rfl) (Nat.le_of_ble_eq_true rfl) nr_I sx_11 (by decide) rfl (fun r1 M2 => ?_)
        refine j_pop (pc := 31) d_Circle_celebrate_31 rfl ?_
        refine j_iinc (pc := 32) (q := 4) d_Circle_celebrate_32 rfl (congrArg (v4 + ·) k_i_1) (by decide) rfl ?_
        refine j_goto (pc := 35) (tgt := 3) d_Circle_celebrate_35 (by decide) ?_
        refine j_lv [1, 2, 3, 4, 0] rfl ?_
        exact ih (v4 + 1) M2
set_option maxRecDepth 20000 in
set_option maxHeartbeats 4000000 in
theorem C_Circle_celebrate (n : Nat) (rows : Nat) (h_rows : SHx[rows]? = some (103, [6])) (p2 : Int32) (p3 : Int32) (M : Mem) : Ct y_Circle_celebrate mt_Circle_celebrate wU [Value.ref 11, Value.ref rows, Value.int p2, Value.int p3] M (X_Circle_celebrate n rows p2 p3 M) := by
  refine ct_of (by decide +kernel) rfl (Nat.le_of_ble_eq_true rfl) ?_
  show J _ _ _ [(0, Value.ref 11), (1, Value.ref rows), (2, Value.int p2), (3, Value.int p3)] _ _ _
  unfold X_Circle_celebrate
  refine j_iconst (pc := 0) d_Circle_celebrate_0 k_i_0 ?_
  refine j_istore (pc := 1) d_Circle_celebrate_1 (by decide) rfl ?_
  refine j_lv [1, 2, 3, 4, 0] rfl ?_
  exact X_Circle_celebrate_L3_ok h_rows  n 0 M
-- Circle.liveDay ([JI)V
def mt_Circle_liveDay : Mt := ("ShakeHands$Circle", b_Circle_liveDay, 4, none, 6, SHx)
theorem d_Circle_liveDay_0 : decode b_Circle_liveDay 0 = .ok (.iconst 0, 1) := by decide +kernel
theorem d_Circle_liveDay_1 : decode b_Circle_liveDay 1 = .ok (.istore_n 3, 1) := by decide +kernel
theorem d_Circle_liveDay_2 : decode b_Circle_liveDay 2 = .ok (.iload_n 3, 1) := by decide +kernel
theorem d_Circle_liveDay_3 : decode b_Circle_liveDay 3 = .ok (.aload_n 0, 1) := by decide +kernel
theorem d_Circle_liveDay_4 : decode b_Circle_liveDay 4 = .ok (.getfield 41, 3) := by decide +kernel
theorem d_Circle_liveDay_7 : decode b_Circle_liveDay 7 = .ok (.if_icmp .ge 22, 3) := by decide +kernel
theorem d_Circle_liveDay_10 : decode b_Circle_liveDay 10 = .ok (.aload_n 0, 1) := by decide +kernel
theorem d_Circle_liveDay_11 : decode b_Circle_liveDay 11 = .ok (.aload_n 1, 1) := by decide +kernel
theorem d_Circle_liveDay_12 : decode b_Circle_liveDay 12 = .ok (.iload_n 2, 1) := by decide +kernel
theorem d_Circle_liveDay_13 : decode b_Circle_liveDay 13 = .ok (.aload_n 0, 1) := by decide +kernel
theorem d_Circle_liveDay_14 : decode b_Circle_liveDay 14 = .ok (.getfield 27, 3) := by decide +kernel
theorem d_Circle_liveDay_17 : decode b_Circle_liveDay 17 = .ok (.iload_n 3, 1) := by decide +kernel
theorem d_Circle_liveDay_18 : decode b_Circle_liveDay 18 = .ok (.iaload, 1) := by decide +kernel
theorem d_Circle_liveDay_19 : decode b_Circle_liveDay 19 = .ok (.invokevirtual 77, 3) := by decide +kernel
theorem d_Circle_liveDay_22 : decode b_Circle_liveDay 22 = .ok (.pop, 1) := by decide +kernel
theorem d_Circle_liveDay_23 : decode b_Circle_liveDay 23 = .ok (.iinc 3 1, 3) := by decide +kernel
theorem d_Circle_liveDay_26 : decode b_Circle_liveDay 26 = .ok (.goto (-24), 3) := by decide +kernel
theorem d_Circle_liveDay_29 : decode b_Circle_liveDay 29 = .ok (.return_, 1) := by decide +kernel
def X_Circle_liveDay_L2 (n : Nat) (rows : Nat) (a2 : Int32) : Nat → Int32 → Mem → Option (Unit × Mem)
    | 0, _, _ => none
    | m + 1, v3, M => (if (M.1 11 7) ≤ v3 then
    some ((), M)
    else
    gd v3 8 (
      bd (X_Circle_meet n rows a2 (M.1 14 v3.toNatClampNeg) M) fun r1 M2 =>
      X_Circle_liveDay_L2 n rows a2 m (v3 + 1) M2))
def X_Circle_liveDay (n : Nat) (rows : Nat) (p2 : Int32) (M : Mem) : Option (Unit × Mem) :=
  X_Circle_liveDay_L2 n rows p2 n 0 M
set_option maxRecDepth 20000 in
set_option maxHeartbeats 4000000 in
theorem X_Circle_liveDay_L2_ok {n : Nat} {rows : Nat} {a2 : Int32} (h_rows : SHx[rows]? = some (103, [6])) : ∀ (m : Nat) (v3 : Int32) (M : Mem), J (mt_Circle_liveDay) wU 2 [(0, Value.ref 11), (1, Value.ref rows), (2, Value.int a2), (3, Value.int v3)] [] M (X_Circle_liveDay_L2 n rows a2 m v3 M) := by
  intro m
  induction m with
  | zero => intro _ _; exact j_none
  | succ m ih =>
    intro v3 M
    show J _ _ _ _ _ _ ((if (M.1 11 7) ≤ v3 then
some ((), M)
else
gd v3 8 (
bd (X_Circle_meet n rows a2 (M.1 14 v3.toNatClampNeg) M) fun r1 M2 =>
X_Circle_liveDay_L2 n rows a2 m (v3 + 1) M2)))
    refine j_iload_n (pc := 2) (q := 3) d_Circle_liveDay_2 rfl rfl ?_
    refine j_aload_n (pc := 3) (q := 0) d_Circle_liveDay_3 rfl rfl ?_
    refine j_getI (pc := 4) d_Circle_liveDay_4 fl_Circle_41 sx_11 (by decide) rfl ?_
    refine j_icmp_ge (pc := 7) (tgt := 29) d_Circle_liveDay_7 (by decide) (fun _ => ?_) (fun _ => ?_)
    · exact j_return (pc := 29) d_Circle_liveDay_29 rfl
    · refine j_aload_n (pc := 10) (q := 0) d_Circle_liveDay_10 rfl rfl ?_
      refine j_aload_n (pc := 11) (q := 1) d_Circle_liveDay_11 rfl rfl ?_
      refine j_iload_n (pc := 12) (q := 2) d_Circle_liveDay_12 rfl rfl ?_
      refine j_aload_n (pc := 13) (q := 0) d_Circle_liveDay_13 rfl rfl ?_
      refine j_getA (pc := 14) d_Circle_liveDay_14 fl_Circle_27 sx_11 (by decide) rfl ?_
      refine j_iload_n (pc := 17) (q := 3) d_Circle_liveDay_17 rfl rfl ?_
      refine j_iald (pc := 18) d_Circle_liveDay_18 sx_14 (fun _ => ?_)
      refine j_callV3 (pc := 19) d_Circle_liveDay_19 (C_Circle_meet n rows h_rows a2 (M.1 14 v3.toNatClampNeg) M) cV_Circle_77 cd_Circle_meet dn_Circle_meet rfl (by decide) (Nat.le_of_ble_eq_true rfl) (Nat.le_of_ble_eq_true rfl) nr_I sx_11 (by decide) rfl (fun r1 M2 => ?_)
      refine j_pop (pc := 22) d_Circle_liveDay_22 rfl ?_
      refine j_iinc (pc := 23) (q := 3) d_Circle_liveDay_23 rfl (congrArg (v3 + ·) k_i_1) (by decide) rfl ?_
      refine j_goto (pc := 26) (tgt := 2) d_Circle_liveDay_26 (by decide) ?_
      refine j_lv [1, 2, 3, 0] rfl ?_
      exact ih (v3 + 1) M2
set_option maxRecDepth 20000 in
set_option maxHeartbeats 4000000 in
theorem C_Circle_liveDay (n : Nat) (rows : Nat) (h_rows : SHx[rows]? = some (103, [6])) (p2 : Int32) (M : Mem) : Ct y_Circle_liveDay mt_Circle_liveDay wU [Value.ref 11, Value.ref rows, Value.int p2] M (X_Circle_liveDay n rows p2 M) := by
  refine ct_of (by decide +kernel) rfl (Nat.le_of_ble_eq_true rfl) ?_
  show J _ _ _ [(0, Value.ref 11), (1, Value.ref rows), (2, Value.int p2)] _ _ _
  unfold X_Circle_liveDay
  refine j_iconst (pc := 0) d_Circle_liveDay_0 k_i_0 ?_
  refine j_istore_n (pc := 1) d_Circle_liveDay_1 rfl (by decide) rfl ?_
  refine j_lv [1, 2, 3, 0] rfl ?_
  exact X_Circle_liveDay_L2_ok h_rows  n 0 M
-- Habit.lastDay (I)I
def mt_Habit_lastDay : Mt := ("ShakeHands$Habit", b_Habit_lastDay, 3, some .int, 7, SHx)
theorem d_Habit_lastDay_0 : decode b_Habit_lastDay 0 = .ok (.aload_n 0, 1) := by decide +kernel
theorem d_Habit_lastDay_1 : decode b_Habit_lastDay 1 = .ok (.getfield 22, 3) := by decide +kernel
theorem d_Habit_lastDay_4 : decode b_Habit_lastDay 4 = .ok (.getfield 26, 3) := by decide +kernel
theorem d_Habit_lastDay_7 : decode b_Habit_lastDay 7 = .ok (.iconst 0, 1) := by decide +kernel
theorem d_Habit_lastDay_8 : decode b_Habit_lastDay 8 = .ok (.aload_n 0, 1) := by decide +kernel
theorem d_Habit_lastDay_9 : decode b_Habit_lastDay 9 = .ok (.getfield 15, 3) := by decide +kernel
theorem d_Habit_lastDay_12 : decode b_Habit_lastDay 12 = .ok (.iconst 0, 1) := by decide +kernel
theorem d_Habit_lastDay_13 : decode b_Habit_lastDay 13 = .ok (.bipush 6, 2) := by decide +kernel
theorem d_Habit_lastDay_15 : decode b_Habit_lastDay 15 = .ok (.invokestatic 29, 3) := by decide +kernel
theorem d_Habit_lastDay_18 : decode b_Habit_lastDay 18 = .ok (.iconst 0, 1) := by decide +kernel
theorem d_Habit_lastDay_19 : decode b_Habit_lastDay 19 = .ok (.istore_n 2, 1) := by decide +kernel
theorem d_Habit_lastDay_20 : decode b_Habit_lastDay 20 = .ok (.iload_n 2, 1) := by decide +kernel
theorem d_Habit_lastDay_21 : decode b_Habit_lastDay 21 = .ok (.sipush 200, 3) := by decide +kernel
theorem d_Habit_lastDay_24 : decode b_Habit_lastDay 24 = .ok (.if_icmp .gt 40, 3) := by decide +kernel
theorem d_Habit_lastDay_27 : decode b_Habit_lastDay 27 = .ok (.aload_n 0, 1) := by decide +kernel
theorem d_Habit_lastDay_28 : decode b_Habit_lastDay 28 = .ok (.getfield 15, 3) := by decide +kernel
theorem d_Habit_lastDay_31 : decode b_Habit_lastDay 31 = .ok (.iload_n 1, 1) := by decide +kernel
theorem d_Habit_lastDay_32 : decode b_Habit_lastDay 32 = .ok (.invokestatic 35, 3) := by decide +kernel
theorem d_Habit_lastDay_35 : decode b_Habit_lastDay 35 = .ok (.ifCond .ne 5, 3) := by decide +kernel
theorem d_Habit_lastDay_38 : decode b_Habit_lastDay 38 = .ok (.iload_n 2, 1) := by decide +kernel
theorem d_Habit_lastDay_39 : decode b_Habit_lastDay 39 = .ok (.ireturn, 1) := by decide +kernel
theorem d_Habit_lastDay_40 : decode b_Habit_lastDay 40 = .ok (.aload_n 0, 1) := by decide +kernel
theorem d_Habit_lastDay_41 : decode b_Habit_lastDay 41 = .ok (.getfield 18, 3) := by decide +kernel
theorem d_Habit_lastDay_44 : decode b_Habit_lastDay 44 = .ok (.aload_n 0, 1) := by decide +kernel
theorem d_Habit_lastDay_45 : decode b_Habit_lastDay 45 = .ok (.getfield 15, 3) := by decide +kernel
theorem d_Habit_lastDay_48 : decode b_Habit_lastDay 48 = .ok (.aload_n 0, 1) := by decide +kernel
theorem d_Habit_lastDay_49 : decode b_Habit_lastDay 49 = .ok (.getfield 22, 3) := by decide +kernel
theorem d_Habit_lastDay_52 : decode b_Habit_lastDay 52 = .ok (.getfield 39, 3) := by decide +kernel
theorem d_Habit_lastDay_55 : decode b_Habit_lastDay 55 = .ok (.invokevirtual 43, 3) := by decide +kernel
theorem d_Habit_lastDay_58 : decode b_Habit_lastDay 58 = .ok (.iinc 2 1, 3) := by decide +kernel
theorem d_Habit_lastDay_61 : decode b_Habit_lastDay 61 = .ok (.goto (-41), 3) := by decide +kernel
theorem d_Habit_lastDay_64 : decode b_Habit_lastDay 64 = .ok (.bipush (-4), 2) := by decide +kernel
theorem d_Habit_lastDay_66 : decode b_Habit_lastDay 66 = .ok (.ireturn, 1) := by decide +kernel
def X_Habit_lastDay_L20 (n : Nat) (a1 : Int32) : Nat → Int32 → Mem → Option (Int32 × Mem)
    | 0, _, _ => none
    | m + 1, v2, M => (if 200 < v2 then
    some ((-4), M)
    else
    bd (X_Minds_knowers n 39 a1 M) fun r1 M2 =>
    (if r1 = 0 then
      some (v2, M2)
      else
      bd (X_Circle_liveDay n 39 (M2.1 16 1) M2) fun _ M4 =>
      X_Habit_lastDay_L20 n a1 m (v2 + 1) M4))
def X_Habit_lastDay (n : Nat) (p1 : Int32) (M : Mem) : Option (Int32 × Mem) :=
  gc (0 : Int32) (0 : Int32) (6 : Int32) 6 6 (
    X_Habit_lastDay_L20 n p1 n 0 (cpL M 17 ((0 : Int32).toNatClampNeg) 39 ((0 : Int32).toNatClampNeg) ((6 : Int32).toNatClampNeg)))
set_option maxRecDepth 20000 in
set_option maxHeartbeats 4000000 in
theorem X_Habit_lastDay_L20_ok {n : Nat} {a1 : Int32} : ∀ (m : Nat) (v2 : Int32) (M : Mem), J (mt_Habit_lastDay) wI 20 [(0, Value.ref 37), (1, Value.int a1), (2, Value.int v2)] [] M (X_Habit_lastDay_L20 n a1 m v2 M) := by
  intro m
  induction m with
  | zero => intro _ _; exact j_none
  | succ m ih =>
    intro v2 M
    show J _ _ _ _ _ _ ((if 200 < v2 then
some ((-4), M)
else
bd (X_Minds_knowers n 39 a1 M) fun r1 M2 =>
(if r1 = 0 then
some (v2, M2)
else
bd (X_Circle_liveDay n 39 (M2.1 16 1) M2) fun _ M4 =>
X_Habit_lastDay_L20 n a1 m (v2 + 1) M4)))
    refine j_iload_n (pc := 20) (q := 2) d_Habit_lastDay_20 rfl rfl ?_
    refine j_sipush (pc := 21) d_Habit_lastDay_21 k_s_200 ?_
    refine j_icmp_gt (pc := 24) (tgt := 64) d_Habit_lastDay_24 (by decide) (fun _ => ?_) (fun _ => ?_)
    · refine j_bipush (pc := 64) d_Habit_lastDay_64 k_b_m4 ?_
      exact j_ireturn (pc := 66) d_Habit_lastDay_66 rfl
    · refine j_aload_n (pc := 27) (q := 0) d_Habit_lastDay_27 rfl rfl ?_
      refine j_getA (pc := 28) d_Habit_lastDay_28 fl_Habit_15 sx_37 (by decide) rfl ?_
      refine j_iload_n (pc := 31) (q := 1) d_Habit_lastDay_31 rfl rfl ?_
      refine j_callS2 (pc := 32) d_Habit_lastDay_32 (C_Minds_knowers n 39 sx_39 a1 M) cS_Habit_35 cd_Minds_knowers dn_Minds_knowers rfl (by decide) (Nat.le_of_ble_eq_true rfl) (Nat.le_of_ble_eq_true rfl) nr_I (fun r1 M2 => ?_)
      refine j_if_ne (pc := 35) (tgt := 40) d_Habit_lastDay_35 (by decide) (fun _ => ?_) (fun _ => ?_)
      · refine j_aload_n (pc := 40) (q := 0) d_Habit_lastDay_40 rfl rfl ?_
        refine j_getA (pc := 41) d_Habit_lastDay_41 fl_Habit_18 sx_37 (by decide) rfl ?_
        refine j_aload_n (pc := 44) (q := 0) d_Habit_lastDay_44 rfl rfl ?_
        refine j_getA (pc := 45) d_Habit_lastDay_45 fl_Habit_15 sx_37 (by decide) rfl ?_
        refine j_aload_n (pc := 48) (q := 0) d_Habit_lastDay_48 rfl rfl ?_
        refine j_getA (pc := 49) d_Habit_lastDay_49 fl_Habit_22 sx_37 (by decide) rfl ?_
        refine j_getI (pc := 52) d_Habit_lastDay_52 fl_Habit_39 sx_16 (by decide) rfl ?_
        refine j_callV2 (pc := 55) d_Habit_lastDay_55 (C_Circle_liveDay n 39 sx_39 (M2.1 16 1) M2) cV_Habit_43 cd_Circle_liveDay dn_Circle_liveDay rfl (by decide) (Nat.le_of_ble_eq_true rfl) (Nat.le_of_ble_eq_true rfl) nr_U sx_11 (by decide) rfl (fun r3 M4 => ?_)
        refine j_iinc (pc := 58) (q := 2) d_Habit_lastDay_58 rfl (congrArg (v2 + ·) k_i_1) (by decide) rfl ?_
        refine j_goto (pc := 61) (tgt := 20) d_Habit_lastDay_61 (by decide) ?_
        refine j_lv [1, 2, 0] rfl ?_
        exact ih (v2 + 1) M4
      · refine j_iload_n (pc := 38) (q := 2) d_Habit_lastDay_38 rfl rfl ?_
        exact j_ireturn (pc := 39) d_Habit_lastDay_39 rfl
set_option maxRecDepth 20000 in
set_option maxHeartbeats 4000000 in
theorem C_Habit_lastDay (n : Nat)   (p1 : Int32) (M : Mem) : Ct y_Habit_lastDay mt_Habit_lastDay wI [Value.ref 37, Value.int p1] M (X_Habit_lastDay n p1 M) := by
  refine ct_of (by decide +kernel) rfl (Nat.le_of_ble_eq_true rfl) ?_
  show J _ _ _ [(0, Value.ref 37), (1, Value.int p1)] _ _ _
  unfold X_Habit_lastDay
  refine j_aload_n (pc := 0) (q := 0) d_Habit_lastDay_0 rfl rfl ?_
  refine j_getA (pc := 1) d_Habit_lastDay_1 fl_Habit_22 sx_37 (by decide) rfl ?_
  refine j_getA (pc := 4) d_Habit_lastDay_4 fl_Habit_26 sx_16 (by decide) rfl ?_
  refine j_iconst (pc := 7) d_Habit_lastDay_7 k_i_0 ?_
  refine j_aload_n (pc := 8) (q := 0) d_Habit_lastDay_8 rfl rfl ?_
  refine j_getA (pc := 9) d_Habit_lastDay_9 fl_Habit_15 sx_37 (by decide) rfl ?_
  refine j_iconst (pc := 12) d_Habit_lastDay_12 k_i_0 ?_
  refine j_bipush (pc := 13) d_Habit_lastDay_13 k_b_6 ?_
  refine j_copyL (pc := 15) d_Habit_lastDay_15 cw_Habit_29 cw_nat cw_st sx_17 sx_39 (by decide) (Nat.le_of_ble_eq_true rfl) ?_
  refine j_iconst (pc := 18) d_Habit_lastDay_18 k_i_0 ?_
  refine j_istore_n (pc := 19) d_Habit_lastDay_19 rfl (by decide) rfl ?_
  refine j_lv [1, 2, 0] rfl ?_
  exact X_Habit_lastDay_L20_ok   n 0 (cpL M 17 ((0 : Int32).toNatClampNeg) 39 ((0 : Int32).toNatClampNeg) ((6 : Int32).toNatClampNeg))
-- Habit.sameDay (I)I
def mt_Habit_sameDay : Mt := ("ShakeHands$Habit", b_Habit_sameDay, 4, some .int, 2, SHx)
theorem d_Habit_sameDay_0 : decode b_Habit_sameDay 0 = .ok (.iconst 0, 1) := by decide +kernel
theorem d_Habit_sameDay_1 : decode b_Habit_sameDay 1 = .ok (.istore_n 2, 1) := by decide +kernel
theorem d_Habit_sameDay_2 : decode b_Habit_sameDay 2 = .ok (.iload_n 2, 1) := by decide +kernel
theorem d_Habit_sameDay_3 : decode b_Habit_sameDay 3 = .ok (.iload_n 1, 1) := by decide +kernel
theorem d_Habit_sameDay_4 : decode b_Habit_sameDay 4 = .ok (.if_icmp .ge 52, 3) := by decide +kernel
theorem d_Habit_sameDay_7 : decode b_Habit_sameDay 7 = .ok (.iconst 0, 1) := by decide +kernel
theorem d_Habit_sameDay_8 : decode b_Habit_sameDay 8 = .ok (.istore_n 3, 1) := by decide +kernel
theorem d_Habit_sameDay_9 : decode b_Habit_sameDay 9 = .ok (.iload_n 3, 1) := by decide +kernel
theorem d_Habit_sameDay_10 : decode b_Habit_sameDay 10 = .ok (.bipush 6, 2) := by decide +kernel
theorem d_Habit_sameDay_12 : decode b_Habit_sameDay 12 = .ok (.if_icmp .ge 30, 3) := by decide +kernel
theorem d_Habit_sameDay_15 : decode b_Habit_sameDay 15 = .ok (.aload_n 0, 1) := by decide +kernel
theorem d_Habit_sameDay_16 : decode b_Habit_sameDay 16 = .ok (.getfield 11, 3) := by decide +kernel
theorem d_Habit_sameDay_19 : decode b_Habit_sameDay 19 = .ok (.iload_n 2, 1) := by decide +kernel
theorem d_Habit_sameDay_20 : decode b_Habit_sameDay 20 = .ok (.bipush 6, 2) := by decide +kernel
theorem d_Habit_sameDay_22 : decode b_Habit_sameDay 22 = .ok (.imul, 1) := by decide +kernel
theorem d_Habit_sameDay_23 : decode b_Habit_sameDay 23 = .ok (.iload_n 3, 1) := by decide +kernel
theorem d_Habit_sameDay_24 : decode b_Habit_sameDay 24 = .ok (.iadd, 1) := by decide +kernel
theorem d_Habit_sameDay_25 : decode b_Habit_sameDay 25 = .ok (.laload, 1) := by decide +kernel
theorem d_Habit_sameDay_26 : decode b_Habit_sameDay 26 = .ok (.aload_n 0, 1) := by decide +kernel
theorem d_Habit_sameDay_27 : decode b_Habit_sameDay 27 = .ok (.getfield 15, 3) := by decide +kernel
theorem d_Habit_sameDay_30 : decode b_Habit_sameDay 30 = .ok (.iload_n 3, 1) := by decide +kernel
theorem d_Habit_sameDay_31 : decode b_Habit_sameDay 31 = .ok (.laload, 1) := by decide +kernel
theorem d_Habit_sameDay_32 : decode b_Habit_sameDay 32 = .ok (.lcmp, 1) := by decide +kernel
theorem d_Habit_sameDay_33 : decode b_Habit_sameDay 33 = .ok (.ifCond .ne 9, 3) := by decide +kernel
theorem d_Habit_sameDay_36 : decode b_Habit_sameDay 36 = .ok (.iinc 3 1, 3) := by decide +kernel
theorem d_Habit_sameDay_39 : decode b_Habit_sameDay 39 = .ok (.goto (-30), 3) := by decide +kernel
theorem d_Habit_sameDay_42 : decode b_Habit_sameDay 42 = .ok (.iload_n 3, 1) := by decide +kernel
theorem d_Habit_sameDay_43 : decode b_Habit_sameDay 43 = .ok (.bipush 6, 2) := by decide +kernel
theorem d_Habit_sameDay_45 : decode b_Habit_sameDay 45 = .ok (.if_icmp .ne 5, 3) := by decide +kernel
theorem d_Habit_sameDay_48 : decode b_Habit_sameDay 48 = .ok (.iload_n 2, 1) := by decide +kernel
theorem d_Habit_sameDay_49 : decode b_Habit_sameDay 49 = .ok (.ireturn, 1) := by decide +kernel
theorem d_Habit_sameDay_50 : decode b_Habit_sameDay 50 = .ok (.iinc 2 1, 3) := by decide +kernel
theorem d_Habit_sameDay_53 : decode b_Habit_sameDay 53 = .ok (.goto (-51), 3) := by decide +kernel
theorem d_Habit_sameDay_56 : decode b_Habit_sameDay 56 = .ok (.iconst (-1), 1) := by decide +kernel
theorem d_Habit_sameDay_57 : decode b_Habit_sameDay 57 = .ok (.ireturn, 1) := by decide +kernel
def X_Habit_sameDay_L9 (n : Nat) (a1 : Int32) (a2 : Int32) (kx42 : Int32 → Option (Int32 × Mem)) (M : Mem) : Nat → Int32 → Option (Int32 × Mem)
    | 0, _ => none
    | m + 1, v3 => (if 6 ≤ v3 then
    kx42 v3
    else
    gd ((a2 * 6) + v3) 1206 (
      gd v3 6 (
        (if (lg_cmp (M.2 38 ((a2 * 6) + v3).toNatClampNeg) (M.2 39 v3.toNatClampNeg)) = 0 then
          X_Habit_sameDay_L9 n a1 a2 kx42 M m (v3 + 1)
          else
          kx42 v3))))
def X_Habit_sameDay_L2 (n : Nat) (a1 : Int32) (M : Mem) : Nat → Int32 → Option (Int32 × Mem)
    | 0, _ => none
    | m + 1, v2 => (if a1 ≤ v2 then
    some ((-1), M)
    else
    X_Habit_sameDay_L9 n a1 v2 (fun y1 => (if y1 = 6 then
        some (v2, M)
        else
        X_Habit_sameDay_L2 n a1 M m (v2 + 1))) M n 0)
def X_Habit_sameDay (n : Nat) (p1 : Int32) (M : Mem) : Option (Int32 × Mem) :=
  X_Habit_sameDay_L2 n p1 M n 0
set_option maxRecDepth 20000 in
set_option maxHeartbeats 4000000 in
theorem X_Habit_sameDay_L9_ok {n : Nat} {a1 : Int32} {a2 : Int32} {kx42 : Int32 → Option (Int32 × Mem)} {M : Mem} (hkx42 : ∀ (w3 : Int32), J (mt_Habit_sameDay) wI 42 [(0, Value.ref 37), (1, Value.int a1), (2, Value.int a2), (3, Value.int w3)] [] M (kx42 w3)) : ∀ (m : Nat) (v3 : Int32), J (mt_Habit_sameDay) wI 9 [(0, Value.ref 37), (1, Value.int a1), (2, Value.int a2), (3, Value.int v3)] [] M (X_Habit_sameDay_L9 n a1 a2 kx42 M m v3) := by
  intro m
  induction m with
  | zero => intro _; exact j_none
  | succ m ih =>
    intro v3
    show J _ _ _ _ _ _ ((if 6 ≤ v3 then
kx42 v3
else
gd ((a2 * 6) + v3) 1206 (
gd v3 6 (
(if (lg_cmp (M.2 38 ((a2 * 6) + v3).toNatClampNeg) (M.2 39 v3.toNatClampNeg)) = 0 then
X_Habit_sameDay_L9 n a1 a2 kx42 M m (v3 + 1)
else
kx42 v3)))))
    refine j_iload_n (pc := 9) (q := 3) d_Habit_sameDay_9 rfl rfl ?_
    refine j_bipush (pc := 10) d_Habit_sameDay_10 k_b_6 ?_
    refine j_icmp_ge (pc := 12) (tgt := 42) d_Habit_sameDay_12 (by decide) (fun _ => ?_) (fun _ => ?_)
    · exact hkx42 v3
    · refine j_aload_n (pc := 15) (q := 0) d_Habit_sameDay_15 rfl rfl ?_
      refine j_getA (pc := 16) d_Habit_sameDay_16 fl_Habit_11 sx_37 (by decide) rfl ?_
      refine j_iload_n (pc := 19) (q := 2) d_Habit_sameDay_19 rfl rfl ?_
      refine j_bipush (pc := 20) d_Habit_sameDay_20 k_b_6 ?_
      refine j_imul (pc := 22) d_Habit_sameDay_22 ?_
      refine j_iload_n (pc := 23) (q := 3) d_Habit_sameDay_23 rfl rfl ?_
      refine j_iadd (pc := 24) d_Habit_sameDay_24 ?_
      refine j_lald (pc := 25) d_Habit_sameDay_25 sx_38 (fun _ => ?_)
      refine j_aload_n (pc := 26) (q := 0) d_Habit_sameDay_26 rfl rfl ?_
      refine j_getA (pc := 27) d_Habit_sameDay_27 fl_Habit_15 sx_37 (by decide) rfl ?_
      refine j_iload_n (pc := 30) (q := 3) d_Habit_sameDay_30 rfl rfl ?_
      refine j_lald (pc := 31) d_Habit_sameDay_31 sx_39 (fun _ => ?_)
      refine j_lcmp (pc := 32) d_Habit_sameDay_32 ?_
      refine j_if_ne (pc := 33) (tgt := 42) d_Habit_sameDay_33 (by decide) (fun _ => ?_) (fun _ => ?_)
      · exact hkx42 v3
      · refine j_iinc (pc := 36) (q := 3) d_Habit_sameDay_36 rfl (congrArg (v3 + ·) k_i_1) (by decide) rfl ?_
        refine j_goto (pc := 39) (tgt := 9) d_Habit_sameDay_39 (by decide) ?_
        refine j_lv [1, 2, 3, 0] rfl ?_
        exact ih (v3 + 1)
set_option maxRecDepth 20000 in
set_option maxHeartbeats 4000000 in
theorem X_Habit_sameDay_L2_ok {n : Nat} {a1 : Int32} {M : Mem} : ∀ (m : Nat) (v2 : Int32), J (mt_Habit_sameDay) wI 2 [(0, Value.ref 37), (1, Value.int a1), (2, Value.int v2)] [] M (X_Habit_sameDay_L2 n a1 M m v2) := by
  intro m
  induction m with
  | zero => intro _; exact j_none
  | succ m ih =>
    intro v2
    show J _ _ _ _ _ _ ((if a1 ≤ v2 then
some ((-1), M)
else
X_Habit_sameDay_L9 n a1 v2 (fun y1 => (if y1 = 6 then
some (v2, M)
else
X_Habit_sameDay_L2 n a1 M m (v2 + 1))) M n 0))
    refine j_iload_n (pc := 2) (q := 2) d_Habit_sameDay_2 rfl rfl ?_
    refine j_iload_n (pc := 3) (q := 1) d_Habit_sameDay_3 rfl rfl ?_
    refine j_icmp_ge (pc := 4) (tgt := 56) d_Habit_sameDay_4 (by decide) (fun _ => ?_) (fun _ => ?_)
    · refine j_iconst (pc := 56) d_Habit_sameDay_56 k_i_m1 ?_
      exact j_ireturn (pc := 57) d_Habit_sameDay_57 rfl
    · refine j_iconst (pc := 7) d_Habit_sameDay_7 k_i_0 ?_
      refine j_istore_n (pc := 8) d_Habit_sameDay_8 rfl (by decide) rfl ?_
      refine j_lv [1, 2, 3, 0] rfl ?_
      refine X_Habit_sameDay_L9_ok  (fun y1 => ?_) n 0
      refine j_iload_n (pc := 42) (q := 3) d_Habit_sameDay_42 rfl rfl ?_
      refine j_bipush (pc := 43) d_Habit_sameDay_43 k_b_6 ?_
      refine j_icmp_ne (pc := 45) (tgt := 50) d_Habit_sameDay_45 (by decide) (fun _ => ?_) (fun _ => ?_)
      · refine j_iinc (pc := 50) (q := 2) d_Habit_sameDay_50 rfl (congrArg (v2 + ·) k_i_1) (by decide) rfl ?_
        refine j_goto (pc := 53) (tgt := 2) d_Habit_sameDay_53 (by decide) ?_
        refine j_lv [1, 2, 0] rfl ?_
        exact ih (v2 + 1)
      · refine j_iload_n (pc := 48) (q := 2) d_Habit_sameDay_48 rfl rfl ?_
        exact j_ireturn (pc := 49) d_Habit_sameDay_49 rfl
set_option maxRecDepth 20000 in
set_option maxHeartbeats 4000000 in
theorem C_Habit_sameDay (n : Nat)   (p1 : Int32) (M : Mem) : Ct y_Habit_sameDay mt_Habit_sameDay wI [Value.ref 37, Value.int p1] M (X_Habit_sameDay n p1 M) := by
  refine ct_of (by decide +kernel) rfl (Nat.le_of_ble_eq_true rfl) ?_
  show J _ _ _ [(0, Value.ref 37), (1, Value.int p1)] _ _ _
  unfold X_Habit_sameDay
  refine j_iconst (pc := 0) d_Habit_sameDay_0 k_i_0 ?_
  refine j_istore_n (pc := 1) d_Habit_sameDay_1 rfl (by decide) rfl ?_
  refine j_lv [1, 2, 0] rfl ?_
  exact X_Habit_sameDay_L2_ok   n 0
-- Habit.comesBack (Z)I
def mt_Habit_comesBack : Mt := ("ShakeHands$Habit", b_Habit_comesBack, 4, some .int, 7, SHx)
theorem d_Habit_comesBack_0 : decode b_Habit_comesBack 0 = .ok (.aload_n 0, 1) := by decide +kernel
theorem d_Habit_comesBack_1 : decode b_Habit_comesBack 1 = .ok (.getfield 22, 3) := by decide +kernel
theorem d_Habit_comesBack_4 : decode b_Habit_comesBack 4 = .ok (.getfield 26, 3) := by decide +kernel
theorem d_Habit_comesBack_7 : decode b_Habit_comesBack 7 = .ok (.iconst 0, 1) := by decide +kernel
theorem d_Habit_comesBack_8 : decode b_Habit_comesBack 8 = .ok (.aload_n 0, 1) := by decide +kernel
theorem d_Habit_comesBack_9 : decode b_Habit_comesBack 9 = .ok (.getfield 15, 3) := by decide +kernel
theorem d_Habit_comesBack_12 : decode b_Habit_comesBack 12 = .ok (.iconst 0, 1) := by decide +kernel
theorem d_Habit_comesBack_13 : decode b_Habit_comesBack 13 = .ok (.bipush 6, 2) := by decide +kernel
theorem d_Habit_comesBack_15 : decode b_Habit_comesBack 15 = .ok (.invokestatic 29, 3) := by decide +kernel
theorem d_Habit_comesBack_18 : decode b_Habit_comesBack 18 = .ok (.iconst 0, 1) := by decide +kernel
theorem d_Habit_comesBack_19 : decode b_Habit_comesBack 19 = .ok (.istore_n 2, 1) := by decide +kernel
theorem d_Habit_comesBack_20 : decode b_Habit_comesBack 20 = .ok (.iload_n 2, 1) := by decide +kernel
theorem d_Habit_comesBack_21 : decode b_Habit_comesBack 21 = .ok (.sipush 200, 3) := by decide +kernel
theorem d_Habit_comesBack_24 : decode b_Habit_comesBack 24 = .ok (.if_icmp .gt 67, 3) := by decide +kernel
theorem d_Habit_comesBack_27 : decode b_Habit_comesBack 27 = .ok (.aload_n 0, 1) := by decide +kernel
theorem d_Habit_comesBack_28 : decode b_Habit_comesBack 28 = .ok (.iload_n 2, 1) := by decide +kernel
theorem d_Habit_comesBack_29 : decode b_Habit_comesBack 29 = .ok (.invokevirtual 49, 3) := by decide +kernel
theorem d_Habit_comesBack_32 : decode b_Habit_comesBack 32 = .ok (.istore_n 3, 1) := by decide +kernel
theorem d_Habit_comesBack_33 : decode b_Habit_comesBack 33 = .ok (.iload_n 3, 1) := by decide +kernel
theorem d_Habit_comesBack_34 : decode b_Habit_comesBack 34 = .ok (.ifCond .lt 15, 3) := by decide +kernel
theorem d_Habit_comesBack_37 : decode b_Habit_comesBack 37 = .ok (.iload_n 1, 1) := by decide +kernel
theorem d_Habit_comesBack_38 : decode b_Habit_comesBack 38 = .ok (.ifCond .eq 9, 3) := by decide +kernel
theorem d_Habit_comesBack_41 : decode b_Habit_comesBack 41 = .ok (.iload_n 2, 1) := by decide +kernel
theorem d_Habit_comesBack_42 : decode b_Habit_comesBack 42 = .ok (.iload_n 3, 1) := by decide +kernel
theorem d_Habit_comesBack_43 : decode b_Habit_comesBack 43 = .ok (.isub, 1) := by decide +kernel
theorem d_Habit_comesBack_44 : decode b_Habit_comesBack 44 = .ok (.goto 4, 3) := by decide +kernel
theorem d_Habit_comesBack_47 : decode b_Habit_comesBack 47 = .ok (.iload_n 3, 1) := by decide +kernel
theorem d_Habit_comesBack_48 : decode b_Habit_comesBack 48 = .ok (.ireturn, 1) := by decide +kernel
theorem d_Habit_comesBack_49 : decode b_Habit_comesBack 49 = .ok (.aload_n 0, 1) := by decide +kernel
theorem d_Habit_comesBack_50 : decode b_Habit_comesBack 50 = .ok (.getfield 15, 3) := by decide +kernel
theorem d_Habit_comesBack_53 : decode b_Habit_comesBack 53 = .ok (.iconst 0, 1) := by decide +kernel
theorem d_Habit_comesBack_54 : decode b_Habit_comesBack 54 = .ok (.aload_n 0, 1) := by decide +kernel
theorem d_Habit_comesBack_55 : decode b_Habit_comesBack 55 = .ok (.getfield 11, 3) := by decide +kernel
theorem d_Habit_comesBack_58 : decode b_Habit_comesBack 58 = .ok (.iload_n 2, 1) := by decide +kernel
theorem d_Habit_comesBack_59 : decode b_Habit_comesBack 59 = .ok (.bipush 6, 2) := by decide +kernel
theorem d_Habit_comesBack_61 : decode b_Habit_comesBack 61 = .ok (.imul, 1) := by decide +kernel
theorem d_Habit_comesBack_62 : decode b_Habit_comesBack 62 = .ok (.bipush 6, 2) := by decide +kernel
theorem d_Habit_comesBack_64 : decode b_Habit_comesBack 64 = .ok (.invokestatic 29, 3) := by decide +kernel
theorem d_Habit_comesBack_67 : decode b_Habit_comesBack 67 = .ok (.aload_n 0, 1) := by decide +kernel
theorem d_Habit_comesBack_68 : decode b_Habit_comesBack 68 = .ok (.getfield 18, 3) := by decide +kernel
theorem d_Habit_comesBack_71 : decode b_Habit_comesBack 71 = .ok (.aload_n 0, 1) := by decide +kernel
theorem d_Habit_comesBack_72 : decode b_Habit_comesBack 72 = .ok (.getfield 15, 3) := by decide +kernel
theorem d_Habit_comesBack_75 : decode b_Habit_comesBack 75 = .ok (.aload_n 0, 1) := by decide +kernel
theorem d_Habit_comesBack_76 : decode b_Habit_comesBack 76 = .ok (.getfield 22, 3) := by decide +kernel
theorem d_Habit_comesBack_79 : decode b_Habit_comesBack 79 = .ok (.getfield 39, 3) := by decide +kernel
theorem d_Habit_comesBack_82 : decode b_Habit_comesBack 82 = .ok (.invokevirtual 43, 3) := by decide +kernel
theorem d_Habit_comesBack_85 : decode b_Habit_comesBack 85 = .ok (.iinc 2 1, 3) := by decide +kernel
theorem d_Habit_comesBack_88 : decode b_Habit_comesBack 88 = .ok (.goto (-68), 3) := by decide +kernel
theorem d_Habit_comesBack_91 : decode b_Habit_comesBack 91 = .ok (.bipush (-4), 2) := by decide +kernel
theorem d_Habit_comesBack_93 : decode b_Habit_comesBack 93 = .ok (.ireturn, 1) := by decide +kernel
def X_Habit_comesBack_L20 (n : Nat) (a1 : Int32) (kx37 : Int32 → Int32 → Mem → Option (Int32 × Mem)) : Nat → Int32 → Mem → Option (Int32 × Mem)
    | 0, _, _ => none
    | m + 1, v2, M => (if 200 < v2 then
    some ((-4), M)
    else
    bd (X_Habit_sameDay n v2 M) fun r1 M2 =>
    (if r1 < 0 then
      gc (0 : Int32) (v2 * 6) (6 : Int32) 6 1206 (
        nm (cpL M2 39 ((0 : Int32).toNatClampNeg) 38 ((v2 * 6).toNatClampNeg) ((6 : Int32).toNatClampNeg)) fun N3 =>
        bd (X_Circle_liveDay n 39 (N3.1 16 1) N3) fun _ M5 =>
        X_Habit_comesBack_L20 n a1 kx37 m (v2 + 1) M5)
      else
      kx37 v2 r1 M2))
def X_Habit_comesBack (n : Nat) (p1 : Int32) (M : Mem) : Option (Int32 × Mem) :=
  gc (0 : Int32) (0 : Int32) (6 : Int32) 6 6 (
    X_Habit_comesBack_L20 n p1 (fun y6 y7 M8 => (if p1 = 0 then
        some (y7, M8)
        else
        some ((y6 - y7), M8))) n 0 (cpL M 17 ((0 : Int32).toNatClampNeg) 39 ((0 : Int32).toNatClampNeg) ((6 : Int32).toNatClampNeg)))
set_option maxRecDepth 20000 in
set_option maxHeartbeats 4000000 in
theorem X_Habit_comesBack_L20_ok {n : Nat} {a1 : Int32} {kx37 : Int32 → Int32 → Mem → Option (Int32 × Mem)} (hkx37 : ∀ (w2 : Int32) (w3 : Int32) (M : Mem), J (mt_Habit_comesBack) wI 37 [(1, Value.int a1), (2, Value.int w2), (3, Value.int w3)] [] M (kx37 w2 w3 M)) : ∀ (m : Nat) (v2 : Int32) (M : Mem), J (mt_Habit_comesBack) wI 20 [(0, Value.ref 37), (1, Value.int a1), (2, Value.int v2)] [] M (X_Habit_comesBack_L20 n a1 kx37 m v2 M) := by
  intro m
  induction m with
  | zero => intro _ _; exact j_none
  | succ m ih =>
    intro v2 M
    show J _ _ _ _ _ _ ((if 200 < v2 then
some ((-4), M)
else
bd (X_Habit_sameDay n v2 M) fun r1 M2 =>
(if r1 < 0 then
gc (0 : Int32) (v2 * 6) (6 : Int32) 6 1206 (
nm (cpL M2 39 ((0 : Int32).toNatClampNeg) 38 ((v2 * 6).toNatClampNeg) ((6 : Int32).toNatClampNeg)) fun N3 =>
bd (X_Circle_liveDay n 39 (N3.1 16 1) N3) fun _ M5 =>
X_Habit_comesBack_L20 n a1 kx37 m (v2 + 1) M5)
else
kx37 v2 r1 M2)))
    refine j_iload_n (pc := 20) (q := 2) d_Habit_comesBack_20 rfl rfl ?_
    refine j_sipush (pc := 21) d_Habit_comesBack_21 k_s_200 ?_
    refine j_icmp_gt (pc := 24) (tgt := 91) d_Habit_comesBack_24 (by decide) (fun _ => ?_) (fun _ => ?_)
    · refine j_bipush (pc := 91) d_Habit_comesBack_91 k_b_m4 ?_
      exact j_ireturn (pc := 93) d_Habit_comesBack_93 rfl
    · refine j_aload_n (pc := 27) (q := 0) d_Habit_comesBack_27 rfl rfl ?_
      refine j_iload_n (pc := 28) (q := 2) d_Habit_comesBack_28 rfl rfl ?_
      refine j_callV1 (pc := 29) d_Habit_comesBack_29 (C_Habit_sameDay n v2 M) cV_Habit_49 cd_Habit_sameDay dn_Habit_sameDay rfl (by decide) (Nat.le_of_ble_eq_true rfl) (Nat.le_of_ble_eq_true rfl) nr_I sx_37 (by decide) rfl (fun r1 M2 => ?_)
      refine j_istore_n (pc := 32) d_Habit_comesBack_32 rfl (by decide) rfl ?_
      refine j_iload_n (pc := 33) (q := 0) d_Habit_comesBack_33 rfl rfl ?_
      refine j_if_lt (pc := 34) (tgt := 49) d_Habit_comesBack_34 (by decide) (fun _ => ?_) (fun _ => ?_)
      · refine j_aload_n (pc := 49) (q := 1) d_Habit_comesBack_49 rfl rfl ?_
        refine j_getA (pc := 50) d_Habit_comesBack_50 fl_Habit_15 sx_37 (by decide) rfl ?_
        refine j_iconst (pc := 53) d_Habit_comesBack_53 k_i_0 ?_
        refine j_aload_n (pc := 54) (q := 1) d_Habit_comesBack_54 rfl rfl ?_
        refine j_getA (pc := 55) d_Habit_comesBack_55 fl_Habit_11 sx_37 (by decide) rfl ?_
        refine j_iload_n (pc := 58) (q := 3) d_Habit_comesBack_58 rfl rfl ?_
        refine j_bipush (pc := 59) d_Habit_comesBack_59 k_b_6 ?_
        refine j_imul (pc := 61) d_Habit_comesBack_61 ?_
        refine j_bipush (pc := 62) d_Habit_comesBack_62 k_b_6 ?_
        refine j_copyL (pc := 64) d_Habit_comesBack_64 cw_Habit_29 cw_nat cw_st sx_39 sx_38 (by decide) (Nat.le_of_ble_eq_true rfl) ?_
        refine j_aload_n (pc := 67) (q := 1) d_Habit_comesBack_67 rfl rfl ?_
        refine j_getA (pc := 68) d_Habit_comesBack_68 fl_Habit_18 sx_37 (by decide) rfl ?_
        refine j_aload_n (pc := 71) (q := 1) d_Habit_comesBack_71 rfl rfl ?_
        refine j_getA (pc := 72) d_Habit_comesBack_72 fl_Habit_15 sx_37 (by decide) rfl ?_
        refine j_aload_n (pc := 75) (q := 1) d_Habit_comesBack_75 rfl rfl ?_
        refine j_getA (pc := 76) d_Habit_comesBack_76 fl_Habit_22 sx_37 (by decide) rfl ?_
        refine j_nmM (fun N3 => ?_)
        refine j_getI (pc := 79) d_Habit_comesBack_79 fl_Habit_39 sx_16 (by decide) rfl ?_
        refine j_callV2 (pc := 82) d_Habit_comesBack_82 (C_Circle_liveDay n 39 sx_39 (N3.1 16 1) N3) cV_Habit_43 cd_Circle_liveDay dn_Circle_liveDay rfl (by decide) (Nat.le_of_ble_eq_true rfl) (Nat.le_of_ble_eq_true rfl) nr_U sx_11 (by decide) rfl (fun r4 M5 => ?_)
        refine j_iinc (pc := 85) (q := 3) d_Habit_comesBack_85 rfl (congrArg (v2 + ·) k_i_1) (by decide) rfl ?_
        refine j_goto (pc := 88) (tgt := 20) d_Habit_comesBack_88 (by decide) ?_
        refine j_lv [2, 3, 0] rfl ?_
        exact ih (v2 + 1) M5
      · refine j_lv [2, 3, 0] rfl ?_
        exact hkx37 v2 r1 M2
set_option maxRecDepth 20000 in
set_option maxHeartbeats 4000000 in
theorem C_Habit_comesBack (n : Nat)   (p1 : Int32) (M : Mem) : Ct y_Habit_comesBack mt_Habit_comesBack wI [Value.ref 37, Value.int p1] M (X_Habit_comesBack n p1 M) := by
  refine ct_of (by decide +kernel) rfl (Nat.le_of_ble_eq_true rfl) ?_
  show J _ _ _ [(0, Value.ref 37), (1, Value.int p1)] _ _ _
  unfold X_Habit_comesBack
  refine j_aload_n (pc := 0) (q := 0) d_Habit_comesBack_0 rfl rfl ?_
  refine j_getA (pc := 1) d_Habit_comesBack_1 fl_Habit_22 sx_37 (by decide) rfl ?_
  refine j_getA (pc := 4) d_Habit_comesBack_4 fl_Habit_26 sx_16 (by decide) rfl ?_
  refine j_iconst (pc := 7) d_Habit_comesBack_7 k_i_0 ?_
  refine j_aload_n (pc := 8) (q := 0) d_Habit_comesBack_8 rfl rfl ?_
  refine j_getA (pc := 9) d_Habit_comesBack_9 fl_Habit_15 sx_37 (by decide) rfl ?_
  refine j_iconst (pc := 12) d_Habit_comesBack_12 k_i_0 ?_
  refine j_bipush (pc := 13) d_Habit_comesBack_13 k_b_6 ?_
  refine j_copyL (pc := 15) d_Habit_comesBack_15 cw_Habit_29 cw_nat cw_st sx_17 sx_39 (by decide) (Nat.le_of_ble_eq_true rfl) ?_
  refine j_iconst (pc := 18) d_Habit_comesBack_18 k_i_0 ?_
  refine j_istore_n (pc := 19) d_Habit_comesBack_19 rfl (by decide) rfl ?_
  refine j_lv [1, 2, 0] rfl ?_
  refine X_Habit_comesBack_L20_ok  (fun y6 y7 M8 => ?_) n 0 (cpL M 17 ((0 : Int32).toNatClampNeg) 39 ((0 : Int32).toNatClampNeg) ((6 : Int32).toNatClampNeg))
  refine j_iload_n (pc := 37) (q := 0) d_Habit_comesBack_37 rfl rfl ?_
  refine j_if_eq (pc := 38) (tgt := 47) d_Habit_comesBack_38 (by decide) (fun _ => ?_) (fun _ => ?_)
  · refine j_iload_n (pc := 47) (q := 2) d_Habit_comesBack_47 rfl rfl ?_
    exact j_ireturn (pc := 48) d_Habit_comesBack_48 rfl
  · refine j_iload_n (pc := 41) (q := 1) d_Habit_comesBack_41 rfl rfl ?_
    refine j_iload_n (pc := 42) (q := 2) d_Habit_comesBack_42 rfl rfl ?_
    refine j_isub (pc := 43) d_Habit_comesBack_43 ?_
    refine j_goto (pc := 44) (tgt := 48) d_Habit_comesBack_44 (by decide) ?_
    exact j_ireturn (pc := 48) d_Habit_comesBack_48 rfl
end
section
-- Search.begin ()V
def mt_Search_begin : Mt := ("ShakeHands$Search", b_Search_begin, 1, none, 2, SHx)
theorem d_Search_begin_0 : decode b_Search_begin 0 = .ok (.aload_n 0, 1) := by decide +kernel
theorem d_Search_begin_1 : decode b_Search_begin 1 = .ok (.aload_n 0, 1) := by decide +kernel
theorem d_Search_begin_2 : decode b_Search_begin 2 = .ok (.getfield 23, 3) := by decide +kernel
theorem d_Search_begin_5 : decode b_Search_begin 5 = .ok (.getfield 31, 3) := by decide +kernel
theorem d_Search_begin_8 : decode b_Search_begin 8 = .ok (.aload_n 0, 1) := by decide +kernel
theorem d_Search_begin_9 : decode b_Search_begin 9 = .ok (.getfield 23, 3) := by decide +kernel
theorem d_Search_begin_12 : decode b_Search_begin 12 = .ok (.getfield 31, 3) := by decide +kernel
theorem d_Search_begin_15 : decode b_Search_begin 15 = .ok (.iconst 1, 1) := by decide +kernel
theorem d_Search_begin_16 : decode b_Search_begin 16 = .ok (.isub, 1) := by decide +kernel
theorem d_Search_begin_17 : decode b_Search_begin 17 = .ok (.imul, 1) := by decide +kernel
theorem d_Search_begin_18 : decode b_Search_begin 18 = .ok (.iconst 2, 1) := by decide +kernel
theorem d_Search_begin_19 : decode b_Search_begin 19 = .ok (.idiv, 1) := by decide +kernel
theorem d_Search_begin_20 : decode b_Search_begin 20 = .ok (.putfield 37, 3) := by decide +kernel
theorem d_Search_begin_23 : decode b_Search_begin 23 = .ok (.aload_n 0, 1) := by decide +kernel
theorem d_Search_begin_24 : decode b_Search_begin 24 = .ok (.getfield 27, 3) := by decide +kernel
theorem d_Search_begin_27 : decode b_Search_begin 27 = .ok (.getfield 40, 3) := by decide +kernel
theorem d_Search_begin_30 : decode b_Search_begin 30 = .ok (.iconst 0, 1) := by decide +kernel
theorem d_Search_begin_31 : decode b_Search_begin 31 = .ok (.aload_n 0, 1) := by decide +kernel
theorem d_Search_begin_32 : decode b_Search_begin 32 = .ok (.getfield 20, 3) := by decide +kernel
theorem d_Search_begin_35 : decode b_Search_begin 35 = .ok (.iconst 0, 1) := by decide +kernel
theorem d_Search_begin_36 : decode b_Search_begin 36 = .ok (.aaload, 1) := by decide +kernel
theorem d_Search_begin_37 : decode b_Search_begin 37 = .ok (.iconst 0, 1) := by decide +kernel
theorem d_Search_begin_38 : decode b_Search_begin 38 = .ok (.bipush 6, 2) := by decide +kernel
theorem d_Search_begin_40 : decode b_Search_begin 40 = .ok (.invokestatic 46, 3) := by decide +kernel
theorem d_Search_begin_43 : decode b_Search_begin 43 = .ok (.return_, 1) := by decide +kernel
def X_Search_begin (n : Nat) (M : Mem) : Option (Unit × Mem) :=
  (if 2 = 0 then none else
    gd (0 : Int32) 7 (
      nm (si M 26 8 (((M.1 11 0) * ((M.1 11 0) - 1)) / 2)) fun N2 =>
      gc (0 : Int32) (0 : Int32) (6 : Int32) 6 6 (
        some ((), cpL N2 17 ((0 : Int32).toNatClampNeg) (([30, 31, 32, 33, 34, 35, 36] : List Nat).getD (0 : Int32).toNatClampNeg 0) ((0 : Int32).toNatClampNeg) ((6 : Int32).toNatClampNeg)))))
set_option maxRecDepth 20000 in
set_option maxHeartbeats 4000000 in
theorem C_Search_begin (n : Nat)    (M : Mem) : Ct y_Search_begin mt_Search_begin wU [Value.ref 26] M (X_Search_begin n M) := by
  refine ct_of (by decide +kernel) rfl (Nat.le_of_ble_eq_true rfl) ?_
  show J _ _ _ [(0, Value.ref 26)] _ _ _
  unfold X_Search_begin
  refine j_aload_n (pc := 0) (q := 0) d_Search_begin_0 rfl rfl ?_
  refine j_aload_n (pc := 1) (q := 0) d_Search_begin_1 rfl rfl ?_
  refine j_getA (pc := 2) d_Search_begin_2 fl_Search_23 sx_26 (by decide) rfl ?_
  refine j_getI (pc := 5) d_Search_begin_5 fl_Search_31 sx_11 (by decide) rfl ?_
  refine j_aload_n (pc := 8) (q := 0) d_Search_begin_8 rfl rfl ?_
  refine j_getA (pc := 9) d_Search_begin_9 fl_Search_23 sx_26 (by decide) rfl ?_
  refine j_getI (pc := 12) d_Search_begin_12 fl_Search_31 sx_11 (by decide) rfl ?_
  refine j_iconst (pc := 15) d_Search_begin_15 k_i_1 ?_
  refine j_isub (pc := 16) d_Search_begin_16 ?_
  refine j_imul (pc := 17) d_Search_begin_17 ?_
  refine j_iconst (pc := 18) d_Search_begin_18 k_i_2 ?_
  refine j_idiv (pc := 19) d_Search_begin_19 (fun _ => ?_)
  refine j_putI (pc := 20) d_Search_begin_20 fl_Search_37 rfl sx_26 (by decide) rfl ?_
  refine j_aload_n (pc := 23) (q := 0) d_Search_begin_23 rfl rfl ?_
  refine j_getA (pc := 24) d_Search_begin_24 fl_Search_27 sx_26 (by decide) rfl ?_
  refine j_getA (pc := 27) d_Search_begin_27 fl_Search_40 sx_16 (by decide) rfl ?_
  refine j_iconst (pc := 30) d_Search_begin_30 k_i_0 ?_
  refine j_aload_n (pc := 31) (q := 0) d_Search_begin_31 rfl rfl ?_
  refine j_getA (pc := 32) d_Search_begin_32 fl_Search_20 sx_26 (by decide) rfl ?_
  refine j_iconst (pc := 35) d_Search_begin_35 k_i_0 ?_
  refine j_aald2 (pc := 36) (ids := [30, 31, 32, 33, 34, 35, 36]) d_Search_begin_36 sx_29 (fun h1 => ?_)
  refine j_iconst (pc := 37) d_Search_begin_37 k_i_0 ?_
  refine j_bipush (pc := 38) d_Search_begin_38 k_b_6 ?_
  refine j_nmM (fun N2 => ?_)
  refine j_copyL (pc := 40) d_Search_begin_40 cw_Search_46 cw_nat cw_st sx_17 (sh_level h1) (by decide) (Nat.le_of_ble_eq_true rfl) ?_
  exact j_return (pc := 43) d_Search_begin_43 rfl
-- Search.aim (IIII)V
def mt_Search_aim : Mt := ("ShakeHands$Search", b_Search_aim, 5, none, 2, SHx)
theorem d_Search_aim_0 : decode b_Search_aim 0 = .ok (.aload_n 0, 1) := by decide +kernel
theorem d_Search_aim_1 : decode b_Search_aim 1 = .ok (.iload_n 1, 1) := by decide +kernel
theorem d_Search_aim_2 : decode b_Search_aim 2 = .ok (.putfield 52, 3) := by decide +kernel
theorem d_Search_aim_5 : decode b_Search_aim 5 = .ok (.aload_n 0, 1) := by decide +kernel
theorem d_Search_aim_6 : decode b_Search_aim 6 = .ok (.iload_n 2, 1) := by decide +kernel
theorem d_Search_aim_7 : decode b_Search_aim 7 = .ok (.putfield 55, 3) := by decide +kernel
theorem d_Search_aim_10 : decode b_Search_aim 10 = .ok (.aload_n 0, 1) := by decide +kernel
theorem d_Search_aim_11 : decode b_Search_aim 11 = .ok (.iload_n 3, 1) := by decide +kernel
theorem d_Search_aim_12 : decode b_Search_aim 12 = .ok (.putfield 58, 3) := by decide +kernel
theorem d_Search_aim_15 : decode b_Search_aim 15 = .ok (.aload_n 0, 1) := by decide +kernel
theorem d_Search_aim_16 : decode b_Search_aim 16 = .ok (.iload 4, 2) := by decide +kernel
theorem d_Search_aim_18 : decode b_Search_aim 18 = .ok (.putfield 61, 3) := by decide +kernel
theorem d_Search_aim_21 : decode b_Search_aim 21 = .ok (.return_, 1) := by decide +kernel
def X_Search_aim (n : Nat) (p1 : Int32) (p2 : Int32) (p3 : Int32) (p4 : Int32) (M : Mem) : Option (Unit × Mem) :=
  some ((), si (si (si (si M 26 9 p1) 26 10 p2) 26 11 p3) 26 12 p4)
set_option maxRecDepth 20000 in
set_option maxHeartbeats 4000000 in
theorem C_Search_aim (n : Nat)   (p1 : Int32) (p2 : Int32) (p3 : Int32) (p4 : Int32) (M : Mem) : Ct y_Search_aim mt_Search_aim wU [Value.ref 26, Value.int p1, Value.int p2, Value.int p3, Value.int p4] M (X_Search_aim n p1 p2 p3 p4 M) := by
  refine ct_of (by decide +kernel) rfl (Nat.le_of_ble_eq_true rfl) ?_
  show J _ _ _ [(0, Value.ref 26), (1, Value.int p1), (2, Value.int p2), (3, Value.int p3), (4, Value.int p4)] _ _ _
  unfold X_Search_aim
  refine j_aload_n (pc := 0) (q := 0) d_Search_aim_0 rfl rfl ?_
  refine j_iload_n (pc := 1) (q := 1) d_Search_aim_1 rfl rfl ?_
  refine j_putI (pc := 2) d_Search_aim_2 fl_Search_52 rfl sx_26 (by decide) rfl ?_
  refine j_aload_n (pc := 5) (q := 0) d_Search_aim_5 rfl rfl ?_
  refine j_iload_n (pc := 6) (q := 2) d_Search_aim_6 rfl rfl ?_
  refine j_putI (pc := 7) d_Search_aim_7 fl_Search_55 rfl sx_26 (by decide) rfl ?_
  refine j_aload_n (pc := 10) (q := 0) d_Search_aim_10 rfl rfl ?_
  refine j_iload_n (pc := 11) (q := 3) d_Search_aim_11 rfl rfl ?_
  refine j_putI (pc := 12) d_Search_aim_12 fl_Search_58 rfl sx_26 (by decide) rfl ?_
  refine j_aload_n (pc := 15) (q := 0) d_Search_aim_15 rfl rfl ?_
  refine j_iload (pc := 16) (q := 4) d_Search_aim_16 rfl ?_
  refine j_putI (pc := 18) d_Search_aim_18 fl_Search_61 rfl sx_26 (by decide) rfl ?_
  exact j_return (pc := 21) d_Search_aim_21 rfl
-- Search.isBarred ([J)Z
def mt_Search_isBarred : Mt := ("ShakeHands$Search", b_Search_isBarred, 2, some .boolean, 3, SHx)
theorem d_Search_isBarred_0 : decode b_Search_isBarred 0 = .ok (.aload_n 1, 1) := by decide +kernel
theorem d_Search_isBarred_1 : decode b_Search_isBarred 1 = .ok (.aload_n 0, 1) := by decide +kernel
theorem d_Search_isBarred_2 : decode b_Search_isBarred 2 = .ok (.getfield 52, 3) := by decide +kernel
theorem d_Search_isBarred_5 : decode b_Search_isBarred 5 = .ok (.invokestatic 97, 3) := by decide +kernel
theorem d_Search_isBarred_8 : decode b_Search_isBarred 8 = .ok (.aload_n 0, 1) := by decide +kernel
theorem d_Search_isBarred_9 : decode b_Search_isBarred 9 = .ok (.getfield 61, 3) := by decide +kernel
theorem d_Search_isBarred_12 : decode b_Search_isBarred 12 = .ok (.iand, 1) := by decide +kernel
theorem d_Search_isBarred_13 : decode b_Search_isBarred 13 = .ok (.ifCond .eq 7, 3) := by decide +kernel
theorem d_Search_isBarred_16 : decode b_Search_isBarred 16 = .ok (.iconst 1, 1) := by decide +kernel
theorem d_Search_isBarred_17 : decode b_Search_isBarred 17 = .ok (.goto 4, 3) := by decide +kernel
theorem d_Search_isBarred_20 : decode b_Search_isBarred 20 = .ok (.iconst 0, 1) := by decide +kernel
theorem d_Search_isBarred_21 : decode b_Search_isBarred 21 = .ok (.ireturn, 1) := by decide +kernel
def X_Search_isBarred (n : Nat) (rows : Nat) (M : Mem) : Option (Int32 × Mem) :=
  bd (X_Minds_knowers n rows (M.1 26 9) M) fun r1 M2 =>
  (if (r1 &&& (M2.1 26 12)) = 0 then
    some (0, M2)
    else
    some (1, M2))
set_option maxRecDepth 20000 in
set_option maxHeartbeats 4000000 in
theorem C_Search_isBarred (n : Nat) (rows : Nat) (h_rows : SHx[rows]? = some (103, [6]))  (M : Mem) : Ct y_Search_isBarred mt_Search_isBarred wI [Value.ref 26, Value.ref rows] M (X_Search_isBarred n rows M) := by
  refine ct_of (by decide +kernel) rfl (Nat.le_of_ble_eq_true rfl) ?_
  show J _ _ _ [(0, Value.ref 26), (1, Value.ref rows)] _ _ _
  unfold X_Search_isBarred
  refine j_aload_n (pc := 0) (q := 1) d_Search_isBarred_0 rfl rfl ?_
  refine j_aload_n (pc := 1) (q := 0) d_Search_isBarred_1 rfl rfl ?_
  refine j_getI (pc := 2) d_Search_isBarred_2 fl_Search_52 sx_26 (by decide) rfl ?_
  refine j_callS2 (pc := 5) d_Search_isBarred_5 (C_Minds_knowers n rows h_rows (M.1 26 9) M) cS_Search_97 cd_Minds_knowers dn_Minds_knowers rfl (by decide) (Nat.le_of_ble_eq_true rfl) (Nat.le_of_ble_eq_true rfl) nr_I (fun r1 M2 => ?_)
  refine j_aload_n (pc := 8) (q := 0) d_Search_isBarred_8 rfl rfl ?_
  refine j_getI (pc := 9) d_Search_isBarred_9 fl_Search_61 sx_26 (by decide) rfl ?_
  refine j_iand (pc := 12) d_Search_isBarred_12 ?_
  refine j_if_eq (pc := 13) (tgt := 20) d_Search_isBarred_13 (by decide) (fun _ => ?_) (fun _ => ?_)
  · refine j_iconst (pc := 20) d_Search_isBarred_20 k_i_0 ?_
    exact j_zreturn (pc := 21) d_Search_isBarred_21 rfl rfl
  · refine j_iconst (pc := 16) d_Search_isBarred_16 k_i_1 ?_
    refine j_goto (pc := 17) (tgt := 21) d_Search_isBarred_17 (by decide) ?_
    exact j_zreturn (pc := 21) d_Search_isBarred_21 rfl rfl
-- Search.amiss ([J)I
def mt_Search_amiss : Mt := ("ShakeHands$Search", b_Search_amiss, 2, some .int, 3, SHx)
theorem d_Search_amiss_0 : decode b_Search_amiss 0 = .ok (.aload_n 1, 1) := by decide +kernel
theorem d_Search_amiss_1 : decode b_Search_amiss 1 = .ok (.aload_n 0, 1) := by decide +kernel
theorem d_Search_amiss_2 : decode b_Search_amiss 2 = .ok (.getfield 52, 3) := by decide +kernel
theorem d_Search_amiss_5 : decode b_Search_amiss 5 = .ok (.invokestatic 97, 3) := by decide +kernel
theorem d_Search_amiss_8 : decode b_Search_amiss 8 = .ok (.aload_n 0, 1) := by decide +kernel
theorem d_Search_amiss_9 : decode b_Search_amiss 9 = .ok (.getfield 55, 3) := by decide +kernel
theorem d_Search_amiss_12 : decode b_Search_amiss 12 = .ok (.ixor, 1) := by decide +kernel
theorem d_Search_amiss_13 : decode b_Search_amiss 13 = .ok (.aload_n 0, 1) := by decide +kernel
theorem d_Search_amiss_14 : decode b_Search_amiss 14 = .ok (.getfield 55, 3) := by decide +kernel
theorem d_Search_amiss_17 : decode b_Search_amiss 17 = .ok (.aload_n 0, 1) := by decide +kernel
theorem d_Search_amiss_18 : decode b_Search_amiss 18 = .ok (.getfield 58, 3) := by decide +kernel
theorem d_Search_amiss_21 : decode b_Search_amiss 21 = .ok (.ior, 1) := by decide +kernel
theorem d_Search_amiss_22 : decode b_Search_amiss 22 = .ok (.iand, 1) := by decide +kernel
theorem d_Search_amiss_23 : decode b_Search_amiss 23 = .ok (.ireturn, 1) := by decide +kernel
def X_Search_amiss (n : Nat) (rows : Nat) (M : Mem) : Option (Int32 × Mem) :=
  bd (X_Minds_knowers n rows (M.1 26 9) M) fun r1 M2 =>
  some (((r1 ^^^ (M2.1 26 10)) &&& ((M2.1 26 10) ||| (M2.1 26 11))), M2)
set_option maxRecDepth 20000 in
set_option maxHeartbeats 4000000 in
theorem C_Search_amiss (n : Nat) (rows : Nat) (h_rows : SHx[rows]? = some (103, [6]))  (M : Mem) : Ct y_Search_amiss mt_Search_amiss wI [Value.ref 26, Value.ref rows] M (X_Search_amiss n rows M) := by
  refine ct_of (by decide +kernel) rfl (Nat.le_of_ble_eq_true rfl) ?_
  show J _ _ _ [(0, Value.ref 26), (1, Value.ref rows)] _ _ _
  unfold X_Search_amiss
  refine j_aload_n (pc := 0) (q := 1) d_Search_amiss_0 rfl rfl ?_
  refine j_aload_n (pc := 1) (q := 0) d_Search_amiss_1 rfl rfl ?_
  refine j_getI (pc := 2) d_Search_amiss_2 fl_Search_52 sx_26 (by decide) rfl ?_
  refine j_callS2 (pc := 5) d_Search_amiss_5 (C_Minds_knowers n rows h_rows (M.1 26 9) M) cS_Search_97 cd_Minds_knowers dn_Minds_knowers rfl (by decide) (Nat.le_of_ble_eq_true rfl) (Nat.le_of_ble_eq_true rfl) nr_I (fun r1 M2 => ?_)
  refine j_aload_n (pc := 8) (q := 0) d_Search_amiss_8 rfl rfl ?_
  refine j_getI (pc := 9) d_Search_amiss_9 fl_Search_55 sx_26 (by decide) rfl ?_
  refine j_ixor (pc := 12) d_Search_amiss_12 ?_
  refine j_aload_n (pc := 13) (q := 0) d_Search_amiss_13 rfl rfl ?_
  refine j_getI (pc := 14) d_Search_amiss_14 fl_Search_55 sx_26 (by decide) rfl ?_
  refine j_aload_n (pc := 17) (q := 0) d_Search_amiss_17 rfl rfl ?_
  refine j_getI (pc := 18) d_Search_amiss_18 fl_Search_58 sx_26 (by decide) rfl ?_
  refine j_ior (pc := 21) d_Search_amiss_21 ?_
  refine j_iand (pc := 22) d_Search_amiss_22 ?_
  exact j_ireturn (pc := 23) d_Search_amiss_23 rfl
-- Search.bitsOf (I)I
def mt_Search_bitsOf : Mt := ("ShakeHands$Search", b_Search_bitsOf, 1, some .int, 2, SHx)
theorem d_Search_bitsOf_0 : decode b_Search_bitsOf 0 = .ok (.iload_n 0, 1) := by decide +kernel
theorem d_Search_bitsOf_1 : decode b_Search_bitsOf 1 = .ok (.ifCond .lt 9, 3) := by decide +kernel
theorem d_Search_bitsOf_4 : decode b_Search_bitsOf 4 = .ok (.iload_n 0, 1) := by decide +kernel
theorem d_Search_bitsOf_5 : decode b_Search_bitsOf 5 = .ok (.bipush 15, 2) := by decide +kernel
theorem d_Search_bitsOf_7 : decode b_Search_bitsOf 7 = .ok (.if_icmp .lt 7, 3) := by decide +kernel
theorem d_Search_bitsOf_10 : decode b_Search_bitsOf 10 = .ok (.iconst 0, 1) := by decide +kernel
theorem d_Search_bitsOf_11 : decode b_Search_bitsOf 11 = .ok (.goto 18, 3) := by decide +kernel
theorem d_Search_bitsOf_14 : decode b_Search_bitsOf 14 = .ok (.iconst 1, 1) := by decide +kernel
theorem d_Search_bitsOf_15 : decode b_Search_bitsOf 15 = .ok (.getstatic 113, 3) := by decide +kernel
theorem d_Search_bitsOf_18 : decode b_Search_bitsOf 18 = .ok (.iload_n 0, 1) := by decide +kernel
theorem d_Search_bitsOf_19 : decode b_Search_bitsOf 19 = .ok (.iaload, 1) := by decide +kernel
theorem d_Search_bitsOf_20 : decode b_Search_bitsOf 20 = .ok (.ishl, 1) := by decide +kernel
theorem d_Search_bitsOf_21 : decode b_Search_bitsOf 21 = .ok (.iconst 1, 1) := by decide +kernel
theorem d_Search_bitsOf_22 : decode b_Search_bitsOf 22 = .ok (.getstatic 116, 3) := by decide +kernel
theorem d_Search_bitsOf_25 : decode b_Search_bitsOf 25 = .ok (.iload_n 0, 1) := by decide +kernel
theorem d_Search_bitsOf_26 : decode b_Search_bitsOf 26 = .ok (.iaload, 1) := by decide +kernel
theorem d_Search_bitsOf_27 : decode b_Search_bitsOf 27 = .ok (.ishl, 1) := by decide +kernel
theorem d_Search_bitsOf_28 : decode b_Search_bitsOf 28 = .ok (.ior, 1) := by decide +kernel
theorem d_Search_bitsOf_29 : decode b_Search_bitsOf 29 = .ok (.ireturn, 1) := by decide +kernel
def X_Search_bitsOf (n : Nat) (p0 : Int32) (M : Mem) : Option (Int32 × Mem) :=
  (if p0 < 0 then
    some (0, M)
    else
    (if p0 < 15 then
      gd p0 15 (
        gd p0 15 (
          some ((((1 : Int32) <<< ((lsr p0.toNatClampNeg) &&& 31)) ||| ((1 : Int32) <<< ((grt p0.toNatClampNeg) &&& 31))), M)))
      else
      some (0, M)))
set_option maxRecDepth 20000 in
set_option maxHeartbeats 4000000 in
theorem C_Search_bitsOf (n : Nat)   (p0 : Int32) (M : Mem) : Ct y_Search_bitsOf mt_Search_bitsOf wI [Value.int p0] M (X_Search_bitsOf n p0 M) := by
  refine ct_of (by decide +kernel) rfl (Nat.le_of_ble_eq_true rfl) ?_
  show J _ _ _ [(0, Value.int p0)] _ _ _
  unfold X_Search_bitsOf
  refine j_iload_n (pc := 0) (q := 0) d_Search_bitsOf_0 rfl rfl ?_
  refine j_if_lt (pc := 1) (tgt := 10) d_Search_bitsOf_1 (by decide) (fun _ => ?_) (fun _ => ?_)
  · refine j_iconst (pc := 10) d_Search_bitsOf_10 k_i_0 ?_
    refine j_goto (pc := 11) (tgt := 29) d_Search_bitsOf_11 (by decide) ?_
    exact j_ireturn (pc := 29) d_Search_bitsOf_29 rfl
  · refine j_iload_n (pc := 4) (q := 0) d_Search_bitsOf_4 rfl rfl ?_
    refine j_bipush (pc := 5) d_Search_bitsOf_5 k_b_15 ?_
    refine j_icmp_lt (pc := 7) (tgt := 14) d_Search_bitsOf_7 (by decide) (fun _ => ?_) (fun _ => ?_)
    · refine j_iconst (pc := 14) d_Search_bitsOf_14 k_i_1 ?_
      refine j_gets200 (pc := 15) d_Search_bitsOf_15 gs_Search_113 ?_
      refine j_iload_n (pc := 18) (q := 0) d_Search_bitsOf_18 rfl rfl ?_
      refine j_ialdS200 (pc := 19) d_Search_bitsOf_19 (fun _ => ?_)
      refine j_ishl (pc := 20) d_Search_bitsOf_20 ?_
      refine j_iconst (pc := 21) d_Search_bitsOf_21 k_i_1 ?_
      refine j_gets201 (pc := 22) d_Search_bitsOf_22 gs_Search_116 ?_
      refine j_iload_n (pc := 25) (q := 0) d_Search_bitsOf_25 rfl rfl ?_
      refine j_ialdS201 (pc := 26) d_Search_bitsOf_26 (fun _ => ?_)
      refine j_ishl (pc := 27) d_Search_bitsOf_27 ?_
      refine j_ior (pc := 28) d_Search_bitsOf_28 ?_
      exact j_ireturn (pc := 29) d_Search_bitsOf_29 rfl
    · refine j_iconst (pc := 10) d_Search_bitsOf_10 k_i_0 ?_
      refine j_goto (pc := 11) (tgt := 29) d_Search_bitsOf_11 (by decide) ?_
      exact j_ireturn (pc := 29) d_Search_bitsOf_29 rfl
-- Search.canMend (III)Z
def mt_Search_canMend : Mt := ("ShakeHands$Search", b_Search_canMend, 3, some .boolean, 3, SHx)
theorem d_Search_canMend_0 : decode b_Search_canMend 0 = .ok (.iload_n 0, 1) := by decide +kernel
theorem d_Search_canMend_1 : decode b_Search_canMend 1 = .ok (.iload_n 1, 1) := by decide +kernel
theorem d_Search_canMend_2 : decode b_Search_canMend 2 = .ok (.iconst (-1), 1) := by decide +kernel
theorem d_Search_canMend_3 : decode b_Search_canMend 3 = .ok (.ixor, 1) := by decide +kernel
theorem d_Search_canMend_4 : decode b_Search_canMend 4 = .ok (.iand, 1) := by decide +kernel
theorem d_Search_canMend_5 : decode b_Search_canMend 5 = .ok (.invokestatic 119, 3) := by decide +kernel
theorem d_Search_canMend_8 : decode b_Search_canMend 8 = .ok (.iconst 2, 1) := by decide +kernel
theorem d_Search_canMend_9 : decode b_Search_canMend 9 = .ok (.iload_n 2, 1) := by decide +kernel
theorem d_Search_canMend_10 : decode b_Search_canMend 10 = .ok (.imul, 1) := by decide +kernel
theorem d_Search_canMend_11 : decode b_Search_canMend 11 = .ok (.if_icmp .gt 7, 3) := by decide +kernel
theorem d_Search_canMend_14 : decode b_Search_canMend 14 = .ok (.iconst 1, 1) := by decide +kernel
theorem d_Search_canMend_15 : decode b_Search_canMend 15 = .ok (.goto 4, 3) := by decide +kernel
theorem d_Search_canMend_18 : decode b_Search_canMend 18 = .ok (.iconst 0, 1) := by decide +kernel
theorem d_Search_canMend_19 : decode b_Search_canMend 19 = .ok (.ireturn, 1) := by decide +kernel
def X_Search_canMend (n : Nat) (p0 : Int32) (p1 : Int32) (p2 : Int32) (M : Mem) : Option (Int32 × Mem) :=
  bd (X_Integer_bitCount n (p0 &&& (p1 ^^^ (-1))) M) fun r1 M2 =>
  (if ((2 : Int32) * p2) < r1 then
    some (0, M2)
    else
    some (1, M2))
set_option maxRecDepth 20000 in
set_option maxHeartbeats 4000000 in
theorem C_Search_canMend (n : Nat)   (p0 : Int32) (p1 : Int32) (p2 : Int32) (M : Mem) : Ct y_Search_canMend mt_Search_canMend wI [Value.int p0, Value.int p1, Value.int p2] M (X_Search_canMend n p0 p1 p2 M) := by
  refine ct_of (by decide +kernel) rfl (Nat.le_of_ble_eq_true rfl) ?_
  show J _ _ _ [(0, Value.int p0), (1, Value.int p1), (2, Value.int p2)] _ _ _
  unfold X_Search_canMend
  refine j_iload_n (pc := 0) (q := 0) d_Search_canMend_0 rfl rfl ?_
  refine j_iload_n (pc := 1) (q := 1) d_Search_canMend_1 rfl rfl ?_
  refine j_iconst (pc := 2) d_Search_canMend_2 k_i_m1 ?_
  refine j_ixor (pc := 3) d_Search_canMend_3 ?_
  refine j_iand (pc := 4) d_Search_canMend_4 ?_
  refine j_callS1 (pc := 5) d_Search_canMend_5 (C_Integer_bitCount n (p0 &&& (p1 ^^^ (-1))) M) cS_Search_119 cd_Integer_bitCount dn_Integer_bitCount rfl (by decide) (Nat.le_of_ble_eq_true rfl) (Nat.le_of_ble_eq_true rfl) nr_I (fun r1 M2 => ?_)
  refine j_iconst (pc := 8) d_Search_canMend_8 k_i_2 ?_
  refine j_iload_n (pc := 9) (q := 2) d_Search_canMend_9 rfl rfl ?_
  refine j_imul (pc := 10) d_Search_canMend_10 ?_
  refine j_icmp_gt (pc := 11) (tgt := 18) d_Search_canMend_11 (by decide) (fun _ => ?_) (fun _ => ?_)
  · refine j_iconst (pc := 18) d_Search_canMend_18 k_i_0 ?_
    exact j_zreturn (pc := 19) d_Search_canMend_19 rfl rfl
  · refine j_iconst (pc := 14) d_Search_canMend_14 k_i_1 ?_
    refine j_goto (pc := 15) (tgt := 19) d_Search_canMend_15 (by decide) ?_
    exact j_zreturn (pc := 19) d_Search_canMend_19 rfl rfl
-- Search.step (II)Z
def mt_Search_step : Mt := ("ShakeHands$Search", b_Search_step, 3, some .boolean, 6, SHx)
theorem d_Search_step_0 : decode b_Search_step 0 = .ok (.iload_n 1, 1) := by decide +kernel
theorem d_Search_step_1 : decode b_Search_step 1 = .ok (.ifCond .lt 9, 3) := by decide +kernel
theorem d_Search_step_4 : decode b_Search_step 4 = .ok (.iload_n 1, 1) := by decide +kernel
theorem d_Search_step_5 : decode b_Search_step 5 = .ok (.bipush 6, 2) := by decide +kernel
theorem d_Search_step_7 : decode b_Search_step 7 = .ok (.if_icmp .lt 5, 3) := by decide +kernel
theorem d_Search_step_10 : decode b_Search_step 10 = .ok (.iconst 0, 1) := by decide +kernel
theorem d_Search_step_11 : decode b_Search_step 11 = .ok (.ireturn, 1) := by decide +kernel
theorem d_Search_step_12 : decode b_Search_step 12 = .ok (.aload_n 0, 1) := by decide +kernel
theorem d_Search_step_13 : decode b_Search_step 13 = .ok (.getfield 20, 3) := by decide +kernel
theorem d_Search_step_16 : decode b_Search_step 16 = .ok (.iload_n 1, 1) := by decide +kernel
theorem d_Search_step_17 : decode b_Search_step 17 = .ok (.aaload, 1) := by decide +kernel
theorem d_Search_step_18 : decode b_Search_step 18 = .ok (.iconst 0, 1) := by decide +kernel
theorem d_Search_step_19 : decode b_Search_step 19 = .ok (.aload_n 0, 1) := by decide +kernel
theorem d_Search_step_20 : decode b_Search_step 20 = .ok (.getfield 20, 3) := by decide +kernel
theorem d_Search_step_23 : decode b_Search_step 23 = .ok (.iload_n 1, 1) := by decide +kernel
theorem d_Search_step_24 : decode b_Search_step 24 = .ok (.iconst 1, 1) := by decide +kernel
theorem d_Search_step_25 : decode b_Search_step 25 = .ok (.iadd, 1) := by decide +kernel
theorem d_Search_step_26 : decode b_Search_step 26 = .ok (.aaload, 1) := by decide +kernel
theorem d_Search_step_27 : decode b_Search_step 27 = .ok (.iconst 0, 1) := by decide +kernel
theorem d_Search_step_28 : decode b_Search_step 28 = .ok (.bipush 6, 2) := by decide +kernel
theorem d_Search_step_30 : decode b_Search_step 30 = .ok (.invokestatic 46, 3) := by decide +kernel
theorem d_Search_step_33 : decode b_Search_step 33 = .ok (.aload_n 0, 1) := by decide +kernel
theorem d_Search_step_34 : decode b_Search_step 34 = .ok (.getfield 23, 3) := by decide +kernel
theorem d_Search_step_37 : decode b_Search_step 37 = .ok (.aload_n 0, 1) := by decide +kernel
theorem d_Search_step_38 : decode b_Search_step 38 = .ok (.getfield 20, 3) := by decide +kernel
theorem d_Search_step_41 : decode b_Search_step 41 = .ok (.iload_n 1, 1) := by decide +kernel
theorem d_Search_step_42 : decode b_Search_step 42 = .ok (.iconst 1, 1) := by decide +kernel
theorem d_Search_step_43 : decode b_Search_step 43 = .ok (.iadd, 1) := by decide +kernel
theorem d_Search_step_44 : decode b_Search_step 44 = .ok (.aaload, 1) := by decide +kernel
theorem d_Search_step_45 : decode b_Search_step 45 = .ok (.aload_n 0, 1) := by decide +kernel
theorem d_Search_step_46 : decode b_Search_step 46 = .ok (.getfield 27, 3) := by decide +kernel
theorem d_Search_step_49 : decode b_Search_step 49 = .ok (.getfield 125, 3) := by decide +kernel
theorem d_Search_step_52 : decode b_Search_step 52 = .ok (.iload_n 2, 1) := by decide +kernel
theorem d_Search_step_53 : decode b_Search_step 53 = .ok (.invokevirtual 128, 3) := by decide +kernel
theorem d_Search_step_56 : decode b_Search_step 56 = .ok (.ireturn, 1) := by decide +kernel
def X_Search_step (n : Nat) (p1 : Int32) (p2 : Int32) (M : Mem) : Option (Int32 × Mem) :=
  (if p1 < 0 then
    some (0, M)
    else
    (if p1 < 6 then
      gd p1 7 (
        gd (p1 + 1) 7 (
          gc (0 : Int32) (0 : Int32) (6 : Int32) 6 6 (
            gd (p1 + 1) 7 (
              nm (cpL M (([30, 31, 32, 33, 34, 35, 36] : List Nat).getD p1.toNatClampNeg 0) ((0 : Int32).toNatClampNeg) (([30, 31, 32, 33, 34, 35, 36] : List Nat).getD (p1 + 1).toNatClampNeg 0) ((0 : Int32).toNatClampNeg) ((6 : Int32).toNatClampNeg)) fun N4 =>
              bd (X_Circle_meet n (([30, 31, 32, 33, 34, 35, 36] : List Nat).getD (p1 + 1).toNatClampNeg 0) (N4.1 16 1) p2 N4) fun r5 M6 =>
              zr r5 M6))))
      else
      some (0, M)))
set_option maxRecDepth 20000 in
set_option maxHeartbeats 4000000 in
theorem C_Search_step (n : Nat)   (p1 : Int32) (p2 : Int32) (M : Mem) : Ct y_Search_step mt_Search_step wI [Value.ref 26, Value.int p1, Value.int p2] M (X_Search_step n p1 p2 M) := by
  refine ct_of (by decide +kernel) rfl (Nat.le_of_ble_eq_true rfl) ?_
  show J _ _ _ [(0, Value.ref 26), (1, Value.int p1), (2, Value.int p2)] _ _ _
  unfold X_Search_step
  refine j_iload_n (pc := 0) (q := 1) d_Search_step_0 rfl rfl ?_
  refine j_if_lt (pc := 1) (tgt := 10) d_Search_step_1 (by decide) (fun _ => ?_) (fun _ => ?_)
  · refine j_iconst (pc := 10) d_Search_step_10 k_i_0 ?_
    exact j_zreturn (pc := 11) d_Search_step_11 rfl rfl
  · refine j_iload_n (pc := 4) (q := 1) d_Search_step_4 rfl rfl ?_
    refine j_bipush (pc := 5) d_Search_step_5 k_b_6 ?_
    refine j_icmp_lt (pc := 7) (tgt := 12) d_Search_step_7 (by decide) (fun _ => ?_) (fun _ => ?_)
    · refine j_aload_n (pc := 12) (q := 0) d_Search_step_12 rfl rfl ?_
      refine j_getA (pc := 13) d_Search_step_13 fl_Search_20 sx_26 (by decide) rfl ?_
      refine j_iload_n (pc := 16) (q := 1) d_Search_step_16 rfl rfl ?_
      refine j_aald2 (pc := 17) (ids := [30, 31, 32, 33, 34, 35, 36]) d_Search_step_17 sx_29 (fun h1 => ?_)
      refine j_iconst (pc := 18) d_Search_step_18 k_i_0 ?_
      refine j_aload_n (pc := 19) (q := 0) d_Search_step_19 rfl rfl ?_
      refine j_getA (pc := 20) d_Search_step_20 fl_Search_20 sx_26 (by decide) rfl ?_
      refine j_iload_n (pc := 23) (q := 1) d_Search_step_23 rfl rfl ?_
      refine j_iconst (pc := 24) d_Search_step_24 k_i_1 ?_
      refine j_iadd (pc := 25) d_Search_step_25 ?_
      refine j_aald2 (pc := 26) (ids := [30, 31, 32, 33, 34, 35, 36]) d_Search_step_26 sx_29 (fun h2 => ?_)
      refine j_iconst (pc := 27) d_Search_step_27 k_i_0 ?_
      refine j_bipush (pc := 28) d_Search_step_28 k_b_6 ?_
      refine j_copyL (pc := 30) d_Search_step_30 cw_Search_46 cw_nat cw_st (sh_level h1) (sh_level h2) (by decide) (Nat.le_of_ble_eq_true rfl) ?_
      refine j_aload_n (pc := 33) (q := 0) d_Search_step_33 rfl rfl ?_
      refine j_getA (pc := 34) d_Search_step_34 fl_Search_23 sx_26 (by decide) rfl ?_
      refine j_aload_n (pc := 37) (q := 0) d_Search_step_37 rfl rfl ?_
      refine j_getA (pc := 38) d_Search_step_38 fl_Search_20 sx_26 (by decide) rfl ?_
      refine j_iload_n (pc := 41) (q := 1) d_Search_step_41 rfl rfl ?_
      refine j_iconst (pc := 42) d_Search_step_42 k_i_1 ?_
      refine j_iadd (pc := 43) d_Search_step_43 ?_
      refine j_aald2 (pc := 44) (ids := [30, 31, 32, 33, 34, 35, 36]) d_Search_step_44 sx_29 (fun h3 => ?_)
      refine j_aload_n (pc := 45) (q := 0) d_Search_step_45 rfl rfl ?_
      refine j_getA (pc := 46) d_Search_step_46 fl_Search_27 sx_26 (by decide) rfl ?_
      refine j_nmM (fun N4 => ?_)
      refine j_getI (pc := 49) d_Search_step_49 fl_Search_125 sx_16 (by decide) rfl ?_
      refine j_iload_n (pc := 52) (q := 2) d_Search_step_52 rfl rfl ?_
      refine j_callV3 (pc := 53) d_Search_step_53 (C_Circle_meet n (([30, 31, 32, 33, 34, 35, 36] : List Nat).getD (p1 + 1).toNatClampNeg 0) (sh_level h3) (N4.1 16 1) p2 N4) cV_Search_128 cd_Circle_meet dn_Circle_meet rfl (by decide) (Nat.le_of_ble_eq_true rfl) (Nat.le_of_ble_eq_true rfl) nr_I sx_11 (by decide) rfl (fun r5 M6 => ?_)
      exact j_zr (pc := 56) d_Search_step_56 rfl
    · refine j_iconst (pc := 10) d_Search_step_10 k_i_0 ?_
      exact j_zreturn (pc := 11) d_Search_step_11 rfl rfl
-- Search.reaches (LShakeHands$Search;II)Z
def mt_Search_reaches (f : Nat) : Mt := ("ShakeHands$Search", b_Search_reaches, 5, some .boolean, 7 + f, SHx)
theorem d_Search_reaches_0 : decode b_Search_reaches 0 = .ok (.aload_n 0, 1) := by decide +kernel
theorem d_Search_reaches_1 : decode b_Search_reaches 1 = .ok (.aload_n 0, 1) := by decide +kernel
theorem d_Search_reaches_2 : decode b_Search_reaches 2 = .ok (.getfield 20, 3) := by decide +kernel
theorem d_Search_reaches_5 : decode b_Search_reaches 5 = .ok (.iload_n 1, 1) := by decide +kernel
theorem d_Search_reaches_6 : decode b_Search_reaches 6 = .ok (.aaload, 1) := by decide +kernel
theorem d_Search_reaches_7 : decode b_Search_reaches 7 = .ok (.invokevirtual 72, 3) := by decide +kernel
theorem d_Search_reaches_10 : decode b_Search_reaches 10 = .ok (.istore_n 3, 1) := by decide +kernel
theorem d_Search_reaches_11 : decode b_Search_reaches 11 = .ok (.iload_n 1, 1) := by decide +kernel
theorem d_Search_reaches_12 : decode b_Search_reaches 12 = .ok (.iload_n 2, 1) := by decide +kernel
theorem d_Search_reaches_13 : decode b_Search_reaches 13 = .ok (.if_icmp .lt 13, 3) := by decide +kernel
theorem d_Search_reaches_16 : decode b_Search_reaches 16 = .ok (.iload_n 3, 1) := by decide +kernel
theorem d_Search_reaches_17 : decode b_Search_reaches 17 = .ok (.ifCond .ne 7, 3) := by decide +kernel
theorem d_Search_reaches_20 : decode b_Search_reaches 20 = .ok (.iconst 1, 1) := by decide +kernel
theorem d_Search_reaches_21 : decode b_Search_reaches 21 = .ok (.goto 4, 3) := by decide +kernel
theorem d_Search_reaches_24 : decode b_Search_reaches 24 = .ok (.iconst 0, 1) := by decide +kernel
theorem d_Search_reaches_25 : decode b_Search_reaches 25 = .ok (.ireturn, 1) := by decide +kernel
theorem d_Search_reaches_26 : decode b_Search_reaches 26 = .ok (.iconst 0, 1) := by decide +kernel
theorem d_Search_reaches_27 : decode b_Search_reaches 27 = .ok (.istore 4, 2) := by decide +kernel
theorem d_Search_reaches_29 : decode b_Search_reaches 29 = .ok (.iload 4, 2) := by decide +kernel
theorem d_Search_reaches_31 : decode b_Search_reaches 31 = .ok (.aload_n 0, 1) := by decide +kernel
theorem d_Search_reaches_32 : decode b_Search_reaches 32 = .ok (.getfield 37, 3) := by decide +kernel
theorem d_Search_reaches_35 : decode b_Search_reaches 35 = .ok (.if_icmp .ge 72, 3) := by decide +kernel
theorem d_Search_reaches_38 : decode b_Search_reaches 38 = .ok (.iload_n 3, 1) := by decide +kernel
theorem d_Search_reaches_39 : decode b_Search_reaches 39 = .ok (.iload 4, 2) := by decide +kernel
theorem d_Search_reaches_41 : decode b_Search_reaches 41 = .ok (.invokestatic 132, 3) := by decide +kernel
theorem d_Search_reaches_44 : decode b_Search_reaches 44 = .ok (.iload_n 2, 1) := by decide +kernel
theorem d_Search_reaches_45 : decode b_Search_reaches 45 = .ok (.iload_n 1, 1) := by decide +kernel
theorem d_Search_reaches_46 : decode b_Search_reaches 46 = .ok (.isub, 1) := by decide +kernel
theorem d_Search_reaches_47 : decode b_Search_reaches 47 = .ok (.iconst 1, 1) := by decide +kernel
theorem d_Search_reaches_48 : decode b_Search_reaches 48 = .ok (.isub, 1) := by decide +kernel
theorem d_Search_reaches_49 : decode b_Search_reaches 49 = .ok (.invokestatic 135, 3) := by decide +kernel
theorem d_Search_reaches_52 : decode b_Search_reaches 52 = .ok (.ifCond .eq 49, 3) := by decide +kernel
theorem d_Search_reaches_55 : decode b_Search_reaches 55 = .ok (.aload_n 0, 1) := by decide +kernel
theorem d_Search_reaches_56 : decode b_Search_reaches 56 = .ok (.iload_n 1, 1) := by decide +kernel
theorem d_Search_reaches_57 : decode b_Search_reaches 57 = .ok (.iload 4, 2) := by decide +kernel
theorem d_Search_reaches_59 : decode b_Search_reaches 59 = .ok (.invokevirtual 139, 3) := by decide +kernel
theorem d_Search_reaches_62 : decode b_Search_reaches 62 = .ok (.ifCond .eq 39, 3) := by decide +kernel
theorem d_Search_reaches_65 : decode b_Search_reaches 65 = .ok (.aload_n 0, 1) := by decide +kernel
theorem d_Search_reaches_66 : decode b_Search_reaches 66 = .ok (.aload_n 0, 1) := by decide +kernel
theorem d_Search_reaches_67 : decode b_Search_reaches 67 = .ok (.getfield 20, 3) := by decide +kernel
theorem d_Search_reaches_70 : decode b_Search_reaches 70 = .ok (.iload_n 1, 1) := by decide +kernel
theorem d_Search_reaches_71 : decode b_Search_reaches 71 = .ok (.iconst 1, 1) := by decide +kernel
theorem d_Search_reaches_72 : decode b_Search_reaches 72 = .ok (.iadd, 1) := by decide +kernel
theorem d_Search_reaches_73 : decode b_Search_reaches 73 = .ok (.aaload, 1) := by decide +kernel
theorem d_Search_reaches_74 : decode b_Search_reaches 74 = .ok (.invokevirtual 64, 3) := by decide +kernel
theorem d_Search_reaches_77 : decode b_Search_reaches 77 = .ok (.ifCond .ne 24, 3) := by decide +kernel
theorem d_Search_reaches_80 : decode b_Search_reaches 80 = .ok (.aload_n 0, 1) := by decide +kernel
theorem d_Search_reaches_81 : decode b_Search_reaches 81 = .ok (.getfield 11, 3) := by decide +kernel
theorem d_Search_reaches_84 : decode b_Search_reaches 84 = .ok (.iload_n 1, 1) := by decide +kernel
theorem d_Search_reaches_85 : decode b_Search_reaches 85 = .ok (.iload 4, 2) := by decide +kernel
theorem d_Search_reaches_87 : decode b_Search_reaches 87 = .ok (.iastore, 1) := by decide +kernel
theorem d_Search_reaches_88 : decode b_Search_reaches 88 = .ok (.aload_n 0, 1) := by decide +kernel
theorem d_Search_reaches_89 : decode b_Search_reaches 89 = .ok (.iload_n 1, 1) := by decide +kernel
theorem d_Search_reaches_90 : decode b_Search_reaches 90 = .ok (.iconst 1, 1) := by decide +kernel
theorem d_Search_reaches_91 : decode b_Search_reaches 91 = .ok (.iadd, 1) := by decide +kernel
theorem d_Search_reaches_92 : decode b_Search_reaches 92 = .ok (.iload_n 2, 1) := by decide +kernel
theorem d_Search_reaches_93 : decode b_Search_reaches 93 = .ok (.invokestatic 68, 3) := by decide +kernel
theorem d_Search_reaches_96 : decode b_Search_reaches 96 = .ok (.ifCond .eq 5, 3) := by decide +kernel
theorem d_Search_reaches_99 : decode b_Search_reaches 99 = .ok (.iconst 1, 1) := by decide +kernel
theorem d_Search_reaches_100 : decode b_Search_reaches 100 = .ok (.ireturn, 1) := by decide +kernel
theorem d_Search_reaches_101 : decode b_Search_reaches 101 = .ok (.iinc 4 1, 3) := by decide +kernel
theorem d_Search_reaches_104 : decode b_Search_reaches 104 = .ok (.goto (-75), 3) := by decide +kernel
theorem d_Search_reaches_107 : decode b_Search_reaches 107 = .ok (.iconst 0, 1) := by decide +kernel
theorem d_Search_reaches_108 : decode b_Search_reaches 108 = .ok (.ireturn, 1) := by decide +kernel
def X_Search_reaches_L29 (n : Nat) (self : Int32 → Int32 → Mem → Option (Int32 × Mem)) (a1 : Int32) (a2 : Int32) (a3 : Int32) : Nat → Int32 → Mem → Option (Int32 × Mem)
    | 0, _, _ => none
    | m + 1, v4, M => (if (M.1 26 8) ≤ v4 then
    some (0, M)
    else
    bd (X_Search_bitsOf n v4 M) fun r4 M5 =>
    bd (X_Search_canMend n a3 r4 ((a2 - a1) - 1) M5) fun r6 M7 =>
    nm (fun (M8 : Mem) => (X_Search_reaches_L29 n self a1 a2 a3 m (v4 + 1) M8 : Option (Int32 × Mem))) fun k101 =>
    (if r6 = 0 then
      k101 M7
      else
      bd (X_Search_step n a1 v4 M7) fun r9 M10 =>
      (if r9 = 0 then
        k101 M10
        else
        gd (a1 + 1) 7 (
          bd (X_Search_isBarred n (([30, 31, 32, 33, 34, 35, 36] : List Nat).getD (a1 + 1).toNatClampNeg 0) M10) fun r12 M13 =>
          (if r12 = 0 then
            gd a1 6 (
              nm (si M13 27 (a1.toNatClampNeg) v4) fun N14 =>
              bd (self (a1 + 1) a2 N14) fun r15 M16 =>
              (if r15 = 0 then
                k101 M16
                else
                some (1, M16)))
            else
            k101 M13)))))
def X_Search_reaches (n : Nat) : Nat → Int32 → Int32 → Mem → Option (Int32 × Mem)
    | 0, _, _, _ => none
    | f + 1, p1, p2, M => gd p1 7 (
    bd (X_Search_amiss n (([30, 31, 32, 33, 34, 35, 36] : List Nat).getD p1.toNatClampNeg 0) M) fun r2 M3 =>
    (if p1 < p2 then
      X_Search_reaches_L29 n (X_Search_reaches n f) p1 p2 r2 n 0 M3
      else
      (if r2 = 0 then
        some (1, M3)
        else
        some (0, M3))))
set_option maxRecDepth 20000 in
set_option maxHeartbeats 4000000 in
theorem X_Search_reaches_L29_ok {n : Nat} {f : Nat} {self : Int32 → Int32 → Mem → Option (Int32 × Mem)} {a1 : Int32} {a2 : Int32} {a3 : Int32} (hself : ∀ (q0 : Int32) (q1 : Int32) (M : Mem), Ct y_Search_reaches (mt_Search_reaches f) wI [Value.ref 26, Value.int q0, Value.int q1] M (self q0 q1 M)) : ∀ (m : Nat) (v4 : Int32) (M : Mem), J (mt_Search_reaches (f + 1)) wI 29 [(0, Value.ref 26), (1, Value.int a1), (2, Value.int a2), (3, Value.int a3), (4, Value.int v4)] [] M (X_Search_reaches_L29 n self a1 a2 a3 m v4 M) := by
  intro m
  induction m with
  | zero => intro _ _; exact j_none
  | succ m ih =>
    intro v4 M
    show J _ _ _ _ _ _ ((if (M.1 26 8) ≤ v4 then
some (0, M)
else
bd (X_Search_bitsOf n v4 M) fun r4 M5 =>
bd (X_Search_canMend n a3 r4 ((a2 - a1) - 1) M5) fun r6 M7 =>
nm (fun (M8 : Mem) => (X_Search_reaches_L29 n self a1 a2 a3 m (v4 + 1) M8 : Option (Int32 × Mem))) fun k101 =>
(if r6 = 0 then
k101 M7
else
bd (X_Search_step n a1 v4 M7) fun r9 M10 =>
(if r9 = 0 then
k101 M10
else
gd (a1 + 1) 7 (
bd (X_Search_isBarred n (([30, 31, 32, 33, 34, 35, 36] : List Nat).getD (a1 + 1).toNatClampNeg 0) M10) fun r12 M13 =>
(if r12 = 0 then
gd a1 6 (
nm (si M13 27 (a1.toNatClampNeg) v4) fun N14 =>
bd (self (a1 + 1) a2 N14) fun r15 M16 =>
(if r15 = 0 then
k101 M16
else
some (1, M16)))
else
k101 M13))))))
    refine j_iload (pc := 29) (q := 4) d_Search_reaches_29 rfl ?_
    refine j_aload_n (pc := 31) (q := 0) d_Search_reaches_31 rfl rfl ?_
    refine j_getI (pc := 32) d_Search_reaches_32 fl_Search_37 sx_26 (by decide) rfl ?_
    refine j_icmp_ge (pc := 35) (tgt := 107) d_Search_reaches_35 (by decide) (fun _ => ?_) (fun _ => ?_)
    · refine j_iconst (pc := 107) d_Search_reaches_107 k_i_0 ?_
      exact j_zreturn (pc := 108) d_Search_reaches_108 rfl rfl
    · refine j_iload_n (pc := 38) (q := 3) d_Search_reaches_38 rfl rfl ?_
      refine j_iload (pc := 39) (q := 4) d_Search_reaches_39 rfl ?_
      refine j_callS1 (pc := 41) d_Search_reaches_41 (C_Search_bitsOf n v4 M) cS_Search_132 cd_Search_bitsOf dn_Search_bitsOf rfl (by show 2 + 1 ≤ 7 + (f + 1); omega) (Nat.le_of_ble_eq_true rfl) (Nat.le_of_ble_eq_true rfl) nr_I (fun r4 M5 => ?_)
      refine j_iload_n (pc := 44) (q := 2) d_Search_reaches_44 rfl rfl ?_
      refine j_iload_n (pc := 45) (q := 1) d_Search_reaches_45 rfl rfl ?_
      refine j_isub (pc := 46) d_Search_reaches_46 ?_
      refine j_iconst (pc := 47) d_Search_reaches_47 k_i_1 ?_
      refine j_isub (pc := 48) d_Search_reaches_48 ?_
      refine j_callS3 (pc := 49) d_Search_reaches_49 (C_Search_canMend n a3 r4 ((a2 - a1) - 1) M5) cS_Search_135 cd_Search_canMend dn_Search_canMend rfl (by show 3 + 1 ≤ 7 + (f + 1); omega) (Nat.le_of_ble_eq_true rfl) (Nat.le_of_ble_eq_true rfl) nr_I (fun r6 M7 => ?_)
      refine j_nmk (fun k => ∀ (M8 : Mem), J (mt_Search_reaches (f + 1)) wI 101 [(0, Value.ref 26), (1, Value.int a1), (2, Value.int a2), (3, Value.int a3), (4, Value.int v4)] [] M8 (k M8)) (fun M8 => ?_) (fun k101 hk101 => ?_)
      · refine j_iinc (pc := 101) (q := 4) d_Search_reaches_101 rfl (congrArg (v4 + ·) k_i_1) (by show 4 < 5; decide) rfl ?_
        refine j_goto (pc := 104) (tgt := 29) d_Search_reaches_104 (by decide) ?_
        refine j_lv [1, 2, 3, 4, 0] rfl ?_
        exact ih (v4 + 1) M8
      · refine j_if_eq (pc := 52) (tgt := 101) d_Search_reaches_52 (by decide) (fun _ => ?_) (fun _ => ?_)
        · exact hk101 M7
        · refine j_aload_n (pc := 55) (q := 0) d_Search_reaches_55 rfl rfl ?_
          refine j_iload_n (pc := 56) (q := 1) d_Search_reaches_56 rfl rfl ?_
          refine j_iload (pc := 57) (q := 4) d_Search_reaches_57 rfl ?_
          refine j_callV2 (pc := 59) d_Search_reaches_59 (C_Search_step n a1 v4 M7) cV_Search_139 cd_Search_step dn_Search_step rfl (by show 6 + 1 ≤ 7 + (f + 1); omega) (Nat.le_of_ble_eq_true rfl) (Nat.le_of_ble_eq_true rfl) nr_I sx_26 (by decide) rfl (fun r9 M10 => ?_)
          refine j_if_eq (pc := 62) (tgt := 101) d_Search_reaches_62 (by decide) (fun _ => ?_) (fun _ => ?_)
          · exact hk101 M10
          · refine j_aload_n (pc := 65) (q := 0) d_Search_reaches_65 rfl rfl ?_
            refine j_aload_n (pc := 66) (q := 0) d_Search_reaches_66 rfl rfl ?_
            refine j_getA (pc := 67) d_Search_reaches_67 fl_Search_20 sx_26 (by decide) rfl ?_
            refine j_iload_n (pc := 70) (q := 1) d_Search_reaches_70 rfl rfl ?_
            refine j_iconst (pc := 71) d_Search_reaches_71 k_i_1 ?_
            refine j_iadd (pc := 72) d_Search_reaches_72 ?_
            refine j_aald2 (pc := 73) (ids := [30, 31, 32, 33, 34, 35, 36]) d_Search_reaches_73 sx_29 (fun h11 => ?_)
            refine j_callV1 (pc := 74) d_Search_reaches_74 (C_Search_isBarred n (([30, 31, 32, 33, 34, 35, 36] : List Nat).getD (a1 + 1).toNatClampNeg 0) (sh_level h11) M10) cV_Search_64 cd_Search_isBarred dn_Search_isBarred rfl (by show 3 + 1 ≤ 7 + (f + 1); omega) (Nat.le_of_ble_eq_true rfl) (Nat.le_of_ble_eq_true rfl) nr_I sx_26 (by decide) rfl (fun r12 M13 => ?_)
            refine j_if_ne (pc := 77) (tgt := 101) d_Search_reaches_77 (by decide) (fun _ => ?_) (fun _ => ?_)
            · exact hk101 M13
            · refine j_aload_n (pc := 80) (q := 0) d_Search_reaches_80 rfl rfl ?_
              refine j_getA (pc := 81) d_Search_reaches_81 fl_Search_11 sx_26 (by decide) rfl ?_
              refine j_iload_n (pc := 84) (q := 1) d_Search_reaches_84 rfl rfl ?_
              refine j_iload (pc := 85) (q := 4) d_Search_reaches_85 rfl ?_
              refine j_iast (pc := 87) d_Search_reaches_87 sx_27 (fun _ => ?_)
              refine j_aload_n (pc := 88) (q := 0) d_Search_reaches_88 rfl rfl ?_
              refine j_iload_n (pc := 89) (q := 1) d_Search_reaches_89 rfl rfl ?_
              refine j_iconst (pc := 90) d_Search_reaches_90 k_i_1 ?_
              refine j_iadd (pc := 91) d_Search_reaches_91 ?_
              refine j_iload_n (pc := 92) (q := 2) d_Search_reaches_92 rfl rfl ?_
              refine j_nmM (fun N14 => ?_)
              refine j_callS3 (pc := 93) d_Search_reaches_93 (hself (a1 + 1) a2 N14) cS_Search_68 cd_Search_reaches dn_Search_reaches rfl (Nat.le_refl _) (Nat.le_of_ble_eq_true rfl) (Nat.le_of_ble_eq_true rfl) nr_I (fun r15 M16 => ?_)
              refine j_if_eq (pc := 96) (tgt := 101) d_Search_reaches_96 (by decide) (fun _ => ?_) (fun _ => ?_)
              · exact hk101 M16
              · refine j_iconst (pc := 99) d_Search_reaches_99 k_i_1 ?_
                exact j_zreturn (pc := 100) d_Search_reaches_100 rfl rfl
set_option maxRecDepth 20000 in
set_option maxHeartbeats 4000000 in
theorem C_Search_reaches (n : Nat) : ∀ (f : Nat) (p1 : Int32) (p2 : Int32) (M : Mem), Ct y_Search_reaches (mt_Search_reaches f) wI [Value.ref 26, Value.int p1, Value.int p2] M (X_Search_reaches n f p1 p2 M) := by
  intro f
  induction f with
  | zero => intro p1 p2 M r M2 hF; cases hF
  | succ f ihf =>
    intro p1 p2 M
    refine ct_of (by decide +kernel) rfl (Nat.le_of_ble_eq_true rfl) ?_
    show J _ _ _ [(0, Value.ref 26), (1, Value.int p1), (2, Value.int p2)] _ _ (gd p1 7 (
bd (X_Search_amiss n (([30, 31, 32, 33, 34, 35, 36] : List Nat).getD p1.toNatClampNeg 0) M) fun r2 M3 =>
(if p1 < p2 then
X_Search_reaches_L29 n (X_Search_reaches n f) p1 p2 r2 n 0 M3
else
(if r2 = 0 then
some (1, M3)
else
some (0, M3)))))
    refine j_aload_n (pc := 0) (q := 0) d_Search_reaches_0 rfl rfl ?_
    refine j_aload_n (pc := 1) (q := 0) d_Search_reaches_1 rfl rfl ?_
    refine j_getA (pc := 2) d_Search_reaches_2 fl_Search_20 sx_26 (by decide) rfl ?_
    refine j_iload_n (pc := 5) (q := 1) d_Search_reaches_5 rfl rfl ?_
    refine j_aald2 (pc := 6) (ids := [30, 31, 32, 33, 34, 35, 36]) d_Search_reaches_6 sx_29 (fun h1 => ?_)
    refine j_callV1 (pc := 7) d_Search_reaches_7 (C_Search_amiss n (([30, 31, 32, 33, 34, 35, 36] : List Nat).getD p1.toNatClampNeg 0) (sh_level h1) M) cV_Search_72 cd_Search_amiss dn_Search_amiss rfl (by show 3 + 1 ≤ 7 + (f + 1); omega) (Nat.le_of_ble_eq_true rfl) (Nat.le_of_ble_eq_true rfl) nr_I sx_26 (by decide) rfl (fun r2 M3 => ?_)
    refine j_istore_n (pc := 10) d_Search_reaches_10 rfl (by show 3 < 5; decide) rfl ?_
    refine j_iload_n (pc := 11) (q := 2) d_Search_reaches_11 rfl rfl ?_
    refine j_iload_n (pc := 12) (q := 3) d_Search_reaches_12 rfl rfl ?_
    refine j_icmp_lt (pc := 13) (tgt := 26) d_Search_reaches_13 (by decide) (fun _ => ?_) (fun _ => ?_)
    · refine j_iconst (pc := 26) d_Search_reaches_26 k_i_0 ?_
      refine j_istore (pc := 27) d_Search_reaches_27 (by show 4 < 5; decide) rfl ?_
      refine j_lv [2, 3, 4, 1, 0] rfl ?_
      exact X_Search_reaches_L29_ok ihf  n 0 M3
    · refine j_iload_n (pc := 16) (q := 0) d_Search_reaches_16 rfl rfl ?_
      refine j_if_ne (pc := 17) (tgt := 24) d_Search_reaches_17 (by decide) (fun _ => ?_) (fun _ => ?_)
      · refine j_iconst (pc := 24) d_Search_reaches_24 k_i_0 ?_
        exact j_zreturn (pc := 25) d_Search_reaches_25 rfl rfl
      · refine j_iconst (pc := 20) d_Search_reaches_20 k_i_1 ?_
        refine j_goto (pc := 21) (tgt := 25) d_Search_reaches_21 (by decide) ?_
        exact j_zreturn (pc := 25) d_Search_reaches_25 rfl rfl
-- Search.fewestHands ()I
def mt_Search_fewestHands : Mt := ("ShakeHands$Search", b_Search_fewestHands, 2, some .int, 20, SHx)
theorem d_Search_fewestHands_0 : decode b_Search_fewestHands 0 = .ok (.aload_n 0, 1) := by decide +kernel
theorem d_Search_fewestHands_1 : decode b_Search_fewestHands 1 = .ok (.aload_n 0, 1) := by decide +kernel
theorem d_Search_fewestHands_2 : decode b_Search_fewestHands 2 = .ok (.getfield 20, 3) := by decide +kernel
theorem d_Search_fewestHands_5 : decode b_Search_fewestHands 5 = .ok (.iconst 0, 1) := by decide +kernel
theorem d_Search_fewestHands_6 : decode b_Search_fewestHands 6 = .ok (.aaload, 1) := by decide +kernel
theorem d_Search_fewestHands_7 : decode b_Search_fewestHands 7 = .ok (.invokevirtual 64, 3) := by decide +kernel
theorem d_Search_fewestHands_10 : decode b_Search_fewestHands 10 = .ok (.ifCond .eq 6, 3) := by decide +kernel
theorem d_Search_fewestHands_13 : decode b_Search_fewestHands 13 = .ok (.bipush (-4), 2) := by decide +kernel
theorem d_Search_fewestHands_15 : decode b_Search_fewestHands 15 = .ok (.ireturn, 1) := by decide +kernel
theorem d_Search_fewestHands_16 : decode b_Search_fewestHands 16 = .ok (.iconst 0, 1) := by decide +kernel
theorem d_Search_fewestHands_17 : decode b_Search_fewestHands 17 = .ok (.istore_n 1, 1) := by decide +kernel
theorem d_Search_fewestHands_18 : decode b_Search_fewestHands 18 = .ok (.iload_n 1, 1) := by decide +kernel
theorem d_Search_fewestHands_19 : decode b_Search_fewestHands 19 = .ok (.iconst 4, 1) := by decide +kernel
theorem d_Search_fewestHands_20 : decode b_Search_fewestHands 20 = .ok (.if_icmp .gt 20, 3) := by decide +kernel
theorem d_Search_fewestHands_23 : decode b_Search_fewestHands 23 = .ok (.aload_n 0, 1) := by decide +kernel
theorem d_Search_fewestHands_24 : decode b_Search_fewestHands 24 = .ok (.iconst 0, 1) := by decide +kernel
theorem d_Search_fewestHands_25 : decode b_Search_fewestHands 25 = .ok (.iload_n 1, 1) := by decide +kernel
theorem d_Search_fewestHands_26 : decode b_Search_fewestHands 26 = .ok (.invokestatic 68, 3) := by decide +kernel
theorem d_Search_fewestHands_29 : decode b_Search_fewestHands 29 = .ok (.ifCond .eq 5, 3) := by decide +kernel
theorem d_Search_fewestHands_32 : decode b_Search_fewestHands 32 = .ok (.iload_n 1, 1) := by decide +kernel
theorem d_Search_fewestHands_33 : decode b_Search_fewestHands 33 = .ok (.ireturn, 1) := by decide +kernel
theorem d_Search_fewestHands_34 : decode b_Search_fewestHands 34 = .ok (.iinc 1 1, 3) := by decide +kernel
theorem d_Search_fewestHands_37 : decode b_Search_fewestHands 37 = .ok (.goto (-19), 3) := by decide +kernel
theorem d_Search_fewestHands_40 : decode b_Search_fewestHands 40 = .ok (.bipush (-4), 2) := by decide +kernel
theorem d_Search_fewestHands_42 : decode b_Search_fewestHands 42 = .ok (.ireturn, 1) := by decide +kernel
def X_Search_fewestHands_L18 (n : Nat) : Nat → Int32 → Mem → Option (Int32 × Mem)
    | 0, _, _ => none
    | m + 1, v1, M => (if 4 < v1 then
    some ((-4), M)
    else
    bd (X_Search_reaches n 12 0 v1 M) fun r4 M5 =>
    (if r4 = 0 then
      X_Search_fewestHands_L18 n m (v1 + 1) M5
      else
      some (v1, M5)))
def X_Search_fewestHands (n : Nat) (M : Mem) : Option (Int32 × Mem) :=
  gd (0 : Int32) 7 (
    bd (X_Search_isBarred n (([30, 31, 32, 33, 34, 35, 36] : List Nat).getD (0 : Int32).toNatClampNeg 0) M) fun r2 M3 =>
    (if r2 = 0 then
      X_Search_fewestHands_L18 n n 0 M3
      else
      some ((-4), M3)))
set_option maxRecDepth 20000 in
set_option maxHeartbeats 4000000 in
theorem X_Search_fewestHands_L18_ok {n : Nat} : ∀ (m : Nat) (v1 : Int32) (M : Mem), J (mt_Search_fewestHands) wI 18 [(0, Value.ref 26), (1, Value.int v1)] [] M (X_Search_fewestHands_L18 n m v1 M) := by
  intro m
  induction m with
  | zero => intro _ _; exact j_none
  | succ m ih =>
    intro v1 M
    show J _ _ _ _ _ _ ((if 4 < v1 then
some ((-4), M)
else
bd (X_Search_reaches n 12 0 v1 M) fun r4 M5 =>
(if r4 = 0 then
X_Search_fewestHands_L18 n m (v1 + 1) M5
else
some (v1, M5))))
    refine j_iload_n (pc := 18) (q := 1) d_Search_fewestHands_18 rfl rfl ?_
    refine j_iconst (pc := 19) d_Search_fewestHands_19 k_i_4 ?_
    refine j_icmp_gt (pc := 20) (tgt := 40) d_Search_fewestHands_20 (by decide) (fun _ => ?_) (fun _ => ?_)
    · refine j_bipush (pc := 40) d_Search_fewestHands_40 k_b_m4 ?_
      exact j_ireturn (pc := 42) d_Search_fewestHands_42 rfl
    · refine j_aload_n (pc := 23) (q := 0) d_Search_fewestHands_23 rfl rfl ?_
      refine j_iconst (pc := 24) d_Search_fewestHands_24 k_i_0 ?_
      refine j_iload_n (pc := 25) (q := 1) d_Search_fewestHands_25 rfl rfl ?_
      refine j_callS3 (pc := 26) d_Search_fewestHands_26 (C_Search_reaches n 12 0 v1 M) cS_Search_68 cd_Search_reaches dn_Search_reaches rfl (by decide) (Nat.le_of_ble_eq_true rfl) (Nat.le_of_ble_eq_true rfl) nr_I (fun r4 M5 => ?_)
      refine j_if_eq (pc := 29) (tgt := 34) d_Search_fewestHands_29 (by decide) (fun _ => ?_) (fun _ => ?_)
      · refine j_iinc (pc := 34) (q := 1) d_Search_fewestHands_34 rfl (congrArg (v1 + ·) k_i_1) (by decide) rfl ?_
        refine j_goto (pc := 37) (tgt := 18) d_Search_fewestHands_37 (by decide) ?_
        refine j_lv [1, 0] rfl ?_
        exact ih (v1 + 1) M5
      · refine j_iload_n (pc := 32) (q := 1) d_Search_fewestHands_32 rfl rfl ?_
        exact j_ireturn (pc := 33) d_Search_fewestHands_33 rfl
set_option maxRecDepth 20000 in
set_option maxHeartbeats 4000000 in
theorem C_Search_fewestHands (n : Nat)    (M : Mem) : Ct y_Search_fewestHands mt_Search_fewestHands wI [Value.ref 26] M (X_Search_fewestHands n M) := by
  refine ct_of (by decide +kernel) rfl (Nat.le_of_ble_eq_true rfl) ?_
  show J _ _ _ [(0, Value.ref 26)] _ _ _
  unfold X_Search_fewestHands
  refine j_aload_n (pc := 0) (q := 0) d_Search_fewestHands_0 rfl rfl ?_
  refine j_aload_n (pc := 1) (q := 0) d_Search_fewestHands_1 rfl rfl ?_
  refine j_getA (pc := 2) d_Search_fewestHands_2 fl_Search_20 sx_26 (by decide) rfl ?_
  refine j_iconst (pc := 5) d_Search_fewestHands_5 k_i_0 ?_
  refine j_aald2 (pc := 6) (ids := [30, 31, 32, 33, 34, 35, 36]) d_Search_fewestHands_6 sx_29 (fun h1 => ?_)
  refine j_callV1 (pc := 7) d_Search_fewestHands_7 (C_Search_isBarred n (([30, 31, 32, 33, 34, 35, 36] : List Nat).getD (0 : Int32).toNatClampNeg 0) (sh_level h1) M) cV_Search_64 cd_Search_isBarred dn_Search_isBarred rfl (by decide) (Nat.le_of_ble_eq_true rfl) (Nat.le_of_ble_eq_true rfl) nr_I sx_26 (by decide) rfl (fun r2 M3 => ?_)
  refine j_if_eq (pc := 10) (tgt := 16) d_Search_fewestHands_10 (by decide) (fun _ => ?_) (fun _ => ?_)
  · refine j_iconst (pc := 16) d_Search_fewestHands_16 k_i_0 ?_
    refine j_istore_n (pc := 17) d_Search_fewestHands_17 rfl (by decide) rfl ?_
    refine j_lv [1, 0] rfl ?_
    exact X_Search_fewestHands_L18_ok   n 0 M3
  · refine j_bipush (pc := 13) d_Search_fewestHands_13 k_b_m4 ?_
    exact j_ireturn (pc := 15) d_Search_fewestHands_15 rfl
-- Search.turns (LShakeHands$Search;IIII)Z
def mt_Search_turns (f : Nat) : Mt := ("ShakeHands$Search", b_Search_turns, 7, some .boolean, 7 + f, SHx)
theorem d_Search_turns_0 : decode b_Search_turns 0 = .ok (.iload 4, 2) := by decide +kernel
theorem d_Search_turns_2 : decode b_Search_turns 2 = .ok (.ifCond .ne 22, 3) := by decide +kernel
theorem d_Search_turns_5 : decode b_Search_turns 5 = .ok (.aload_n 0, 1) := by decide +kernel
theorem d_Search_turns_6 : decode b_Search_turns 6 = .ok (.aload_n 0, 1) := by decide +kernel
theorem d_Search_turns_7 : decode b_Search_turns 7 = .ok (.getfield 20, 3) := by decide +kernel
theorem d_Search_turns_10 : decode b_Search_turns 10 = .ok (.iload_n 1, 1) := by decide +kernel
theorem d_Search_turns_11 : decode b_Search_turns 11 = .ok (.aaload, 1) := by decide +kernel
theorem d_Search_turns_12 : decode b_Search_turns 12 = .ok (.invokevirtual 72, 3) := by decide +kernel
theorem d_Search_turns_15 : decode b_Search_turns 15 = .ok (.ifCond .ne 7, 3) := by decide +kernel
theorem d_Search_turns_18 : decode b_Search_turns 18 = .ok (.iconst 1, 1) := by decide +kernel
theorem d_Search_turns_19 : decode b_Search_turns 19 = .ok (.goto 4, 3) := by decide +kernel
theorem d_Search_turns_22 : decode b_Search_turns 22 = .ok (.iconst 0, 1) := by decide +kernel
theorem d_Search_turns_23 : decode b_Search_turns 23 = .ok (.ireturn, 1) := by decide +kernel
theorem d_Search_turns_24 : decode b_Search_turns 24 = .ok (.aload_n 0, 1) := by decide +kernel
theorem d_Search_turns_25 : decode b_Search_turns 25 = .ok (.aload_n 0, 1) := by decide +kernel
theorem d_Search_turns_26 : decode b_Search_turns 26 = .ok (.getfield 20, 3) := by decide +kernel
theorem d_Search_turns_29 : decode b_Search_turns 29 = .ok (.iload_n 1, 1) := by decide +kernel
theorem d_Search_turns_30 : decode b_Search_turns 30 = .ok (.aaload, 1) := by decide +kernel
theorem d_Search_turns_31 : decode b_Search_turns 31 = .ok (.invokevirtual 64, 3) := by decide +kernel
theorem d_Search_turns_34 : decode b_Search_turns 34 = .ok (.ifCond .ne 19, 3) := by decide +kernel
theorem d_Search_turns_37 : decode b_Search_turns 37 = .ok (.aload_n 0, 1) := by decide +kernel
theorem d_Search_turns_38 : decode b_Search_turns 38 = .ok (.iload_n 1, 1) := by decide +kernel
theorem d_Search_turns_39 : decode b_Search_turns 39 = .ok (.iconst 0, 1) := by decide +kernel
theorem d_Search_turns_40 : decode b_Search_turns 40 = .ok (.iconst 0, 1) := by decide +kernel
theorem d_Search_turns_41 : decode b_Search_turns 41 = .ok (.iload 4, 2) := by decide +kernel
theorem d_Search_turns_43 : decode b_Search_turns 43 = .ok (.iconst 1, 1) := by decide +kernel
theorem d_Search_turns_44 : decode b_Search_turns 44 = .ok (.isub, 1) := by decide +kernel
theorem d_Search_turns_45 : decode b_Search_turns 45 = .ok (.invokestatic 76, 3) := by decide +kernel
theorem d_Search_turns_48 : decode b_Search_turns 48 = .ok (.ifCond .eq 5, 3) := by decide +kernel
theorem d_Search_turns_51 : decode b_Search_turns 51 = .ok (.iconst 1, 1) := by decide +kernel
theorem d_Search_turns_52 : decode b_Search_turns 52 = .ok (.ireturn, 1) := by decide +kernel
theorem d_Search_turns_53 : decode b_Search_turns 53 = .ok (.iload_n 3, 1) := by decide +kernel
theorem d_Search_turns_54 : decode b_Search_turns 54 = .ok (.istore 5, 2) := by decide +kernel
theorem d_Search_turns_56 : decode b_Search_turns 56 = .ok (.iload 5, 2) := by decide +kernel
theorem d_Search_turns_58 : decode b_Search_turns 58 = .ok (.aload_n 0, 1) := by decide +kernel
theorem d_Search_turns_59 : decode b_Search_turns 59 = .ok (.getfield 37, 3) := by decide +kernel
theorem d_Search_turns_62 : decode b_Search_turns 62 = .ok (.if_icmp .ge 67, 3) := by decide +kernel
theorem d_Search_turns_65 : decode b_Search_turns 65 = .ok (.iload_n 1, 1) := by decide +kernel
theorem d_Search_turns_66 : decode b_Search_turns 66 = .ok (.bipush 6, 2) := by decide +kernel
theorem d_Search_turns_68 : decode b_Search_turns 68 = .ok (.if_icmp .ge 61, 3) := by decide +kernel
theorem d_Search_turns_71 : decode b_Search_turns 71 = .ok (.iload 5, 2) := by decide +kernel
theorem d_Search_turns_73 : decode b_Search_turns 73 = .ok (.invokestatic 132, 3) := by decide +kernel
theorem d_Search_turns_76 : decode b_Search_turns 76 = .ok (.istore 6, 2) := by decide +kernel
theorem d_Search_turns_78 : decode b_Search_turns 78 = .ok (.iload_n 2, 1) := by decide +kernel
theorem d_Search_turns_79 : decode b_Search_turns 79 = .ok (.aload_n 0, 1) := by decide +kernel
theorem d_Search_turns_80 : decode b_Search_turns 80 = .ok (.getfield 27, 3) := by decide +kernel
theorem d_Search_turns_83 : decode b_Search_turns 83 = .ok (.getfield 125, 3) := by decide +kernel
theorem d_Search_turns_86 : decode b_Search_turns 86 = .ok (.ior, 1) := by decide +kernel
theorem d_Search_turns_87 : decode b_Search_turns 87 = .ok (.iload 6, 2) := by decide +kernel
theorem d_Search_turns_89 : decode b_Search_turns 89 = .ok (.iand, 1) := by decide +kernel
theorem d_Search_turns_90 : decode b_Search_turns 90 = .ok (.ifCond .ne 33, 3) := by decide +kernel
theorem d_Search_turns_93 : decode b_Search_turns 93 = .ok (.aload_n 0, 1) := by decide +kernel
theorem d_Search_turns_94 : decode b_Search_turns 94 = .ok (.iload_n 1, 1) := by decide +kernel
theorem d_Search_turns_95 : decode b_Search_turns 95 = .ok (.iload 5, 2) := by decide +kernel
theorem d_Search_turns_97 : decode b_Search_turns 97 = .ok (.invokevirtual 139, 3) := by decide +kernel
theorem d_Search_turns_100 : decode b_Search_turns 100 = .ok (.pop, 1) := by decide +kernel
theorem d_Search_turns_101 : decode b_Search_turns 101 = .ok (.aload_n 0, 1) := by decide +kernel
theorem d_Search_turns_102 : decode b_Search_turns 102 = .ok (.iload_n 1, 1) := by decide +kernel
theorem d_Search_turns_103 : decode b_Search_turns 103 = .ok (.iconst 1, 1) := by decide +kernel
theorem d_Search_turns_104 : decode b_Search_turns 104 = .ok (.iadd, 1) := by decide +kernel
theorem d_Search_turns_105 : decode b_Search_turns 105 = .ok (.iload_n 2, 1) := by decide +kernel
theorem d_Search_turns_106 : decode b_Search_turns 106 = .ok (.iload 6, 2) := by decide +kernel
theorem d_Search_turns_108 : decode b_Search_turns 108 = .ok (.ior, 1) := by decide +kernel
theorem d_Search_turns_109 : decode b_Search_turns 109 = .ok (.iload 5, 2) := by decide +kernel
theorem d_Search_turns_111 : decode b_Search_turns 111 = .ok (.iconst 1, 1) := by decide +kernel
theorem d_Search_turns_112 : decode b_Search_turns 112 = .ok (.iadd, 1) := by decide +kernel
theorem d_Search_turns_113 : decode b_Search_turns 113 = .ok (.iload 4, 2) := by decide +kernel
theorem d_Search_turns_115 : decode b_Search_turns 115 = .ok (.invokestatic 76, 3) := by decide +kernel
theorem d_Search_turns_118 : decode b_Search_turns 118 = .ok (.ifCond .eq 5, 3) := by decide +kernel
theorem d_Search_turns_121 : decode b_Search_turns 121 = .ok (.iconst 1, 1) := by decide +kernel
theorem d_Search_turns_122 : decode b_Search_turns 122 = .ok (.ireturn, 1) := by decide +kernel
theorem d_Search_turns_123 : decode b_Search_turns 123 = .ok (.iinc 5 1, 3) := by decide +kernel
theorem d_Search_turns_126 : decode b_Search_turns 126 = .ok (.goto (-70), 3) := by decide +kernel
theorem d_Search_turns_129 : decode b_Search_turns 129 = .ok (.iconst 0, 1) := by decide +kernel
theorem d_Search_turns_130 : decode b_Search_turns 130 = .ok (.ireturn, 1) := by decide +kernel
def X_Search_turns_L56 (n : Nat) (self : Int32 → Int32 → Int32 → Int32 → Mem → Option (Int32 × Mem)) (a1 : Int32) (a2 : Int32) (a4 : Int32) : Nat → Int32 → Mem → Option (Int32 × Mem)
    | 0, _, _ => none
    | m + 1, v5, M => (if (M.1 26 8) ≤ v5 then
    some (0, M)
    else
    (if 6 ≤ a1 then
      some (0, M)
      else
      bd (X_Search_bitsOf n v5 M) fun r5 M6 =>
      nm (fun (M7 : Mem) => (X_Search_turns_L56 n self a1 a2 a4 m (v5 + 1) M7 : Option (Int32 × Mem))) fun k123 =>
      (if ((a2 ||| (M6.1 16 1)) &&& r5) = 0 then
        bd (X_Search_step n a1 v5 M6) fun r8 M9 =>
        bd (self (a1 + 1) (a2 ||| r5) (v5 + 1) a4 M9) fun r10 M11 =>
        (if r10 = 0 then
          k123 M11
          else
          some (1, M11))
        else
        k123 M6)))
def X_Search_turns (n : Nat) : Nat → Int32 → Int32 → Int32 → Int32 → Mem → Option (Int32 × Mem)
    | 0, _, _, _, _, _ => none
    | f + 1, p1, p2, p3, p4, M => (if p4 = 0 then
    gd p1 7 (
      bd (X_Search_amiss n (([30, 31, 32, 33, 34, 35, 36] : List Nat).getD p1.toNatClampNeg 0) M) fun r15 M16 =>
      (if r15 = 0 then
        some (1, M16)
        else
        some (0, M16)))
    else
    gd p1 7 (
      bd (X_Search_isBarred n (([30, 31, 32, 33, 34, 35, 36] : List Nat).getD p1.toNatClampNeg 0) M) fun r2 M3 =>
      nm (fun (M4 : Mem) => (X_Search_turns_L56 n (X_Search_turns n f) p1 p2 p4 n p3 M4 : Option (Int32 × Mem))) fun k53 =>
      (if r2 = 0 then
        bd ((X_Search_turns n f) p1 0 0 (p4 - 1) M3) fun r12 M13 =>
        (if r12 = 0 then
          k53 M13
          else
          some (1, M13))
        else
        k53 M3)))
set_option maxRecDepth 20000 in
set_option maxHeartbeats 4000000 in
theorem X_Search_turns_L56_ok {n : Nat} {f : Nat} {self : Int32 → Int32 → Int32 → Int32 → Mem → Option (Int32 × Mem)} {a1 : Int32} {a2 : Int32} {a4 : Int32} (hself : ∀ (q0 : Int32) (q1 : Int32) (q2 : Int32) (q3 : Int32) (M : Mem), Ct y_Search_turns (mt_Search_turns f) wI [Value.ref 26, Value.int q0, Value.int q1, Value.int q2, Value.int q3] M (self q0 q1 q2 q3 M)) : ∀ (m : Nat) (v5 : Int32) (M : Mem), J (mt_Search_turns (f + 1)) wI 56 [(0, Value.ref 26), (1, Value.int a1), (2, Value.int a2), (4, Value.int a4), (5, Value.int v5)] [] M (X_Search_turns_L56 n self a1 a2 a4 m v5 M) := by
  intro m
  induction m with
  | zero => intro _ _; exact j_none
  | succ m ih =>
    intro v5 M
    show J _ _ _ _ _ _ ((if (M.1 26 8) ≤ v5 then
some (0, M)
else
(if 6 ≤ a1 then
some (0, M)
else
bd (X_Search_bitsOf n v5 M) fun r5 M6 =>
nm (fun (M7 : Mem) => (X_Search_turns_L56 n self a1 a2 a4 m (v5 + 1) M7 : Option (Int32 × Mem))) fun k123 =>
(if ((a2 ||| (M6.1 16 1)) &&& r5) = 0 then
bd (X_Search_step n a1 v5 M6) fun r8 M9 =>
bd (self (a1 + 1) (a2 ||| r5) (v5 + 1) a4 M9) fun r10 M11 =>
(if r10 = 0 then
k123 M11
else
some (1, M11))
else
k123 M6))))
    refine j_iload (pc := 56) (q := 4) d_Search_turns_56 rfl ?_
    refine j_aload_n (pc := 58) (q := 0) d_Search_turns_58 rfl rfl ?_
    refine j_getI (pc := 59) d_Search_turns_59 fl_Search_37 sx_26 (by decide) rfl ?_
    refine j_icmp_ge (pc := 62) (tgt := 129) d_Search_turns_62 (by decide) (fun _ => ?_) (fun _ => ?_)
    · refine j_iconst (pc := 129) d_Search_turns_129 k_i_0 ?_
      exact j_zreturn (pc := 130) d_Search_turns_130 rfl rfl
    · refine j_iload_n (pc := 65) (q := 1) d_Search_turns_65 rfl rfl ?_
      refine j_bipush (pc := 66) d_Search_turns_66 k_b_6 ?_
      refine j_icmp_ge (pc := 68) (tgt := 129) d_Search_turns_68 (by decide) (fun _ => ?_) (fun _ => ?_)
      · refine j_iconst (pc := 129) d_Search_turns_129 k_i_0 ?_
        exact j_zreturn (pc := 130) d_Search_turns_130 rfl rfl
      · refine j_iload (pc := 71) (q := 4) d_Search_turns_71 rfl ?_
        refine j_callS1 (pc := 73) d_Search_turns_73 (C_Search_bitsOf n v5 M) cS_Search_132 cd_Search_bitsOf dn_Search_bitsOf rfl (by show 2 + 1 ≤ 7 + (f + 1); omega) (Nat.le_of_ble_eq_true rfl) (Nat.le_of_ble_eq_true rfl) nr_I (fun r5 M6 => ?_)
        refine j_istore (pc := 76) d_Search_turns_76 (by show 6 < 7; decide) rfl ?_
        refine j_iload_n (pc := 78) (q := 3) d_Search_turns_78 rfl rfl ?_
        refine j_aload_n (pc := 79) (q := 1) d_Search_turns_79 rfl rfl ?_
        refine j_getA (pc := 80) d_Search_turns_80 fl_Search_27 sx_26 (by decide) rfl ?_
        refine j_getI (pc := 83) d_Search_turns_83 fl_Search_125 sx_16 (by decide) rfl ?_
        refine j_ior (pc := 86) d_Search_turns_86 ?_
        refine j_iload (pc := 87) (q := 0) d_Search_turns_87 rfl ?_
        refine j_iand (pc := 89) d_Search_turns_89 ?_
        refine j_nmk (fun k => ∀ (M7 : Mem), J (mt_Search_turns (f + 1)) wI 123 [(0, Value.ref 26), (1, Value.int a1), (2, Value.int a2), (4, Value.int a4), (5, Value.int v5)] [] M7 (k M7)) (fun M7 => ?_) (fun k123 hk123 => ?_)
        · refine j_iinc (pc := 123) (q := 4) d_Search_turns_123 rfl (congrArg (v5 + ·) k_i_1) (by show 5 < 7; decide) rfl ?_
          refine j_goto (pc := 126) (tgt := 56) d_Search_turns_126 (by decide) ?_
          refine j_lv [1, 2, 3, 4, 0] rfl ?_
          exact ih (v5 + 1) M7
        · refine j_if_ne (pc := 90) (tgt := 123) d_Search_turns_90 (by decide) (fun _ => ?_) (fun _ => ?_)
          · refine j_lv [1, 2, 3, 4, 5] rfl ?_
            exact hk123 M6
          · refine j_aload_n (pc := 93) (q := 1) d_Search_turns_93 rfl rfl ?_
            refine j_iload_n (pc := 94) (q := 2) d_Search_turns_94 rfl rfl ?_
            refine j_iload (pc := 95) (q := 5) d_Search_turns_95 rfl ?_
            refine j_callV2 (pc := 97) d_Search_turns_97 (C_Search_step n a1 v5 M6) cV_Search_139 cd_Search_step dn_Search_step rfl (by show 6 + 1 ≤ 7 + (f + 1); omega) (Nat.le_of_ble_eq_true rfl) (Nat.le_of_ble_eq_true rfl) nr_I sx_26 (by decide) rfl (fun r8 M9 => ?_)
            refine j_pop (pc := 100) d_Search_turns_100 rfl ?_
            refine j_aload_n (pc := 101) (q := 1) d_Search_turns_101 rfl rfl ?_
            refine j_iload_n (pc := 102) (q := 2) d_Search_turns_102 rfl rfl ?_
            refine j_iconst (pc := 103) d_Search_turns_103 k_i_1 ?_
            refine j_iadd (pc := 104) d_Search_turns_104 ?_
            refine j_iload_n (pc := 105) (q := 3) d_Search_turns_105 rfl rfl ?_
            refine j_iload (pc := 106) (q := 0) d_Search_turns_106 rfl ?_
            refine j_ior (pc := 108) d_Search_turns_108 ?_
            refine j_iload (pc := 109) (q := 5) d_Search_turns_109 rfl ?_
            refine j_iconst (pc := 111) d_Search_turns_111 k_i_1 ?_
            refine j_iadd (pc := 112) d_Search_turns_112 ?_
            refine j_iload (pc := 113) (q := 4) d_Search_turns_113 rfl ?_
            refine j_callS5 (pc := 115) d_Search_turns_115 (hself (a1 + 1) (a2 ||| r5) (v5 + 1) a4 M9) cS_Search_76 cd_Search_turns dn_Search_turns rfl (Nat.le_refl _) (Nat.le_of_ble_eq_true rfl) (Nat.le_of_ble_eq_true rfl) nr_I (fun r10 M11 => ?_)
            refine j_if_eq (pc := 118) (tgt := 123) d_Search_turns_118 (by decide) (fun _ => ?_) (fun _ => ?_)
            · refine j_lv [1, 2, 3, 4, 5] rfl ?_
              exact hk123 M11
            · refine j_iconst (pc := 121) d_Search_turns_121 k_i_1 ?_
              exact j_zreturn (pc := 122) d_Search_turns_122 rfl rfl
set_option maxRecDepth 20000 in
set_option maxHeartbeats 4000000 in
theorem C_Search_turns (n : Nat) : ∀ (f : Nat) (p1 : Int32) (p2 : Int32) (p3 : Int32) (p4 : Int32) (M : Mem), Ct y_Search_turns (mt_Search_turns f) wI [Value.ref 26, Value.int p1, Value.int p2, Value.int p3, Value.int p4] M (X_Search_turns n f p1 p2 p3 p4 M) := by
  intro f
  induction f with
  | zero => intro p1 p2 p3 p4 M r M2 hF; cases hF
  | succ f ihf =>
    intro p1 p2 p3 p4 M
    refine ct_of (by decide +kernel) rfl (Nat.le_of_ble_eq_true rfl) ?_
    show J _ _ _ [(0, Value.ref 26), (1, Value.int p1), (2, Value.int p2), (3, Value.int p3), (4, Value.int p4)] _ _ ((if p4 = 0 then
gd p1 7 (
bd (X_Search_amiss n (([30, 31, 32, 33, 34, 35, 36] : List Nat).getD p1.toNatClampNeg 0) M) fun r15 M16 =>
(if r15 = 0 then
some (1, M16)
else
some (0, M16)))
else
gd p1 7 (
bd (X_Search_isBarred n (([30, 31, 32, 33, 34, 35, 36] : List Nat).getD p1.toNatClampNeg 0) M) fun r2 M3 =>
nm (fun (M4 : Mem) => (X_Search_turns_L56 n (X_Search_turns n f) p1 p2 p4 n p3 M4 : Option (Int32 × Mem))) fun k53 =>
(if r2 = 0 then
bd ((X_Search_turns n f) p1 0 0 (p4 - 1) M3) fun r12 M13 =>
(if r12 = 0 then
k53 M13
else
some (1, M13))
else
k53 M3))))
    refine j_iload (pc := 0) (q := 4) d_Search_turns_0 rfl ?_
    refine j_if_ne (pc := 2) (tgt := 24) d_Search_turns_2 (by decide) (fun _ => ?_) (fun _ => ?_)
    · refine j_aload_n (pc := 24) (q := 0) d_Search_turns_24 rfl rfl ?_
      refine j_aload_n (pc := 25) (q := 0) d_Search_turns_25 rfl rfl ?_
      refine j_getA (pc := 26) d_Search_turns_26 fl_Search_20 sx_26 (by decide) rfl ?_
      refine j_iload_n (pc := 29) (q := 1) d_Search_turns_29 rfl rfl ?_
      refine j_aald2 (pc := 30) (ids := [30, 31, 32, 33, 34, 35, 36]) d_Search_turns_30 sx_29 (fun h1 => ?_)
      refine j_callV1 (pc := 31) d_Search_turns_31 (C_Search_isBarred n (([30, 31, 32, 33, 34, 35, 36] : List Nat).getD p1.toNatClampNeg 0) (sh_level h1) M) cV_Search_64 cd_Search_isBarred dn_Search_isBarred rfl (by show 3 + 1 ≤ 7 + (f + 1); omega) (Nat.le_of_ble_eq_true rfl) (Nat.le_of_ble_eq_true rfl) nr_I sx_26 (by decide) rfl (fun r2 M3 => ?_)
      refine j_nmk (fun k => ∀ (M4 : Mem), J (mt_Search_turns (f + 1)) wI 53 [(0, Value.ref 26), (1, Value.int p1), (2, Value.int p2), (3, Value.int p3), (4, Value.int p4)] [] M4 (k M4)) (fun M4 => ?_) (fun k53 hk53 => ?_)
      · refine j_iload_n (pc := 53) (q := 3) d_Search_turns_53 rfl rfl ?_
        refine j_istore (pc := 54) d_Search_turns_54 (by show 5 < 7; decide) rfl ?_
        refine j_lv [1, 2, 3, 5, 0] rfl ?_
        exact X_Search_turns_L56_ok ihf  n p3 M4
      · refine j_if_ne (pc := 34) (tgt := 53) d_Search_turns_34 (by decide) (fun _ => ?_) (fun _ => ?_)
        · exact hk53 M3
        · refine j_aload_n (pc := 37) (q := 0) d_Search_turns_37 rfl rfl ?_
          refine j_iload_n (pc := 38) (q := 1) d_Search_turns_38 rfl rfl ?_
          refine j_iconst (pc := 39) d_Search_turns_39 k_i_0 ?_
          refine j_iconst (pc := 40) d_Search_turns_40 k_i_0 ?_
          refine j_iload (pc := 41) (q := 4) d_Search_turns_41 rfl ?_
          refine j_iconst (pc := 43) d_Search_turns_43 k_i_1 ?_
          refine j_isub (pc := 44) d_Search_turns_44 ?_
          refine j_callS5 (pc := 45) d_Search_turns_45 (ihf p1 0 0 (p4 - 1) M3) cS_Search_76 cd_Search_turns dn_Search_turns rfl (Nat.le_refl _) (Nat.le_of_ble_eq_true rfl) (Nat.le_of_ble_eq_true rfl) nr_I (fun r12 M13 => ?_)
          refine j_if_eq (pc := 48) (tgt := 53) d_Search_turns_48 (by decide) (fun _ => ?_) (fun _ => ?_)
          · exact hk53 M13
          · refine j_iconst (pc := 51) d_Search_turns_51 k_i_1 ?_
            exact j_zreturn (pc := 52) d_Search_turns_52 rfl rfl
    · refine j_aload_n (pc := 5) (q := 0) d_Search_turns_5 rfl rfl ?_
      refine j_aload_n (pc := 6) (q := 0) d_Search_turns_6 rfl rfl ?_
      refine j_getA (pc := 7) d_Search_turns_7 fl_Search_20 sx_26 (by decide) rfl ?_
      refine j_iload_n (pc := 10) (q := 1) d_Search_turns_10 rfl rfl ?_
      refine j_aald2 (pc := 11) (ids := [30, 31, 32, 33, 34, 35, 36]) d_Search_turns_11 sx_29 (fun h14 => ?_)
      refine j_callV1 (pc := 12) d_Search_turns_12 (C_Search_amiss n (([30, 31, 32, 33, 34, 35, 36] : List Nat).getD p1.toNatClampNeg 0) (sh_level h14) M) cV_Search_72 cd_Search_amiss dn_Search_amiss rfl (by show 3 + 1 ≤ 7 + (f + 1); omega) (Nat.le_of_ble_eq_true rfl) (Nat.le_of_ble_eq_true rfl) nr_I sx_26 (by decide) rfl (fun r15 M16 => ?_)
      refine j_if_ne (pc := 15) (tgt := 22) d_Search_turns_15 (by decide) (fun _ => ?_) (fun _ => ?_)
      · refine j_iconst (pc := 22) d_Search_turns_22 k_i_0 ?_
        exact j_zreturn (pc := 23) d_Search_turns_23 rfl rfl
      · refine j_iconst (pc := 18) d_Search_turns_18 k_i_1 ?_
        refine j_goto (pc := 19) (tgt := 23) d_Search_turns_19 (by decide) ?_
        exact j_zreturn (pc := 23) d_Search_turns_23 rfl rfl
-- Search.fewestRounds ()I
def mt_Search_fewestRounds : Mt := ("ShakeHands$Search", b_Search_fewestRounds, 2, some .int, 20, SHx)
theorem d_Search_fewestRounds_0 : decode b_Search_fewestRounds 0 = .ok (.aload_n 0, 1) := by decide +kernel
theorem d_Search_fewestRounds_1 : decode b_Search_fewestRounds 1 = .ok (.aload_n 0, 1) := by decide +kernel
theorem d_Search_fewestRounds_2 : decode b_Search_fewestRounds 2 = .ok (.getfield 20, 3) := by decide +kernel
theorem d_Search_fewestRounds_5 : decode b_Search_fewestRounds 5 = .ok (.iconst 0, 1) := by decide +kernel
theorem d_Search_fewestRounds_6 : decode b_Search_fewestRounds 6 = .ok (.aaload, 1) := by decide +kernel
theorem d_Search_fewestRounds_7 : decode b_Search_fewestRounds 7 = .ok (.invokevirtual 64, 3) := by decide +kernel
theorem d_Search_fewestRounds_10 : decode b_Search_fewestRounds 10 = .ok (.ifCond .eq 6, 3) := by decide +kernel
theorem d_Search_fewestRounds_13 : decode b_Search_fewestRounds 13 = .ok (.bipush (-4), 2) := by decide +kernel
theorem d_Search_fewestRounds_15 : decode b_Search_fewestRounds 15 = .ok (.ireturn, 1) := by decide +kernel
theorem d_Search_fewestRounds_16 : decode b_Search_fewestRounds 16 = .ok (.aload_n 0, 1) := by decide +kernel
theorem d_Search_fewestRounds_17 : decode b_Search_fewestRounds 17 = .ok (.aload_n 0, 1) := by decide +kernel
theorem d_Search_fewestRounds_18 : decode b_Search_fewestRounds 18 = .ok (.getfield 20, 3) := by decide +kernel
theorem d_Search_fewestRounds_21 : decode b_Search_fewestRounds 21 = .ok (.iconst 0, 1) := by decide +kernel
theorem d_Search_fewestRounds_22 : decode b_Search_fewestRounds 22 = .ok (.aaload, 1) := by decide +kernel
theorem d_Search_fewestRounds_23 : decode b_Search_fewestRounds 23 = .ok (.invokevirtual 72, 3) := by decide +kernel
theorem d_Search_fewestRounds_26 : decode b_Search_fewestRounds 26 = .ok (.ifCond .ne 5, 3) := by decide +kernel
theorem d_Search_fewestRounds_29 : decode b_Search_fewestRounds 29 = .ok (.iconst 0, 1) := by decide +kernel
theorem d_Search_fewestRounds_30 : decode b_Search_fewestRounds 30 = .ok (.ireturn, 1) := by decide +kernel
theorem d_Search_fewestRounds_31 : decode b_Search_fewestRounds 31 = .ok (.iconst 1, 1) := by decide +kernel
theorem d_Search_fewestRounds_32 : decode b_Search_fewestRounds 32 = .ok (.istore_n 1, 1) := by decide +kernel
theorem d_Search_fewestRounds_33 : decode b_Search_fewestRounds 33 = .ok (.iload_n 1, 1) := by decide +kernel
theorem d_Search_fewestRounds_34 : decode b_Search_fewestRounds 34 = .ok (.iconst 2, 1) := by decide +kernel
theorem d_Search_fewestRounds_35 : decode b_Search_fewestRounds 35 = .ok (.if_icmp .gt 22, 3) := by decide +kernel
theorem d_Search_fewestRounds_38 : decode b_Search_fewestRounds 38 = .ok (.aload_n 0, 1) := by decide +kernel
theorem d_Search_fewestRounds_39 : decode b_Search_fewestRounds 39 = .ok (.iconst 0, 1) := by decide +kernel
theorem d_Search_fewestRounds_40 : decode b_Search_fewestRounds 40 = .ok (.iconst 0, 1) := by decide +kernel
theorem d_Search_fewestRounds_41 : decode b_Search_fewestRounds 41 = .ok (.iconst 0, 1) := by decide +kernel
theorem d_Search_fewestRounds_42 : decode b_Search_fewestRounds 42 = .ok (.iload_n 1, 1) := by decide +kernel
theorem d_Search_fewestRounds_43 : decode b_Search_fewestRounds 43 = .ok (.invokestatic 76, 3) := by decide +kernel
theorem d_Search_fewestRounds_46 : decode b_Search_fewestRounds 46 = .ok (.ifCond .eq 5, 3) := by decide +kernel
theorem d_Search_fewestRounds_49 : decode b_Search_fewestRounds 49 = .ok (.iload_n 1, 1) := by decide +kernel
theorem d_Search_fewestRounds_50 : decode b_Search_fewestRounds 50 = .ok (.ireturn, 1) := by decide +kernel
theorem d_Search_fewestRounds_51 : decode b_Search_fewestRounds 51 = .ok (.iinc 1 1, 3) := by decide +kernel
theorem d_Search_fewestRounds_54 : decode b_Search_fewestRounds 54 = .ok (.goto (-21), 3) := by decide +kernel
theorem d_Search_fewestRounds_57 : decode b_Search_fewestRounds 57 = .ok (.bipush (-4), 2) := by decide +kernel
theorem d_Search_fewestRounds_59 : decode b_Search_fewestRounds 59 = .ok (.ireturn, 1) := by decide +kernel
def X_Search_fewestRounds_L33 (n : Nat) : Nat → Int32 → Mem → Option (Int32 × Mem)
    | 0, _, _ => none
    | m + 1, v1, M => (if 2 < v1 then
    some ((-4), M)
    else
    bd (X_Search_turns n 12 0 0 0 v1 M) fun r7 M8 =>
    (if r7 = 0 then
      X_Search_fewestRounds_L33 n m (v1 + 1) M8
      else
      some (v1, M8)))
def X_Search_fewestRounds (n : Nat) (M : Mem) : Option (Int32 × Mem) :=
  gd (0 : Int32) 7 (
    bd (X_Search_isBarred n (([30, 31, 32, 33, 34, 35, 36] : List Nat).getD (0 : Int32).toNatClampNeg 0) M) fun r2 M3 =>
    (if r2 = 0 then
      gd (0 : Int32) 7 (
        bd (X_Search_amiss n (([30, 31, 32, 33, 34, 35, 36] : List Nat).getD (0 : Int32).toNatClampNeg 0) M3) fun r5 M6 =>
        (if r5 = 0 then
          some (0, M6)
          else
          X_Search_fewestRounds_L33 n n 1 M6))
      else
      some ((-4), M3)))
set_option maxRecDepth 20000 in
set_option maxHeartbeats 4000000 in
theorem X_Search_fewestRounds_L33_ok {n : Nat} : ∀ (m : Nat) (v1 : Int32) (M : Mem), J (mt_Search_fewestRounds) wI 33 [(0, Value.ref 26), (1, Value.int v1)] [] M (X_Search_fewestRounds_L33 n m v1 M) := by
  intro m
  induction m with
  | zero => intro _ _; exact j_none
  | succ m ih =>
    intro v1 M
    show J _ _ _ _ _ _ ((if 2 < v1 then
some ((-4), M)
else
bd (X_Search_turns n 12 0 0 0 v1 M) fun r7 M8 =>
(if r7 = 0 then
X_Search_fewestRounds_L33 n m (v1 + 1) M8
else
some (v1, M8))))
    refine j_iload_n (pc := 33) (q := 1) d_Search_fewestRounds_33 rfl rfl ?_
    refine j_iconst (pc := 34) d_Search_fewestRounds_34 k_i_2 ?_
    refine j_icmp_gt (pc := 35) (tgt := 57) d_Search_fewestRounds_35 (by decide) (fun _ => ?_) (fun _ => ?_)
    · refine j_bipush (pc := 57) d_Search_fewestRounds_57 k_b_m4 ?_
      exact j_ireturn (pc := 59) d_Search_fewestRounds_59 rfl
    · refine j_aload_n (pc := 38) (q := 0) d_Search_fewestRounds_38 rfl rfl ?_
      refine j_iconst (pc := 39) d_Search_fewestRounds_39 k_i_0 ?_
      refine j_iconst (pc := 40) d_Search_fewestRounds_40 k_i_0 ?_
      refine j_iconst (pc := 41) d_Search_fewestRounds_41 k_i_0 ?_
      refine j_iload_n (pc := 42) (q := 1) d_Search_fewestRounds_42 rfl rfl ?_
      refine j_callS5 (pc := 43) d_Search_fewestRounds_43 (C_Search_turns n 12 0 0 0 v1 M) cS_Search_76 cd_Search_turns dn_Search_turns rfl (by decide) (Nat.le_of_ble_eq_true rfl) (Nat.le_of_ble_eq_true rfl) nr_I (fun r7 M8 => ?_)
      refine j_if_eq (pc := 46) (tgt := 51) d_Search_fewestRounds_46 (by decide) (fun _ => ?_) (fun _ => ?_)
      · refine j_iinc (pc := 51) (q := 1) d_Search_fewestRounds_51 rfl (congrArg (v1 + ·) k_i_1) (by decide) rfl ?_
        refine j_goto (pc := 54) (tgt := 33) d_Search_fewestRounds_54 (by decide) ?_
        refine j_lv [1, 0] rfl ?_
        exact ih (v1 + 1) M8
      · refine j_iload_n (pc := 49) (q := 1) d_Search_fewestRounds_49 rfl rfl ?_
        exact j_ireturn (pc := 50) d_Search_fewestRounds_50 rfl
set_option maxRecDepth 20000 in
set_option maxHeartbeats 4000000 in
theorem C_Search_fewestRounds (n : Nat)    (M : Mem) : Ct y_Search_fewestRounds mt_Search_fewestRounds wI [Value.ref 26] M (X_Search_fewestRounds n M) := by
  refine ct_of (by decide +kernel) rfl (Nat.le_of_ble_eq_true rfl) ?_
  show J _ _ _ [(0, Value.ref 26)] _ _ _
  unfold X_Search_fewestRounds
  refine j_aload_n (pc := 0) (q := 0) d_Search_fewestRounds_0 rfl rfl ?_
  refine j_aload_n (pc := 1) (q := 0) d_Search_fewestRounds_1 rfl rfl ?_
  refine j_getA (pc := 2) d_Search_fewestRounds_2 fl_Search_20 sx_26 (by decide) rfl ?_
  refine j_iconst (pc := 5) d_Search_fewestRounds_5 k_i_0 ?_
  refine j_aald2 (pc := 6) (ids := [30, 31, 32, 33, 34, 35, 36]) d_Search_fewestRounds_6 sx_29 (fun h1 => ?_)
  refine j_callV1 (pc := 7) d_Search_fewestRounds_7 (C_Search_isBarred n (([30, 31, 32, 33, 34, 35, 36] : List Nat).getD (0 : Int32).toNatClampNeg 0) (sh_level h1) M) cV_Search_64 cd_Search_isBarred dn_Search_isBarred rfl (by decide) (Nat.le_of_ble_eq_true rfl) (Nat.le_of_ble_eq_true rfl) nr_I sx_26 (by decide) rfl (fun r2 M3 => ?_)
  refine j_if_eq (pc := 10) (tgt := 16) d_Search_fewestRounds_10 (by decide) (fun _ => ?_) (fun _ => ?_)
  · refine j_aload_n (pc := 16) (q := 0) d_Search_fewestRounds_16 rfl rfl ?_
    refine j_aload_n (pc := 17) (q := 0) d_Search_fewestRounds_17 rfl rfl ?_
    refine j_getA (pc := 18) d_Search_fewestRounds_18 fl_Search_20 sx_26 (by decide) rfl ?_
    refine j_iconst (pc := 21) d_Search_fewestRounds_21 k_i_0 ?_
    refine j_aald2 (pc := 22) (ids := [30, 31, 32, 33, 34, 35, 36]) d_Search_fewestRounds_22 sx_29 (fun h4 => ?_)
    refine j_callV1 (pc := 23) d_Search_fewestRounds_23 (C_Search_amiss n (([30, 31, 32, 33, 34, 35, 36] : List Nat).getD (0 : Int32).toNatClampNeg 0) (sh_level h4) M3) cV_Search_72 cd_Search_amiss dn_Search_amiss rfl (by decide) (Nat.le_of_ble_eq_true rfl) (Nat.le_of_ble_eq_true rfl) nr_I sx_26 (by decide) rfl (fun r5 M6 => ?_)
    refine j_if_ne (pc := 26) (tgt := 31) d_Search_fewestRounds_26 (by decide) (fun _ => ?_) (fun _ => ?_)
    · refine j_iconst (pc := 31) d_Search_fewestRounds_31 k_i_1 ?_
      refine j_istore_n (pc := 32) d_Search_fewestRounds_32 rfl (by decide) rfl ?_
      refine j_lv [1, 0] rfl ?_
      exact X_Search_fewestRounds_L33_ok   n 1 M6
    · refine j_iconst (pc := 29) d_Search_fewestRounds_29 k_i_0 ?_
      exact j_ireturn (pc := 30) d_Search_fewestRounds_30 rfl
  · refine j_bipush (pc := 13) d_Search_fewestRounds_13 k_b_m4 ?_
    exact j_ireturn (pc := 15) d_Search_fewestRounds_15 rfl
-- Search.unlikeSeen ([J)I
def mt_Search_unlikeSeen : Mt := ("ShakeHands$Search", b_Search_unlikeSeen, 4, some .int, 3, SHx)
theorem d_Search_unlikeSeen_0 : decode b_Search_unlikeSeen 0 = .ok (.iconst 0, 1) := by decide +kernel
theorem d_Search_unlikeSeen_1 : decode b_Search_unlikeSeen 1 = .ok (.istore_n 2, 1) := by decide +kernel
theorem d_Search_unlikeSeen_2 : decode b_Search_unlikeSeen 2 = .ok (.iconst 0, 1) := by decide +kernel
theorem d_Search_unlikeSeen_3 : decode b_Search_unlikeSeen 3 = .ok (.istore_n 3, 1) := by decide +kernel
theorem d_Search_unlikeSeen_4 : decode b_Search_unlikeSeen 4 = .ok (.iload_n 3, 1) := by decide +kernel
theorem d_Search_unlikeSeen_5 : decode b_Search_unlikeSeen 5 = .ok (.aload_n 0, 1) := by decide +kernel
theorem d_Search_unlikeSeen_6 : decode b_Search_unlikeSeen 6 = .ok (.getfield 23, 3) := by decide +kernel
theorem d_Search_unlikeSeen_9 : decode b_Search_unlikeSeen 9 = .ok (.getfield 31, 3) := by decide +kernel
theorem d_Search_unlikeSeen_12 : decode b_Search_unlikeSeen 12 = .ok (.if_icmp .ge 47, 3) := by decide +kernel
theorem d_Search_unlikeSeen_15 : decode b_Search_unlikeSeen 15 = .ok (.aload_n 0, 1) := by decide +kernel
theorem d_Search_unlikeSeen_16 : decode b_Search_unlikeSeen 16 = .ok (.getfield 27, 3) := by decide +kernel
theorem d_Search_unlikeSeen_19 : decode b_Search_unlikeSeen 19 = .ok (.getfield 101, 3) := by decide +kernel
theorem d_Search_unlikeSeen_22 : decode b_Search_unlikeSeen 22 = .ok (.iload_n 3, 1) := by decide +kernel
theorem d_Search_unlikeSeen_23 : decode b_Search_unlikeSeen 23 = .ok (.iushr, 1) := by decide +kernel
theorem d_Search_unlikeSeen_24 : decode b_Search_unlikeSeen 24 = .ok (.iconst 1, 1) := by decide +kernel
theorem d_Search_unlikeSeen_25 : decode b_Search_unlikeSeen 25 = .ok (.iand, 1) := by decide +kernel
theorem d_Search_unlikeSeen_26 : decode b_Search_unlikeSeen 26 = .ok (.ifCond .eq 27, 3) := by decide +kernel
theorem d_Search_unlikeSeen_29 : decode b_Search_unlikeSeen 29 = .ok (.aload_n 1, 1) := by decide +kernel
theorem d_Search_unlikeSeen_30 : decode b_Search_unlikeSeen 30 = .ok (.iload_n 3, 1) := by decide +kernel
theorem d_Search_unlikeSeen_31 : decode b_Search_unlikeSeen 31 = .ok (.laload, 1) := by decide +kernel
theorem d_Search_unlikeSeen_32 : decode b_Search_unlikeSeen 32 = .ok (.invokestatic 104, 3) := by decide +kernel
theorem d_Search_unlikeSeen_35 : decode b_Search_unlikeSeen 35 = .ok (.aload_n 0, 1) := by decide +kernel
theorem d_Search_unlikeSeen_36 : decode b_Search_unlikeSeen 36 = .ok (.getfield 27, 3) := by decide +kernel
theorem d_Search_unlikeSeen_39 : decode b_Search_unlikeSeen 39 = .ok (.getfield 110, 3) := by decide +kernel
theorem d_Search_unlikeSeen_42 : decode b_Search_unlikeSeen 42 = .ok (.iload_n 3, 1) := by decide +kernel
theorem d_Search_unlikeSeen_43 : decode b_Search_unlikeSeen 43 = .ok (.iaload, 1) := by decide +kernel
theorem d_Search_unlikeSeen_44 : decode b_Search_unlikeSeen 44 = .ok (.if_icmp .eq 9, 3) := by decide +kernel
theorem d_Search_unlikeSeen_47 : decode b_Search_unlikeSeen 47 = .ok (.iload_n 2, 1) := by decide +kernel
theorem d_Search_unlikeSeen_48 : decode b_Search_unlikeSeen 48 = .ok (.iconst 1, 1) := by decide +kernel
theorem d_Search_unlikeSeen_49 : decode b_Search_unlikeSeen 49 = .ok (.iload_n 3, 1) := by decide +kernel
theorem d_Search_unlikeSeen_50 : decode b_Search_unlikeSeen 50 = .ok (.ishl, 1) := by decide +kernel
theorem d_Search_unlikeSeen_51 : decode b_Search_unlikeSeen 51 = .ok (.ior, 1) := by decide +kernel
theorem d_Search_unlikeSeen_52 : decode b_Search_unlikeSeen 52 = .ok (.istore_n 2, 1) := by decide +kernel
theorem d_Search_unlikeSeen_53 : decode b_Search_unlikeSeen 53 = .ok (.iinc 3 1, 3) := by decide +kernel
theorem d_Search_unlikeSeen_56 : decode b_Search_unlikeSeen 56 = .ok (.goto (-52), 3) := by decide +kernel
theorem d_Search_unlikeSeen_59 : decode b_Search_unlikeSeen 59 = .ok (.iload_n 2, 1) := by decide +kernel
theorem d_Search_unlikeSeen_60 : decode b_Search_unlikeSeen 60 = .ok (.ireturn, 1) := by decide +kernel
def X_Search_unlikeSeen_L4 (n : Nat) (rows : Nat) : Nat → Int32 → Int32 → Mem → Option (Int32 × Mem)
    | 0, _, _, _ => none
    | m + 1, v2, v3, M => (if (M.1 11 0) ≤ v3 then
    some (v2, M)
    else
    nm (fun (z1 : Int32) (M2 : Mem) => (X_Search_unlikeSeen_L4 n rows m z1 (v3 + 1) M2 : Option (Int32 × Mem))) fun k53 =>
    (if ((((M.1 16 2).toUInt32 >>> (v3.toUInt32 &&& Int32.toUInt32 31)).toInt32) &&& 1) = 0 then
      k53 v2 M
      else
      gd v3 6 (
        bd (X_Row_knownOf n (M.2 rows v3.toNatClampNeg) M) fun r3 M4 =>
        gd v3 6 (
          (if r3 = (M4.1 18 v3.toNatClampNeg) then
            k53 v2 M4
            else
            nm (v2 ||| ((1 : Int32) <<< (v3 &&& 31))) fun x5 =>
            k53 x5 M4)))))
def X_Search_unlikeSeen (n : Nat) (rows : Nat) (M : Mem) : Option (Int32 × Mem) :=
  X_Search_unlikeSeen_L4 n rows n 0 0 M
set_option maxRecDepth 20000 in
set_option maxHeartbeats 4000000 in
theorem X_Search_unlikeSeen_L4_ok {n : Nat} {rows : Nat} (h_rows : SHx[rows]? = some (103, [6])) : ∀ (m : Nat) (v2 : Int32) (v3 : Int32) (M : Mem), J (mt_Search_unlikeSeen) wI 4 [(0, Value.ref 26), (1, Value.ref rows), (2, Value.int v2), (3, Value.int v3)] [] M (X_Search_unlikeSeen_L4 n rows m v2 v3 M) := by
  intro m
  induction m with
  | zero => intro _ _ _; exact j_none
  | succ m ih =>
    intro v2 v3 M
    show J _ _ _ _ _ _ ((if (M.1 11 0) ≤ v3 then
some (v2, M)
else
nm (fun (z1 : Int32) (M2 : Mem) => (X_Search_unlikeSeen_L4 n rows m z1 (v3 + 1) M2 : Option (Int32 × Mem))) fun k53 =>
(if ((((M.1 16 2).toUInt32 >>> (v3.toUInt32 &&& Int32.toUInt32 31)).toInt32) &&& 1) = 0 then
k53 v2 M
else
gd v3 6 (
bd (X_Row_knownOf n (M.2 rows v3.toNatClampNeg) M) fun r3 M4 =>
gd v3 6 (
(if r3 = (M4.1 18 v3.toNatClampNeg) then
k53 v2 M4
else
nm (v2 ||| ((1 : Int32) <<< (v3 &&& 31))) fun x5 =>
k53 x5 M4))))))
    refine j_iload_n (pc := 4) (q := 3) d_Search_unlikeSeen_4 rfl rfl ?_
    refine j_aload_n (pc := 5) (q := 0) d_Search_unlikeSeen_5 rfl rfl ?_
    refine j_getA (pc := 6) d_Search_unlikeSeen_6 fl_Search_23 sx_26 (by decide) rfl ?_
    refine j_getI (pc := 9) d_Search_unlikeSeen_9 fl_Search_31 sx_11 (by decide) rfl ?_
    refine j_icmp_ge (pc := 12) (tgt := 59) d_Search_unlikeSeen_12 (by decide) (fun _ => ?_) (fun _ => ?_)
    · refine j_iload_n (pc := 59) (q := 2) d_Search_unlikeSeen_59 rfl rfl ?_
      exact j_ireturn (pc := 60) d_Search_unlikeSeen_60 rfl
    · refine j_aload_n (pc := 15) (q := 0) d_Search_unlikeSeen_15 rfl rfl ?_
      refine j_getA (pc := 16) d_Search_unlikeSeen_16 fl_Search_27 sx_26 (by decide) rfl ?_
      refine j_getI (pc := 19) d_Search_unlikeSeen_19 fl_Search_101 sx_16 (by decide) rfl ?_
      refine j_iload_n (pc := 22) (q := 3) d_Search_unlikeSeen_22 rfl rfl ?_
      refine j_iushr (pc := 23) d_Search_unlikeSeen_23 ?_
      refine j_iconst (pc := 24) d_Search_unlikeSeen_24 k_i_1 ?_
      refine j_iand (pc := 25) d_Search_unlikeSeen_25 ?_
      refine j_nmk (fun k => ∀ (z1 : Int32) (M2 : Mem), J (mt_Search_unlikeSeen) wI 53 [(0, Value.ref 26), (1, Value.ref rows), (2, Value.int z1), (3, Value.int v3)] [] M2 (k z1 M2)) (fun z1 M2 => ?_) (fun k53 hk53 => ?_)
      · refine j_iinc (pc := 53) (q := 3) d_Search_unlikeSeen_53 rfl (congrArg (v3 + ·) k_i_1) (by decide) rfl ?_
        refine j_goto (pc := 56) (tgt := 4) d_Search_unlikeSeen_56 (by decide) ?_
        refine j_lv [1, 2, 3, 0] rfl ?_
        exact ih z1 (v3 + 1) M2
      · refine j_if_eq (pc := 26) (tgt := 53) d_Search_unlikeSeen_26 (by decide) (fun _ => ?_) (fun _ => ?_)
        · exact hk53 v2 M
        · refine j_aload_n (pc := 29) (q := 1) d_Search_unlikeSeen_29 rfl rfl ?_
          refine j_iload_n (pc := 30) (q := 3) d_Search_unlikeSeen_30 rfl rfl ?_
          refine j_lald (pc := 31) d_Search_unlikeSeen_31 h_rows (fun _ => ?_)
          refine j_callS1 (pc := 32) d_Search_unlikeSeen_32 (C_Row_knownOf n (M.2 rows v3.toNatClampNeg) M) cS_Search_104 cd_Row_knownOf dn_Row_knownOf rfl (by decide) (Nat.le_of_ble_eq_true rfl) (Nat.le_of_ble_eq_true rfl) nr_I (fun r3 M4 => ?_)
          refine j_aload_n (pc := 35) (q := 0) d_Search_unlikeSeen_35 rfl rfl ?_
          refine j_getA (pc := 36) d_Search_unlikeSeen_36 fl_Search_27 sx_26 (by decide) rfl ?_
          refine j_getA (pc := 39) d_Search_unlikeSeen_39 fl_Search_110 sx_16 (by decide) rfl ?_
          refine j_iload_n (pc := 42) (q := 3) d_Search_unlikeSeen_42 rfl rfl ?_
          refine j_iald (pc := 43) d_Search_unlikeSeen_43 sx_18 (fun _ => ?_)
          refine j_icmp_eq (pc := 44) (tgt := 53) d_Search_unlikeSeen_44 (by decide) (fun _ => ?_) (fun _ => ?_)
          · exact hk53 v2 M4
          · refine j_iload_n (pc := 47) (q := 2) d_Search_unlikeSeen_47 rfl rfl ?_
            refine j_iconst (pc := 48) d_Search_unlikeSeen_48 k_i_1 ?_
            refine j_iload_n (pc := 49) (q := 3) d_Search_unlikeSeen_49 rfl rfl ?_
            refine j_ishl (pc := 50) d_Search_unlikeSeen_50 ?_
            refine j_ior (pc := 51) d_Search_unlikeSeen_51 ?_
            refine j_nmi (fun x5 => ?_)
            refine j_istore_n (pc := 52) d_Search_unlikeSeen_52 rfl (by decide) rfl ?_
            refine j_lv [1, 2, 0, 3] rfl ?_
            exact hk53 x5 M4
set_option maxRecDepth 20000 in
set_option maxHeartbeats 4000000 in
theorem C_Search_unlikeSeen (n : Nat) (rows : Nat) (h_rows : SHx[rows]? = some (103, [6]))  (M : Mem) : Ct y_Search_unlikeSeen mt_Search_unlikeSeen wI [Value.ref 26, Value.ref rows] M (X_Search_unlikeSeen n rows M) := by
  refine ct_of (by decide +kernel) rfl (Nat.le_of_ble_eq_true rfl) ?_
  show J _ _ _ [(0, Value.ref 26), (1, Value.ref rows)] _ _ _
  unfold X_Search_unlikeSeen
  refine j_iconst (pc := 0) d_Search_unlikeSeen_0 k_i_0 ?_
  refine j_istore_n (pc := 1) d_Search_unlikeSeen_1 rfl (by decide) rfl ?_
  refine j_iconst (pc := 2) d_Search_unlikeSeen_2 k_i_0 ?_
  refine j_istore_n (pc := 3) d_Search_unlikeSeen_3 rfl (by decide) rfl ?_
  refine j_lv [2, 3, 1, 0] rfl ?_
  exact X_Search_unlikeSeen_L4_ok h_rows  n 0 0 M
-- Search.fit (LShakeHands$Search;III)V
def mt_Search_fit (f : Nat) : Mt := ("ShakeHands$Search", b_Search_fit, 7, none, 7 + f, SHx)
theorem d_Search_fit_0 : decode b_Search_fit 0 = .ok (.aload_n 0, 1) := by decide +kernel
theorem d_Search_fit_1 : decode b_Search_fit 1 = .ok (.aload_n 0, 1) := by decide +kernel
theorem d_Search_fit_2 : decode b_Search_fit 2 = .ok (.getfield 20, 3) := by decide +kernel
theorem d_Search_fit_5 : decode b_Search_fit 5 = .ok (.iload_n 1, 1) := by decide +kernel
theorem d_Search_fit_6 : decode b_Search_fit 6 = .ok (.aaload, 1) := by decide +kernel
theorem d_Search_fit_7 : decode b_Search_fit 7 = .ok (.invokevirtual 143, 3) := by decide +kernel
theorem d_Search_fit_10 : decode b_Search_fit 10 = .ok (.istore 4, 2) := by decide +kernel
theorem d_Search_fit_12 : decode b_Search_fit 12 = .ok (.iload_n 1, 1) := by decide +kernel
theorem d_Search_fit_13 : decode b_Search_fit 13 = .ok (.iload_n 2, 1) := by decide +kernel
theorem d_Search_fit_14 : decode b_Search_fit 14 = .ok (.if_icmp .lt 39, 3) := by decide +kernel
theorem d_Search_fit_17 : decode b_Search_fit 17 = .ok (.iload 4, 2) := by decide +kernel
theorem d_Search_fit_19 : decode b_Search_fit 19 = .ok (.ifCond .ne 33, 3) := by decide +kernel
theorem d_Search_fit_22 : decode b_Search_fit 22 = .ok (.aload_n 0, 1) := by decide +kernel
theorem d_Search_fit_23 : decode b_Search_fit 23 = .ok (.dup, 1) := by decide +kernel
theorem d_Search_fit_24 : decode b_Search_fit 24 = .ok (.getfield 80, 3) := by decide +kernel
theorem d_Search_fit_27 : decode b_Search_fit 27 = .ok (.iconst 1, 1) := by decide +kernel
theorem d_Search_fit_28 : decode b_Search_fit 28 = .ok (.iadd, 1) := by decide +kernel
theorem d_Search_fit_29 : decode b_Search_fit 29 = .ok (.putfield 80, 3) := by decide +kernel
theorem d_Search_fit_32 : decode b_Search_fit 32 = .ok (.aload_n 0, 1) := by decide +kernel
theorem d_Search_fit_33 : decode b_Search_fit 33 = .ok (.dup, 1) := by decide +kernel
theorem d_Search_fit_34 : decode b_Search_fit 34 = .ok (.getfield 83, 3) := by decide +kernel
theorem d_Search_fit_37 : decode b_Search_fit 37 = .ok (.iload_n 3, 1) := by decide +kernel
theorem d_Search_fit_38 : decode b_Search_fit 38 = .ok (.iand, 1) := by decide +kernel
theorem d_Search_fit_39 : decode b_Search_fit 39 = .ok (.putfield 83, 3) := by decide +kernel
theorem d_Search_fit_42 : decode b_Search_fit 42 = .ok (.aload_n 0, 1) := by decide +kernel
theorem d_Search_fit_43 : decode b_Search_fit 43 = .ok (.dup, 1) := by decide +kernel
theorem d_Search_fit_44 : decode b_Search_fit 44 = .ok (.getfield 86, 3) := by decide +kernel
theorem d_Search_fit_47 : decode b_Search_fit 47 = .ok (.iload_n 3, 1) := by decide +kernel
theorem d_Search_fit_48 : decode b_Search_fit 48 = .ok (.ior, 1) := by decide +kernel
theorem d_Search_fit_49 : decode b_Search_fit 49 = .ok (.putfield 86, 3) := by decide +kernel
theorem d_Search_fit_52 : decode b_Search_fit 52 = .ok (.return_, 1) := by decide +kernel
theorem d_Search_fit_53 : decode b_Search_fit 53 = .ok (.iconst 0, 1) := by decide +kernel
theorem d_Search_fit_54 : decode b_Search_fit 54 = .ok (.istore 5, 2) := by decide +kernel
theorem d_Search_fit_56 : decode b_Search_fit 56 = .ok (.iload 5, 2) := by decide +kernel
theorem d_Search_fit_58 : decode b_Search_fit 58 = .ok (.aload_n 0, 1) := by decide +kernel
theorem d_Search_fit_59 : decode b_Search_fit 59 = .ok (.getfield 37, 3) := by decide +kernel
theorem d_Search_fit_62 : decode b_Search_fit 62 = .ok (.if_icmp .ge 66, 3) := by decide +kernel
theorem d_Search_fit_65 : decode b_Search_fit 65 = .ok (.iload 5, 2) := by decide +kernel
theorem d_Search_fit_67 : decode b_Search_fit 67 = .ok (.invokestatic 132, 3) := by decide +kernel
theorem d_Search_fit_70 : decode b_Search_fit 70 = .ok (.istore 6, 2) := by decide +kernel
theorem d_Search_fit_72 : decode b_Search_fit 72 = .ok (.aload_n 0, 1) := by decide +kernel
theorem d_Search_fit_73 : decode b_Search_fit 73 = .ok (.getfield 27, 3) := by decide +kernel
theorem d_Search_fit_76 : decode b_Search_fit 76 = .ok (.getfield 125, 3) := by decide +kernel
theorem d_Search_fit_79 : decode b_Search_fit 79 = .ok (.iload 6, 2) := by decide +kernel
theorem d_Search_fit_81 : decode b_Search_fit 81 = .ok (.iand, 1) := by decide +kernel
theorem d_Search_fit_82 : decode b_Search_fit 82 = .ok (.ifCond .ne 40, 3) := by decide +kernel
theorem d_Search_fit_85 : decode b_Search_fit 85 = .ok (.iload 4, 2) := by decide +kernel
theorem d_Search_fit_87 : decode b_Search_fit 87 = .ok (.iload 6, 2) := by decide +kernel
theorem d_Search_fit_89 : decode b_Search_fit 89 = .ok (.iload_n 2, 1) := by decide +kernel
theorem d_Search_fit_90 : decode b_Search_fit 90 = .ok (.iload_n 1, 1) := by decide +kernel
theorem d_Search_fit_91 : decode b_Search_fit 91 = .ok (.isub, 1) := by decide +kernel
theorem d_Search_fit_92 : decode b_Search_fit 92 = .ok (.iconst 1, 1) := by decide +kernel
theorem d_Search_fit_93 : decode b_Search_fit 93 = .ok (.isub, 1) := by decide +kernel
theorem d_Search_fit_94 : decode b_Search_fit 94 = .ok (.invokestatic 135, 3) := by decide +kernel
theorem d_Search_fit_97 : decode b_Search_fit 97 = .ok (.ifCond .eq 25, 3) := by decide +kernel
theorem d_Search_fit_100 : decode b_Search_fit 100 = .ok (.aload_n 0, 1) := by decide +kernel
theorem d_Search_fit_101 : decode b_Search_fit 101 = .ok (.iload_n 1, 1) := by decide +kernel
theorem d_Search_fit_102 : decode b_Search_fit 102 = .ok (.iload 5, 2) := by decide +kernel
theorem d_Search_fit_104 : decode b_Search_fit 104 = .ok (.invokevirtual 139, 3) := by decide +kernel
theorem d_Search_fit_107 : decode b_Search_fit 107 = .ok (.pop, 1) := by decide +kernel
theorem d_Search_fit_108 : decode b_Search_fit 108 = .ok (.aload_n 0, 1) := by decide +kernel
theorem d_Search_fit_109 : decode b_Search_fit 109 = .ok (.iload_n 1, 1) := by decide +kernel
theorem d_Search_fit_110 : decode b_Search_fit 110 = .ok (.iconst 1, 1) := by decide +kernel
theorem d_Search_fit_111 : decode b_Search_fit 111 = .ok (.iadd, 1) := by decide +kernel
theorem d_Search_fit_112 : decode b_Search_fit 112 = .ok (.iload_n 2, 1) := by decide +kernel
theorem d_Search_fit_113 : decode b_Search_fit 113 = .ok (.iload_n 3, 1) := by decide +kernel
theorem d_Search_fit_114 : decode b_Search_fit 114 = .ok (.iconst 1, 1) := by decide +kernel
theorem d_Search_fit_115 : decode b_Search_fit 115 = .ok (.iload 5, 2) := by decide +kernel
theorem d_Search_fit_117 : decode b_Search_fit 117 = .ok (.ishl, 1) := by decide +kernel
theorem d_Search_fit_118 : decode b_Search_fit 118 = .ok (.ior, 1) := by decide +kernel
theorem d_Search_fit_119 : decode b_Search_fit 119 = .ok (.invokestatic 89, 3) := by decide +kernel
theorem d_Search_fit_122 : decode b_Search_fit 122 = .ok (.iinc 5 1, 3) := by decide +kernel
theorem d_Search_fit_125 : decode b_Search_fit 125 = .ok (.goto (-69), 3) := by decide +kernel
theorem d_Search_fit_128 : decode b_Search_fit 128 = .ok (.return_, 1) := by decide +kernel
def X_Search_fit_L56 (n : Nat) (self : Int32 → Int32 → Int32 → Mem → Option (Unit × Mem)) (a1 : Int32) (a2 : Int32) (a3 : Int32) (a4 : Int32) : Nat → Int32 → Mem → Option (Unit × Mem)
    | 0, _, _ => none
    | m + 1, v5, M => (if (M.1 26 8) ≤ v5 then
    some ((), M)
    else
    bd (X_Search_bitsOf n v5 M) fun r4 M5 =>
    nm (fun (M6 : Mem) => (X_Search_fit_L56 n self a1 a2 a3 a4 m (v5 + 1) M6 : Option (Unit × Mem))) fun k122 =>
    (if ((M5.1 16 1) &&& r4) = 0 then
      bd (X_Search_canMend n a4 r4 ((a2 - a1) - 1) M5) fun r7 M8 =>
      (if r7 = 0 then
        k122 M8
        else
        bd (X_Search_step n a1 v5 M8) fun r9 M10 =>
        bd (self (a1 + 1) a2 (a3 ||| ((1 : Int32) <<< (v5 &&& 31))) M10) fun _ M12 =>
        k122 M12)
      else
      k122 M5))
def X_Search_fit (n : Nat) : Nat → Int32 → Int32 → Int32 → Mem → Option (Unit × Mem)
    | 0, _, _, _, _ => none
    | f + 1, p1, p2, p3, M => gd p1 7 (
    bd (X_Search_unlikeSeen n (([30, 31, 32, 33, 34, 35, 36] : List Nat).getD p1.toNatClampNeg 0) M) fun r2 M3 =>
    (if p1 < p2 then
      X_Search_fit_L56 n (X_Search_fit n f) p1 p2 p3 r2 n 0 M3
      else
      (if r2 = 0 then
        nm (si M3 26 2 ((M3.1 26 2) + 1)) fun N13 =>
        nm (si N13 26 3 ((N13.1 26 3) &&& p3)) fun N14 =>
        some ((), si N14 26 4 ((N14.1 26 4) ||| p3))
        else
        some ((), M3))))
set_option maxRecDepth 20000 in
set_option maxHeartbeats 4000000 in
theorem X_Search_fit_L56_ok {n : Nat} {f : Nat} {self : Int32 → Int32 → Int32 → Mem → Option (Unit × Mem)} {a1 : Int32} {a2 : Int32} {a3 : Int32} {a4 : Int32} (hself : ∀ (q0 : Int32) (q1 : Int32) (q2 : Int32) (M : Mem), Ct y_Search_fit (mt_Search_fit f) wU [Value.ref 26, Value.int q0, Value.int q1, Value.int q2] M (self q0 q1 q2 M)) : ∀ (m : Nat) (v5 : Int32) (M : Mem), J (mt_Search_fit (f + 1)) wU 56 [(0, Value.ref 26), (1, Value.int a1), (2, Value.int a2), (3, Value.int a3), (4, Value.int a4), (5, Value.int v5)] [] M (X_Search_fit_L56 n self a1 a2 a3 a4 m v5 M) := by
  intro m
  induction m with
  | zero => intro _ _; exact j_none
  | succ m ih =>
    intro v5 M
    show J _ _ _ _ _ _ ((if (M.1 26 8) ≤ v5 then
some ((), M)
else
bd (X_Search_bitsOf n v5 M) fun r4 M5 =>
nm (fun (M6 : Mem) => (X_Search_fit_L56 n self a1 a2 a3 a4 m (v5 + 1) M6 : Option (Unit × Mem))) fun k122 =>
(if ((M5.1 16 1) &&& r4) = 0 then
bd (X_Search_canMend n a4 r4 ((a2 - a1) - 1) M5) fun r7 M8 =>
(if r7 = 0 then
k122 M8
else
bd (X_Search_step n a1 v5 M8) fun r9 M10 =>
bd (self (a1 + 1) a2 (a3 ||| ((1 : Int32) <<< (v5 &&& 31))) M10) fun _ M12 =>
k122 M12)
else
k122 M5)))
    refine j_iload (pc := 56) (q := 5) d_Search_fit_56 rfl ?_
    refine j_aload_n (pc := 58) (q := 0) d_Search_fit_58 rfl rfl ?_
    refine j_getI (pc := 59) d_Search_fit_59 fl_Search_37 sx_26 (by decide) rfl ?_
    refine j_icmp_ge (pc := 62) (tgt := 128) d_Search_fit_62 (by decide) (fun _ => ?_) (fun _ => ?_)
    · exact j_return (pc := 128) d_Search_fit_128 rfl
    · refine j_iload (pc := 65) (q := 5) d_Search_fit_65 rfl ?_
      refine j_callS1 (pc := 67) d_Search_fit_67 (C_Search_bitsOf n v5 M) cS_Search_132 cd_Search_bitsOf dn_Search_bitsOf rfl (by show 2 + 1 ≤ 7 + (f + 1); omega) (Nat.le_of_ble_eq_true rfl) (Nat.le_of_ble_eq_true rfl) nr_I (fun r4 M5 => ?_)
      refine j_istore (pc := 70) d_Search_fit_70 (by show 6 < 7; decide) rfl ?_
      refine j_aload_n (pc := 72) (q := 1) d_Search_fit_72 rfl rfl ?_
      refine j_getA (pc := 73) d_Search_fit_73 fl_Search_27 sx_26 (by decide) rfl ?_
      refine j_getI (pc := 76) d_Search_fit_76 fl_Search_125 sx_16 (by decide) rfl ?_
      refine j_iload (pc := 79) (q := 0) d_Search_fit_79 rfl ?_
      refine j_iand (pc := 81) d_Search_fit_81 ?_
      refine j_nmk (fun k => ∀ (M6 : Mem), J (mt_Search_fit (f + 1)) wU 122 [(0, Value.ref 26), (1, Value.int a1), (2, Value.int a2), (3, Value.int a3), (4, Value.int a4), (5, Value.int v5)] [] M6 (k M6)) (fun M6 => ?_) (fun k122 hk122 => ?_)
      · refine j_iinc (pc := 122) (q := 5) d_Search_fit_122 rfl (congrArg (v5 + ·) k_i_1) (by show 5 < 7; decide) rfl ?_
        refine j_goto (pc := 125) (tgt := 56) d_Search_fit_125 (by decide) ?_
        refine j_lv [1, 2, 3, 4, 5, 0] rfl ?_
        exact ih (v5 + 1) M6
      · refine j_if_ne (pc := 82) (tgt := 122) d_Search_fit_82 (by decide) (fun _ => ?_) (fun _ => ?_)
        · refine j_lv [1, 2, 3, 4, 5, 6] rfl ?_
          exact hk122 M5
        · refine j_iload (pc := 85) (q := 5) d_Search_fit_85 rfl ?_
          refine j_iload (pc := 87) (q := 0) d_Search_fit_87 rfl ?_
          refine j_iload_n (pc := 89) (q := 3) d_Search_fit_89 rfl rfl ?_
          refine j_iload_n (pc := 90) (q := 2) d_Search_fit_90 rfl rfl ?_
          refine j_isub (pc := 91) d_Search_fit_91 ?_
          refine j_iconst (pc := 92) d_Search_fit_92 k_i_1 ?_
          refine j_isub (pc := 93) d_Search_fit_93 ?_
          refine j_callS3 (pc := 94) d_Search_fit_94 (C_Search_canMend n a4 r4 ((a2 - a1) - 1) M5) cS_Search_135 cd_Search_canMend dn_Search_canMend rfl (by show 3 + 1 ≤ 7 + (f + 1); omega) (Nat.le_of_ble_eq_true rfl) (Nat.le_of_ble_eq_true rfl) nr_I (fun r7 M8 => ?_)
          refine j_if_eq (pc := 97) (tgt := 122) d_Search_fit_97 (by decide) (fun _ => ?_) (fun _ => ?_)
          · refine j_lv [1, 2, 3, 4, 5, 6] rfl ?_
            exact hk122 M8
          · refine j_aload_n (pc := 100) (q := 1) d_Search_fit_100 rfl rfl ?_
            refine j_iload_n (pc := 101) (q := 2) d_Search_fit_101 rfl rfl ?_
            refine j_iload (pc := 102) (q := 6) d_Search_fit_102 rfl ?_
            refine j_callV2 (pc := 104) d_Search_fit_104 (C_Search_step n a1 v5 M8) cV_Search_139 cd_Search_step dn_Search_step rfl (by show 6 + 1 ≤ 7 + (f + 1); omega) (Nat.le_of_ble_eq_true rfl) (Nat.le_of_ble_eq_true rfl) nr_I sx_26 (by decide) rfl (fun r9 M10 => ?_)
            refine j_pop (pc := 107) d_Search_fit_107 rfl ?_
            refine j_aload_n (pc := 108) (q := 1) d_Search_fit_108 rfl rfl ?_
            refine j_iload_n (pc := 109) (q := 2) d_Search_fit_109 rfl rfl ?_
            refine j_iconst (pc := 110) d_Search_fit_110 k_i_1 ?_
            refine j_iadd (pc := 111) d_Search_fit_111 ?_
            refine j_iload_n (pc := 112) (q := 3) d_Search_fit_112 rfl rfl ?_
            refine j_iload_n (pc := 113) (q := 4) d_Search_fit_113 rfl rfl ?_
            refine j_iconst (pc := 114) d_Search_fit_114 k_i_1 ?_
            refine j_iload (pc := 115) (q := 6) d_Search_fit_115 rfl ?_
            refine j_ishl (pc := 117) d_Search_fit_117 ?_
            refine j_ior (pc := 118) d_Search_fit_118 ?_
            refine j_callS4 (pc := 119) d_Search_fit_119 (hself (a1 + 1) a2 (a3 ||| ((1 : Int32) <<< (v5 &&& 31))) M10) cS_Search_89 cd_Search_fit dn_Search_fit rfl (Nat.le_refl _) (Nat.le_of_ble_eq_true rfl) (Nat.le_of_ble_eq_true rfl) nr_U (fun r11 M12 => ?_)
            refine j_lv [1, 2, 3, 4, 5, 6] rfl ?_
            exact hk122 M12
set_option maxRecDepth 20000 in
set_option maxHeartbeats 4000000 in
theorem C_Search_fit (n : Nat) : ∀ (f : Nat) (p1 : Int32) (p2 : Int32) (p3 : Int32) (M : Mem), Ct y_Search_fit (mt_Search_fit f) wU [Value.ref 26, Value.int p1, Value.int p2, Value.int p3] M (X_Search_fit n f p1 p2 p3 M) := by
  intro f
  induction f with
  | zero => intro p1 p2 p3 M r M2 hF; cases hF
  | succ f ihf =>
    intro p1 p2 p3 M
    refine ct_of (by decide +kernel) rfl (Nat.le_of_ble_eq_true rfl) ?_
    show J _ _ _ [(0, Value.ref 26), (1, Value.int p1), (2, Value.int p2), (3, Value.int p3)] _ _ (gd p1 7 (
bd (X_Search_unlikeSeen n (([30, 31, 32, 33, 34, 35, 36] : List Nat).getD p1.toNatClampNeg 0) M) fun r2 M3 =>
(if p1 < p2 then
X_Search_fit_L56 n (X_Search_fit n f) p1 p2 p3 r2 n 0 M3
else
(if r2 = 0 then
nm (si M3 26 2 ((M3.1 26 2) + 1)) fun N13 =>
nm (si N13 26 3 ((N13.1 26 3) &&& p3)) fun N14 =>
some ((), si N14 26 4 ((N14.1 26 4) ||| p3))
else
some ((), M3)))))
    refine j_aload_n (pc := 0) (q := 0) d_Search_fit_0 rfl rfl ?_
    refine j_aload_n (pc := 1) (q := 0) d_Search_fit_1 rfl rfl ?_
    refine j_getA (pc := 2) d_Search_fit_2 fl_Search_20 sx_26 (by decide) rfl ?_
    refine j_iload_n (pc := 5) (q := 1) d_Search_fit_5 rfl rfl ?_
    refine j_aald2 (pc := 6) (ids := [30, 31, 32, 33, 34, 35, 36]) d_Search_fit_6 sx_29 (fun h1 => ?_)
    refine j_callV1 (pc := 7) d_Search_fit_7 (C_Search_unlikeSeen n (([30, 31, 32, 33, 34, 35, 36] : List Nat).getD p1.toNatClampNeg 0) (sh_level h1) M) cV_Search_143 cd_Search_unlikeSeen dn_Search_unlikeSeen rfl (by show 3 + 1 ≤ 7 + (f + 1); omega) (Nat.le_of_ble_eq_true rfl) (Nat.le_of_ble_eq_true rfl) nr_I sx_26 (by decide) rfl (fun r2 M3 => ?_)
    refine j_istore (pc := 10) d_Search_fit_10 (by show 4 < 7; decide) rfl ?_
    refine j_iload_n (pc := 12) (q := 2) d_Search_fit_12 rfl rfl ?_
    refine j_iload_n (pc := 13) (q := 3) d_Search_fit_13 rfl rfl ?_
    refine j_icmp_lt (pc := 14) (tgt := 53) d_Search_fit_14 (by decide) (fun _ => ?_) (fun _ => ?_)
    · refine j_iconst (pc := 53) d_Search_fit_53 k_i_0 ?_
      refine j_istore (pc := 54) d_Search_fit_54 (by show 5 < 7; decide) rfl ?_
      refine j_lv [2, 3, 4, 5, 1, 0] rfl ?_
      exact X_Search_fit_L56_ok ihf  n 0 M3
    · refine j_iload (pc := 17) (q := 0) d_Search_fit_17 rfl ?_
      refine j_if_ne (pc := 19) (tgt := 52) d_Search_fit_19 (by decide) (fun _ => ?_) (fun _ => ?_)
      · exact j_return (pc := 52) d_Search_fit_52 rfl
      · refine j_aload_n (pc := 22) (q := 1) d_Search_fit_22 rfl rfl ?_
        refine j_dup (pc := 23) d_Search_fit_23 rfl ?_
        refine j_getI (pc := 24) d_Search_fit_24 fl_Search_80 sx_26 (by decide) rfl ?_
        refine j_iconst (pc := 27) d_Search_fit_27 k_i_1 ?_
        refine j_iadd (pc := 28) d_Search_fit_28 ?_
        refine j_putI (pc := 29) d_Search_fit_29 fl_Search_80 rfl sx_26 (by decide) rfl ?_
        refine j_aload_n (pc := 32) (q := 1) d_Search_fit_32 rfl rfl ?_
        refine j_dup (pc := 33) d_Search_fit_33 rfl ?_
        refine j_nmM (fun N13 => ?_)
        refine j_getI (pc := 34) d_Search_fit_34 fl_Search_83 sx_26 (by decide) rfl ?_
        refine j_iload_n (pc := 37) (q := 4) d_Search_fit_37 rfl rfl ?_
        refine j_iand (pc := 38) d_Search_fit_38 ?_
        refine j_putI (pc := 39) d_Search_fit_39 fl_Search_83 rfl sx_26 (by decide) rfl ?_
        refine j_aload_n (pc := 42) (q := 1) d_Search_fit_42 rfl rfl ?_
        refine j_dup (pc := 43) d_Search_fit_43 rfl ?_
        refine j_nmM (fun N14 => ?_)
        refine j_getI (pc := 44) d_Search_fit_44 fl_Search_86 sx_26 (by decide) rfl ?_
        refine j_iload_n (pc := 47) (q := 4) d_Search_fit_47 rfl rfl ?_
        refine j_ior (pc := 48) d_Search_fit_48 ?_
        refine j_putI (pc := 49) d_Search_fit_49 fl_Search_86 rfl sx_26 (by decide) rfl ?_
        exact j_return (pc := 52) d_Search_fit_52 rfl
-- Search.countFits (I)V
def mt_Search_countFits : Mt := ("ShakeHands$Search", b_Search_countFits, 2, none, 20, SHx)
theorem d_Search_countFits_0 : decode b_Search_countFits 0 = .ok (.aload_n 0, 1) := by decide +kernel
theorem d_Search_countFits_1 : decode b_Search_countFits 1 = .ok (.iconst 0, 1) := by decide +kernel
theorem d_Search_countFits_2 : decode b_Search_countFits 2 = .ok (.putfield 80, 3) := by decide +kernel
theorem d_Search_countFits_5 : decode b_Search_countFits 5 = .ok (.aload_n 0, 1) := by decide +kernel
theorem d_Search_countFits_6 : decode b_Search_countFits 6 = .ok (.sipush 32767, 3) := by decide +kernel
theorem d_Search_countFits_9 : decode b_Search_countFits 9 = .ok (.putfield 83, 3) := by decide +kernel
theorem d_Search_countFits_12 : decode b_Search_countFits 12 = .ok (.aload_n 0, 1) := by decide +kernel
theorem d_Search_countFits_13 : decode b_Search_countFits 13 = .ok (.iconst 0, 1) := by decide +kernel
theorem d_Search_countFits_14 : decode b_Search_countFits 14 = .ok (.putfield 86, 3) := by decide +kernel
theorem d_Search_countFits_17 : decode b_Search_countFits 17 = .ok (.aload_n 0, 1) := by decide +kernel
theorem d_Search_countFits_18 : decode b_Search_countFits 18 = .ok (.iconst 0, 1) := by decide +kernel
theorem d_Search_countFits_19 : decode b_Search_countFits 19 = .ok (.iload_n 1, 1) := by decide +kernel
theorem d_Search_countFits_20 : decode b_Search_countFits 20 = .ok (.iconst 0, 1) := by decide +kernel
theorem d_Search_countFits_21 : decode b_Search_countFits 21 = .ok (.invokestatic 89, 3) := by decide +kernel
theorem d_Search_countFits_24 : decode b_Search_countFits 24 = .ok (.return_, 1) := by decide +kernel
def X_Search_countFits (n : Nat) (p1 : Int32) (M : Mem) : Option (Unit × Mem) :=
  nm (si (si (si M 26 2 0) 26 3 32767) 26 4 0) fun N1 =>
  bd (X_Search_fit n 12 0 p1 0 N1) fun _ M3 =>
  some ((), M3)
set_option maxRecDepth 20000 in
set_option maxHeartbeats 4000000 in
theorem C_Search_countFits (n : Nat)   (p1 : Int32) (M : Mem) : Ct y_Search_countFits mt_Search_countFits wU [Value.ref 26, Value.int p1] M (X_Search_countFits n p1 M) := by
  refine ct_of (by decide +kernel) rfl (Nat.le_of_ble_eq_true rfl) ?_
  show J _ _ _ [(0, Value.ref 26), (1, Value.int p1)] _ _ _
  unfold X_Search_countFits
  refine j_aload_n (pc := 0) (q := 0) d_Search_countFits_0 rfl rfl ?_
  refine j_iconst (pc := 1) d_Search_countFits_1 k_i_0 ?_
  refine j_putI (pc := 2) d_Search_countFits_2 fl_Search_80 rfl sx_26 (by decide) rfl ?_
  refine j_aload_n (pc := 5) (q := 0) d_Search_countFits_5 rfl rfl ?_
  refine j_sipush (pc := 6) d_Search_countFits_6 k_s_32767 ?_
  refine j_putI (pc := 9) d_Search_countFits_9 fl_Search_83 rfl sx_26 (by decide) rfl ?_
  refine j_aload_n (pc := 12) (q := 0) d_Search_countFits_12 rfl rfl ?_
  refine j_iconst (pc := 13) d_Search_countFits_13 k_i_0 ?_
  refine j_putI (pc := 14) d_Search_countFits_14 fl_Search_86 rfl sx_26 (by decide) rfl ?_
  refine j_aload_n (pc := 17) (q := 0) d_Search_countFits_17 rfl rfl ?_
  refine j_iconst (pc := 18) d_Search_countFits_18 k_i_0 ?_
  refine j_iload_n (pc := 19) (q := 1) d_Search_countFits_19 rfl rfl ?_
  refine j_iconst (pc := 20) d_Search_countFits_20 k_i_0 ?_
  refine j_nmM (fun N1 => ?_)
  refine j_callS4 (pc := 21) d_Search_countFits_21 (C_Search_fit n 12 0 p1 0 N1) cS_Search_89 cd_Search_fit dn_Search_fit rfl (by decide) (Nat.le_of_ble_eq_true rfl) (Nat.le_of_ble_eq_true rfl) nr_U (fun r2 M3 => ?_)
  exact j_return (pc := 24) d_Search_countFits_24 rfl
-- Search.sit (LShakeHands$Search;II)V
def mt_Search_sit (f : Nat) : Mt := ("ShakeHands$Search", b_Search_sit, 4, none, 7 + f, SHx)
theorem d_Search_sit_0 : decode b_Search_sit 0 = .ok (.iload_n 1, 1) := by decide +kernel
theorem d_Search_sit_1 : decode b_Search_sit 1 = .ok (.aload_n 0, 1) := by decide +kernel
theorem d_Search_sit_2 : decode b_Search_sit 2 = .ok (.getfield 23, 3) := by decide +kernel
theorem d_Search_sit_5 : decode b_Search_sit 5 = .ok (.getfield 31, 3) := by decide +kernel
theorem d_Search_sit_8 : decode b_Search_sit 8 = .ok (.if_icmp .lt 49, 3) := by decide +kernel
theorem d_Search_sit_11 : decode b_Search_sit 11 = .ok (.aload_n 0, 1) := by decide +kernel
theorem d_Search_sit_12 : decode b_Search_sit 12 = .ok (.aload_n 0, 1) := by decide +kernel
theorem d_Search_sit_13 : decode b_Search_sit 13 = .ok (.getfield 20, 3) := by decide +kernel
theorem d_Search_sit_16 : decode b_Search_sit 16 = .ok (.iload_n 1, 1) := by decide +kernel
theorem d_Search_sit_17 : decode b_Search_sit 17 = .ok (.aaload, 1) := by decide +kernel
theorem d_Search_sit_18 : decode b_Search_sit 18 = .ok (.invokevirtual 72, 3) := by decide +kernel
theorem d_Search_sit_21 : decode b_Search_sit 21 = .ok (.ifCond .ne 35, 3) := by decide +kernel
theorem d_Search_sit_24 : decode b_Search_sit 24 = .ok (.aload_n 0, 1) := by decide +kernel
theorem d_Search_sit_25 : decode b_Search_sit 25 = .ok (.getfield 80, 3) := by decide +kernel
theorem d_Search_sit_28 : decode b_Search_sit 28 = .ok (.ifCond .ne 18, 3) := by decide +kernel
theorem d_Search_sit_31 : decode b_Search_sit 31 = .ok (.aload_n 0, 1) := by decide +kernel
theorem d_Search_sit_32 : decode b_Search_sit 32 = .ok (.getfield 11, 3) := by decide +kernel
theorem d_Search_sit_35 : decode b_Search_sit 35 = .ok (.iconst 0, 1) := by decide +kernel
theorem d_Search_sit_36 : decode b_Search_sit 36 = .ok (.aload_n 0, 1) := by decide +kernel
theorem d_Search_sit_37 : decode b_Search_sit 37 = .ok (.getfield 15, 3) := by decide +kernel
theorem d_Search_sit_40 : decode b_Search_sit 40 = .ok (.iconst 0, 1) := by decide +kernel
theorem d_Search_sit_41 : decode b_Search_sit 41 = .ok (.bipush 6, 2) := by decide +kernel
theorem d_Search_sit_43 : decode b_Search_sit 43 = .ok (.invokestatic 46, 3) := by decide +kernel
theorem d_Search_sit_46 : decode b_Search_sit 46 = .ok (.aload_n 0, 1) := by decide +kernel
theorem d_Search_sit_47 : decode b_Search_sit 47 = .ok (.dup, 1) := by decide +kernel
theorem d_Search_sit_48 : decode b_Search_sit 48 = .ok (.getfield 80, 3) := by decide +kernel
theorem d_Search_sit_51 : decode b_Search_sit 51 = .ok (.iconst 1, 1) := by decide +kernel
theorem d_Search_sit_52 : decode b_Search_sit 52 = .ok (.iadd, 1) := by decide +kernel
theorem d_Search_sit_53 : decode b_Search_sit 53 = .ok (.putfield 80, 3) := by decide +kernel
theorem d_Search_sit_56 : decode b_Search_sit 56 = .ok (.return_, 1) := by decide +kernel
theorem d_Search_sit_57 : decode b_Search_sit 57 = .ok (.iconst 0, 1) := by decide +kernel
theorem d_Search_sit_58 : decode b_Search_sit 58 = .ok (.istore_n 3, 1) := by decide +kernel
theorem d_Search_sit_59 : decode b_Search_sit 59 = .ok (.iload_n 3, 1) := by decide +kernel
theorem d_Search_sit_60 : decode b_Search_sit 60 = .ok (.aload_n 0, 1) := by decide +kernel
theorem d_Search_sit_61 : decode b_Search_sit 61 = .ok (.getfield 23, 3) := by decide +kernel
theorem d_Search_sit_64 : decode b_Search_sit 64 = .ok (.getfield 31, 3) := by decide +kernel
theorem d_Search_sit_67 : decode b_Search_sit 67 = .ok (.if_icmp .ge 62, 3) := by decide +kernel
theorem d_Search_sit_70 : decode b_Search_sit 70 = .ok (.iload_n 2, 1) := by decide +kernel
theorem d_Search_sit_71 : decode b_Search_sit 71 = .ok (.iload_n 3, 1) := by decide +kernel
theorem d_Search_sit_72 : decode b_Search_sit 72 = .ok (.iushr, 1) := by decide +kernel
theorem d_Search_sit_73 : decode b_Search_sit 73 = .ok (.iconst 1, 1) := by decide +kernel
theorem d_Search_sit_74 : decode b_Search_sit 74 = .ok (.iand, 1) := by decide +kernel
theorem d_Search_sit_75 : decode b_Search_sit 75 = .ok (.ifCond .ne 48, 3) := by decide +kernel
theorem d_Search_sit_78 : decode b_Search_sit 78 = .ok (.aload_n 0, 1) := by decide +kernel
theorem d_Search_sit_79 : decode b_Search_sit 79 = .ok (.getfield 11, 3) := by decide +kernel
theorem d_Search_sit_82 : decode b_Search_sit 82 = .ok (.iload_n 1, 1) := by decide +kernel
theorem d_Search_sit_83 : decode b_Search_sit 83 = .ok (.iload_n 3, 1) := by decide +kernel
theorem d_Search_sit_84 : decode b_Search_sit 84 = .ok (.iastore, 1) := by decide +kernel
theorem d_Search_sit_85 : decode b_Search_sit 85 = .ok (.aload_n 0, 1) := by decide +kernel
theorem d_Search_sit_86 : decode b_Search_sit 86 = .ok (.iload_n 1, 1) := by decide +kernel
theorem d_Search_sit_87 : decode b_Search_sit 87 = .ok (.iload_n 1, 1) := by decide +kernel
theorem d_Search_sit_88 : decode b_Search_sit 88 = .ok (.ifCond .ne 7, 3) := by decide +kernel
theorem d_Search_sit_91 : decode b_Search_sit 91 = .ok (.iconst (-1), 1) := by decide +kernel
theorem d_Search_sit_92 : decode b_Search_sit 92 = .ok (.goto 15, 3) := by decide +kernel
theorem d_Search_sit_95 : decode b_Search_sit 95 = .ok (.aload_n 0, 1) := by decide +kernel
theorem d_Search_sit_96 : decode b_Search_sit 96 = .ok (.getfield 11, 3) := by decide +kernel
theorem d_Search_sit_99 : decode b_Search_sit 99 = .ok (.iload_n 1, 1) := by decide +kernel
theorem d_Search_sit_100 : decode b_Search_sit 100 = .ok (.iconst 1, 1) := by decide +kernel
theorem d_Search_sit_101 : decode b_Search_sit 101 = .ok (.isub, 1) := by decide +kernel
theorem d_Search_sit_102 : decode b_Search_sit 102 = .ok (.iaload, 1) := by decide +kernel
theorem d_Search_sit_103 : decode b_Search_sit 103 = .ok (.iload_n 3, 1) := by decide +kernel
theorem d_Search_sit_104 : decode b_Search_sit 104 = .ok (.invokestatic 146, 3) := by decide +kernel
theorem d_Search_sit_107 : decode b_Search_sit 107 = .ok (.invokevirtual 139, 3) := by decide +kernel
theorem d_Search_sit_110 : decode b_Search_sit 110 = .ok (.pop, 1) := by decide +kernel
theorem d_Search_sit_111 : decode b_Search_sit 111 = .ok (.aload_n 0, 1) := by decide +kernel
theorem d_Search_sit_112 : decode b_Search_sit 112 = .ok (.iload_n 1, 1) := by decide +kernel
theorem d_Search_sit_113 : decode b_Search_sit 113 = .ok (.iconst 1, 1) := by decide +kernel
theorem d_Search_sit_114 : decode b_Search_sit 114 = .ok (.iadd, 1) := by decide +kernel
theorem d_Search_sit_115 : decode b_Search_sit 115 = .ok (.iload_n 2, 1) := by decide +kernel
theorem d_Search_sit_116 : decode b_Search_sit 116 = .ok (.iconst 1, 1) := by decide +kernel
theorem d_Search_sit_117 : decode b_Search_sit 117 = .ok (.iload_n 3, 1) := by decide +kernel
theorem d_Search_sit_118 : decode b_Search_sit 118 = .ok (.ishl, 1) := by decide +kernel
theorem d_Search_sit_119 : decode b_Search_sit 119 = .ok (.ior, 1) := by decide +kernel
theorem d_Search_sit_120 : decode b_Search_sit 120 = .ok (.invokestatic 93, 3) := by decide +kernel
theorem d_Search_sit_123 : decode b_Search_sit 123 = .ok (.iinc 3 1, 3) := by decide +kernel
theorem d_Search_sit_126 : decode b_Search_sit 126 = .ok (.goto (-67), 3) := by decide +kernel
theorem d_Search_sit_129 : decode b_Search_sit 129 = .ok (.return_, 1) := by decide +kernel
def X_Search_sit_L59 (n : Nat) (self : Int32 → Int32 → Mem → Option (Unit × Mem)) (a1 : Int32) (a2 : Int32) : Nat → Int32 → Mem → Option (Unit × Mem)
    | 0, _, _ => none
    | m + 1, v3, M => (if (M.1 11 0) ≤ v3 then
    some ((), M)
    else
    nm (fun (M1 : Mem) => (X_Search_sit_L59 n self a1 a2 m (v3 + 1) M1 : Option (Unit × Mem))) fun k123 =>
    (if (((a2.toUInt32 >>> (v3.toUInt32 &&& Int32.toUInt32 31)).toInt32) &&& 1) = 0 then
      gd a1 6 (
        nm (fun (u2 : Int32) (M3 : Mem) => (bd (X_Search_step n a1 u2 M3) fun r4 M5 =>
            bd (self (a1 + 1) (a2 ||| ((1 : Int32) <<< (v3 &&& 31))) M5) fun _ M7 =>
            k123 M7 : Option (Unit × Mem))) fun k107 =>
        (if a1 = 0 then
          k107 (-1) (si M 27 (a1.toNatClampNeg) v3)
          else
          nm (si M 27 (a1.toNatClampNeg) v3) fun N8 =>
          gd (a1 - 1) 6 (
            bd (X_ShakeHands_pairOf n (N8.1 27 (a1 - 1).toNatClampNeg) v3 N8) fun r9 M10 =>
            k107 r9 M10)))
      else
      k123 M))
def X_Search_sit (n : Nat) : Nat → Int32 → Int32 → Mem → Option (Unit × Mem)
    | 0, _, _, _ => none
    | f + 1, p1, p2, M => (if p1 < (M.1 11 0) then
    X_Search_sit_L59 n (X_Search_sit n f) p1 p2 n 0 M
    else
    gd p1 7 (
      bd (X_Search_amiss n (([30, 31, 32, 33, 34, 35, 36] : List Nat).getD p1.toNatClampNeg 0) M) fun r12 M13 =>
      (if r12 = 0 then
        nm (fun (M14 : Mem) => (some ((), si M14 26 2 ((M14.1 26 2) + 1)) : Option (Unit × Mem))) fun k46 =>
        (if (M13.1 26 2) = 0 then
          gc (0 : Int32) (0 : Int32) (6 : Int32) 6 6 (
            k46 (cpI M13 27 ((0 : Int32).toNatClampNeg) 28 ((0 : Int32).toNatClampNeg) ((6 : Int32).toNatClampNeg)))
          else
          k46 M13)
        else
        some ((), M13))))
set_option maxRecDepth 20000 in
set_option maxHeartbeats 4000000 in
theorem X_Search_sit_L59_ok {n : Nat} {f : Nat} {self : Int32 → Int32 → Mem → Option (Unit × Mem)} {a1 : Int32} {a2 : Int32} (hself : ∀ (q0 : Int32) (q1 : Int32) (M : Mem), Ct y_Search_sit (mt_Search_sit f) wU [Value.ref 26, Value.int q0, Value.int q1] M (self q0 q1 M)) : ∀ (m : Nat) (v3 : Int32) (M : Mem), J (mt_Search_sit (f + 1)) wU 59 [(0, Value.ref 26), (1, Value.int a1), (2, Value.int a2), (3, Value.int v3)] [] M (X_Search_sit_L59 n self a1 a2 m v3 M) := by
  intro m
  induction m with
  | zero => intro _ _; exact j_none
  | succ m ih =>
    intro v3 M
    show J _ _ _ _ _ _ ((if (M.1 11 0) ≤ v3 then
some ((), M)
else
nm (fun (M1 : Mem) => (X_Search_sit_L59 n self a1 a2 m (v3 + 1) M1 : Option (Unit × Mem))) fun k123 =>
(if (((a2.toUInt32 >>> (v3.toUInt32 &&& Int32.toUInt32 31)).toInt32) &&& 1) = 0 then
gd a1 6 (
nm (fun (u2 : Int32) (M3 : Mem) => (bd (X_Search_step n a1 u2 M3) fun r4 M5 =>
bd (self (a1 + 1) (a2 ||| ((1 : Int32) <<< (v3 &&& 31))) M5) fun _ M7 =>
k123 M7 : Option (Unit × Mem))) fun k107 =>
(if a1 = 0 then
k107 (-1) (si M 27 (a1.toNatClampNeg) v3)
else
nm (si M 27 (a1.toNatClampNeg) v3) fun N8 =>
gd (a1 - 1) 6 (
bd (X_ShakeHands_pairOf n (N8.1 27 (a1 - 1).toNatClampNeg) v3 N8) fun r9 M10 =>
k107 r9 M10)))
else
k123 M)))
    refine j_iload_n (pc := 59) (q := 3) d_Search_sit_59 rfl rfl ?_
    refine j_aload_n (pc := 60) (q := 0) d_Search_sit_60 rfl rfl ?_
    refine j_getA (pc := 61) d_Search_sit_61 fl_Search_23 sx_26 (by decide) rfl ?_
    refine j_getI (pc := 64) d_Search_sit_64 fl_Search_31 sx_11 (by decide) rfl ?_
    refine j_icmp_ge (pc := 67) (tgt := 129) d_Search_sit_67 (by decide) (fun _ => ?_) (fun _ => ?_)
    · exact j_return (pc := 129) d_Search_sit_129 rfl
    · refine j_iload_n (pc := 70) (q := 2) d_Search_sit_70 rfl rfl ?_
      refine j_iload_n (pc := 71) (q := 3) d_Search_sit_71 rfl rfl ?_
      refine j_iushr (pc := 72) d_Search_sit_72 ?_
      refine j_iconst (pc := 73) d_Search_sit_73 k_i_1 ?_
      refine j_iand (pc := 74) d_Search_sit_74 ?_
      refine j_nmk (fun k => ∀ (M1 : Mem), J (mt_Search_sit (f + 1)) wU 123 [(0, Value.ref 26), (1, Value.int a1), (2, Value.int a2), (3, Value.int v3)] [] M1 (k M1)) (fun M1 => ?_) (fun k123 hk123 => ?_)
      · refine j_iinc (pc := 123) (q := 3) d_Search_sit_123 rfl (congrArg (v3 + ·) k_i_1) (by show 3 < 4; decide) rfl ?_
        refine j_goto (pc := 126) (tgt := 59) d_Search_sit_126 (by decide) ?_
        refine j_lv [1, 2, 3, 0] rfl ?_
        exact ih (v3 + 1) M1
      · refine j_if_ne (pc := 75) (tgt := 123) d_Search_sit_75 (by decide) (fun _ => ?_) (fun _ => ?_)
        · exact hk123 M
        · refine j_aload_n (pc := 78) (q := 0) d_Search_sit_78 rfl rfl ?_
          refine j_getA (pc := 79) d_Search_sit_79 fl_Search_11 sx_26 (by decide) rfl ?_
          refine j_iload_n (pc := 82) (q := 1) d_Search_sit_82 rfl rfl ?_
          refine j_iload_n (pc := 83) (q := 3) d_Search_sit_83 rfl rfl ?_
          refine j_iast (pc := 84) d_Search_sit_84 sx_27 (fun _ => ?_)
          refine j_aload_n (pc := 85) (q := 0) d_Search_sit_85 rfl rfl ?_
          refine j_iload_n (pc := 86) (q := 1) d_Search_sit_86 rfl rfl ?_
          refine j_iload_n (pc := 87) (q := 1) d_Search_sit_87 rfl rfl ?_
          refine j_nmk (fun k => ∀ (u2 : Int32) (M3 : Mem), J (mt_Search_sit (f + 1)) wU 107 [(0, Value.ref 26), (1, Value.int a1), (2, Value.int a2), (3, Value.int v3)] [Value.int u2, Value.int a1, Value.ref 26] M3 (k u2 M3)) (fun u2 M3 => ?_) (fun k107 hk107 => ?_)
          · refine j_callV2 (pc := 107) d_Search_sit_107 (C_Search_step n a1 u2 M3) cV_Search_139 cd_Search_step dn_Search_step rfl (by show 6 + 1 ≤ 7 + (f + 1); omega) (Nat.le_of_ble_eq_true rfl) (Nat.le_of_ble_eq_true rfl) nr_I sx_26 (by decide) rfl (fun r4 M5 => ?_)
            refine j_pop (pc := 110) d_Search_sit_110 rfl ?_
            refine j_aload_n (pc := 111) (q := 0) d_Search_sit_111 rfl rfl ?_
            refine j_iload_n (pc := 112) (q := 1) d_Search_sit_112 rfl rfl ?_
            refine j_iconst (pc := 113) d_Search_sit_113 k_i_1 ?_
            refine j_iadd (pc := 114) d_Search_sit_114 ?_
            refine j_iload_n (pc := 115) (q := 2) d_Search_sit_115 rfl rfl ?_
            refine j_iconst (pc := 116) d_Search_sit_116 k_i_1 ?_
            refine j_iload_n (pc := 117) (q := 3) d_Search_sit_117 rfl rfl ?_
            refine j_ishl (pc := 118) d_Search_sit_118 ?_
            refine j_ior (pc := 119) d_Search_sit_119 ?_
            refine j_callS3 (pc := 120) d_Search_sit_120 (hself (a1 + 1) (a2 ||| ((1 : Int32) <<< (v3 &&& 31))) M5) cS_Search_93 cd_Search_sit dn_Search_sit rfl (Nat.le_refl _) (Nat.le_of_ble_eq_true rfl) (Nat.le_of_ble_eq_true rfl) nr_U (fun r6 M7 => ?_)
            exact hk123 M7
          · refine j_if_ne (pc := 88) (tgt := 95) d_Search_sit_88 (by decide) (fun _ => ?_) (fun _ => ?_)
            · refine j_aload_n (pc := 95) (q := 0) d_Search_sit_95 rfl rfl ?_
              refine j_getA (pc := 96) d_Search_sit_96 fl_Search_11 sx_26 (by decide) rfl ?_
              refine j_iload_n (pc := 99) (q := 1) d_Search_sit_99 rfl rfl ?_
              refine j_iconst (pc := 100) d_Search_sit_100 k_i_1 ?_
              refine j_isub (pc := 101) d_Search_sit_101 ?_
              refine j_nmM (fun N8 => ?_)
              refine j_iald (pc := 102) d_Search_sit_102 sx_27 (fun _ => ?_)
              refine j_iload_n (pc := 103) (q := 3) d_Search_sit_103 rfl rfl ?_
              refine j_callSN2 (pc := 104) d_Search_sit_104 (C_ShakeHands_pairOf n (N8.1 27 (a1 - 1).toNatClampNeg) v3 N8) cSN_Search_146 cd_ShakeHands_pairOf dn_ShakeHands_pairOf rfl (by show 2 + 1 ≤ 7 + (f + 1); omega) (Nat.le_of_ble_eq_true rfl) (Nat.le_of_ble_eq_true rfl) nr_I (fun r9 M10 => ?_)
              exact hk107 r9 M10
            · refine j_iconst (pc := 91) d_Search_sit_91 k_i_m1 ?_
              refine j_goto (pc := 92) (tgt := 107) d_Search_sit_92 (by decide) ?_
              exact hk107 (-1) (si M 27 (a1.toNatClampNeg) v3)
set_option maxRecDepth 20000 in
set_option maxHeartbeats 4000000 in
theorem C_Search_sit (n : Nat) : ∀ (f : Nat) (p1 : Int32) (p2 : Int32) (M : Mem), Ct y_Search_sit (mt_Search_sit f) wU [Value.ref 26, Value.int p1, Value.int p2] M (X_Search_sit n f p1 p2 M) := by
  intro f
  induction f with
  | zero => intro p1 p2 M r M2 hF; cases hF
  | succ f ihf =>
    intro p1 p2 M
    refine ct_of (by decide +kernel) rfl (Nat.le_of_ble_eq_true rfl) ?_
    show J _ _ _ [(0, Value.ref 26), (1, Value.int p1), (2, Value.int p2)] _ _ ((if p1 < (M.1 11 0) then
X_Search_sit_L59 n (X_Search_sit n f) p1 p2 n 0 M
else
gd p1 7 (
bd (X_Search_amiss n (([30, 31, 32, 33, 34, 35, 36] : List Nat).getD p1.toNatClampNeg 0) M) fun r12 M13 =>
(if r12 = 0 then
nm (fun (M14 : Mem) => (some ((), si M14 26 2 ((M14.1 26 2) + 1)) : Option (Unit × Mem))) fun k46 =>
(if (M13.1 26 2) = 0 then
gc (0 : Int32) (0 : Int32) (6 : Int32) 6 6 (
k46 (cpI M13 27 ((0 : Int32).toNatClampNeg) 28 ((0 : Int32).toNatClampNeg) ((6 : Int32).toNatClampNeg)))
else
k46 M13)
else
some ((), M13)))))
    refine j_iload_n (pc := 0) (q := 1) d_Search_sit_0 rfl rfl ?_
    refine j_aload_n (pc := 1) (q := 0) d_Search_sit_1 rfl rfl ?_
    refine j_getA (pc := 2) d_Search_sit_2 fl_Search_23 sx_26 (by decide) rfl ?_
    refine j_getI (pc := 5) d_Search_sit_5 fl_Search_31 sx_11 (by decide) rfl ?_
    refine j_icmp_lt (pc := 8) (tgt := 57) d_Search_sit_8 (by decide) (fun _ => ?_) (fun _ => ?_)
    · refine j_iconst (pc := 57) d_Search_sit_57 k_i_0 ?_
      refine j_istore_n (pc := 58) d_Search_sit_58 rfl (by show 3 < 4; decide) rfl ?_
      refine j_lv [1, 2, 3, 0] rfl ?_
      exact X_Search_sit_L59_ok ihf  n 0 M
    · refine j_aload_n (pc := 11) (q := 0) d_Search_sit_11 rfl rfl ?_
      refine j_aload_n (pc := 12) (q := 0) d_Search_sit_12 rfl rfl ?_
      refine j_getA (pc := 13) d_Search_sit_13 fl_Search_20 sx_26 (by decide) rfl ?_
      refine j_iload_n (pc := 16) (q := 1) d_Search_sit_16 rfl rfl ?_
      refine j_aald2 (pc := 17) (ids := [30, 31, 32, 33, 34, 35, 36]) d_Search_sit_17 sx_29 (fun h11 => ?_)
      refine j_callV1 (pc := 18) d_Search_sit_18 (C_Search_amiss n (([30, 31, 32, 33, 34, 35, 36] : List Nat).getD p1.toNatClampNeg 0) (sh_level h11) M) cV_Search_72 cd_Search_amiss dn_Search_amiss rfl (by show 3 + 1 ≤ 7 + (f + 1); omega) (Nat.le_of_ble_eq_true rfl) (Nat.le_of_ble_eq_true rfl) nr_I sx_26 (by decide) rfl (fun r12 M13 => ?_)
      refine j_if_ne (pc := 21) (tgt := 56) d_Search_sit_21 (by decide) (fun _ => ?_) (fun _ => ?_)
      · exact j_return (pc := 56) d_Search_sit_56 rfl
      · refine j_aload_n (pc := 24) (q := 0) d_Search_sit_24 rfl rfl ?_
        refine j_getI (pc := 25) d_Search_sit_25 fl_Search_80 sx_26 (by decide) rfl ?_
        refine j_nmk (fun k => ∀ (M14 : Mem), J (mt_Search_sit (f + 1)) wU 46 [(0, Value.ref 26)] [] M14 (k M14)) (fun M14 => ?_) (fun k46 hk46 => ?_)
        · refine j_aload_n (pc := 46) (q := 0) d_Search_sit_46 rfl rfl ?_
          refine j_dup (pc := 47) d_Search_sit_47 rfl ?_
          refine j_getI (pc := 48) d_Search_sit_48 fl_Search_80 sx_26 (by decide) rfl ?_
          refine j_iconst (pc := 51) d_Search_sit_51 k_i_1 ?_
          refine j_iadd (pc := 52) d_Search_sit_52 ?_
          refine j_putI (pc := 53) d_Search_sit_53 fl_Search_80 rfl sx_26 (by decide) rfl ?_
          exact j_return (pc := 56) d_Search_sit_56 rfl
        · refine j_if_ne (pc := 28) (tgt := 46) d_Search_sit_28 (by decide) (fun _ => ?_) (fun _ => ?_)
          · refine j_lv [0] rfl ?_
            exact hk46 M13
          · refine j_aload_n (pc := 31) (q := 0) d_Search_sit_31 rfl rfl ?_
            refine j_getA (pc := 32) d_Search_sit_32 fl_Search_11 sx_26 (by decide) rfl ?_
            refine j_iconst (pc := 35) d_Search_sit_35 k_i_0 ?_
            refine j_aload_n (pc := 36) (q := 0) d_Search_sit_36 rfl rfl ?_
            refine j_getA (pc := 37) d_Search_sit_37 fl_Search_15 sx_26 (by decide) rfl ?_
            refine j_iconst (pc := 40) d_Search_sit_40 k_i_0 ?_
            refine j_bipush (pc := 41) d_Search_sit_41 k_b_6 ?_
            refine j_copyI (pc := 43) d_Search_sit_43 cw_Search_46 cw_nat cw_st sx_27 sx_28 (by show 1 ≤ 7 + (f + 1); omega) (Nat.le_of_ble_eq_true rfl) ?_
            refine j_lv [0] rfl ?_
            exact hk46 (cpI M13 27 ((0 : Int32).toNatClampNeg) 28 ((0 : Int32).toNatClampNeg) ((6 : Int32).toNatClampNeg))
-- Search.countSeats ()V
def mt_Search_countSeats : Mt := ("ShakeHands$Search", b_Search_countSeats, 1, none, 20, SHx)
theorem d_Search_countSeats_0 : decode b_Search_countSeats 0 = .ok (.aload_n 0, 1) := by decide +kernel
theorem d_Search_countSeats_1 : decode b_Search_countSeats 1 = .ok (.iconst 0, 1) := by decide +kernel
theorem d_Search_countSeats_2 : decode b_Search_countSeats 2 = .ok (.putfield 80, 3) := by decide +kernel
theorem d_Search_countSeats_5 : decode b_Search_countSeats 5 = .ok (.aload_n 0, 1) := by decide +kernel
theorem d_Search_countSeats_6 : decode b_Search_countSeats 6 = .ok (.iconst 0, 1) := by decide +kernel
theorem d_Search_countSeats_7 : decode b_Search_countSeats 7 = .ok (.iconst 0, 1) := by decide +kernel
theorem d_Search_countSeats_8 : decode b_Search_countSeats 8 = .ok (.invokestatic 93, 3) := by decide +kernel
theorem d_Search_countSeats_11 : decode b_Search_countSeats 11 = .ok (.return_, 1) := by decide +kernel
def X_Search_countSeats (n : Nat) (M : Mem) : Option (Unit × Mem) :=
  nm (si M 26 2 0) fun N1 =>
  bd (X_Search_sit n 12 0 0 N1) fun _ M3 =>
  some ((), M3)
set_option maxRecDepth 20000 in
set_option maxHeartbeats 4000000 in
theorem C_Search_countSeats (n : Nat)    (M : Mem) : Ct y_Search_countSeats mt_Search_countSeats wU [Value.ref 26] M (X_Search_countSeats n M) := by
  refine ct_of (by decide +kernel) rfl (Nat.le_of_ble_eq_true rfl) ?_
  show J _ _ _ [(0, Value.ref 26)] _ _ _
  unfold X_Search_countSeats
  refine j_aload_n (pc := 0) (q := 0) d_Search_countSeats_0 rfl rfl ?_
  refine j_iconst (pc := 1) d_Search_countSeats_1 k_i_0 ?_
  refine j_putI (pc := 2) d_Search_countSeats_2 fl_Search_80 rfl sx_26 (by decide) rfl ?_
  refine j_aload_n (pc := 5) (q := 0) d_Search_countSeats_5 rfl rfl ?_
  refine j_iconst (pc := 6) d_Search_countSeats_6 k_i_0 ?_
  refine j_iconst (pc := 7) d_Search_countSeats_7 k_i_0 ?_
  refine j_nmM (fun N1 => ?_)
  refine j_callS3 (pc := 8) d_Search_countSeats_8 (C_Search_sit n 12 0 0 N1) cS_Search_93 cd_Search_sit dn_Search_sit rfl (by decide) (Nat.le_of_ble_eq_true rfl) (Nat.le_of_ble_eq_true rfl) nr_U (fun r2 M3 => ?_)
  exact j_return (pc := 11) d_Search_countSeats_11 rfl
end

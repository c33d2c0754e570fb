-- Circle.beAsAtFirst ()V
def mt_Circle_beAsAtFirst : Mt := ("ShakeHands$Circle", b_Circle_beAsAtFirst, 1, none, 2, SHx)
theorem d_Circle_beAsAtFirst_0 : decode b_Circle_beAsAtFirst 0 = .ok (.aload_n 0, 1) := by decide +kernel
theorem d_Circle_beAsAtFirst_1 : decode b_Circle_beAsAtFirst 1 = .ok (.iconst 3, 1) := by decide +kernel
theorem d_Circle_beAsAtFirst_2 : decode b_Circle_beAsAtFirst 2 = .ok (.putfield 13, 3) := by decide +kernel
theorem d_Circle_beAsAtFirst_5 : decode b_Circle_beAsAtFirst 5 = .ok (.aload_n 0, 1) := by decide +kernel
theorem d_Circle_beAsAtFirst_6 : decode b_Circle_beAsAtFirst 6 = .ok (.bipush 9, 2) := by decide +kernel
theorem d_Circle_beAsAtFirst_8 : decode b_Circle_beAsAtFirst 8 = .ok (.putfield 17, 3) := by decide +kernel
theorem d_Circle_beAsAtFirst_11 : decode b_Circle_beAsAtFirst 11 = .ok (.aload_n 0, 1) := by decide +kernel
theorem d_Circle_beAsAtFirst_12 : decode b_Circle_beAsAtFirst 12 = .ok (.iconst 0, 1) := by decide +kernel
theorem d_Circle_beAsAtFirst_13 : decode b_Circle_beAsAtFirst 13 = .ok (.putfield 35, 3) := by decide +kernel
theorem d_Circle_beAsAtFirst_16 : decode b_Circle_beAsAtFirst 16 = .ok (.aload_n 0, 1) := by decide +kernel
theorem d_Circle_beAsAtFirst_17 : decode b_Circle_beAsAtFirst 17 = .ok (.iconst 0, 1) := by decide +kernel
theorem d_Circle_beAsAtFirst_18 : decode b_Circle_beAsAtFirst 18 = .ok (.putfield 38, 3) := by decide +kernel
theorem d_Circle_beAsAtFirst_21 : decode b_Circle_beAsAtFirst 21 = .ok (.aload_n 0, 1) := by decide +kernel
theorem d_Circle_beAsAtFirst_22 : decode b_Circle_beAsAtFirst 22 = .ok (.iconst 0, 1) := by decide +kernel
theorem d_Circle_beAsAtFirst_23 : decode b_Circle_beAsAtFirst 23 = .ok (.putfield 41, 3) := by decide +kernel
theorem d_Circle_beAsAtFirst_26 : decode b_Circle_beAsAtFirst 26 = .ok (.return_, 1) := by decide +kernel
def X_Circle_beAsAtFirst (n : Nat) (M : Mem) : Option (Unit × Mem) :=
  some ((), si (si (si (si (si M 4 0 3) 4 1 9) 4 3 0) 4 5 0) 4 7 0)
set_option maxRecDepth 20000 in
set_option maxHeartbeats 4000000 in
theorem C_Circle_beAsAtFirst (n : Nat)    (M : Mem) : Ct y_Circle_beAsAtFirst mt_Circle_beAsAtFirst wU [Value.ref 4] M (X_Circle_beAsAtFirst n M) := by
  refine ct_of (by decide +kernel) rfl (Nat.le_of_ble_eq_true rfl) ?_
  show J _ _ _ [(0, Value.ref 4)] _ _ _
  unfold X_Circle_beAsAtFirst
  refine j_aload_n (pc := 0) (q := 0) d_Circle_beAsAtFirst_0 rfl rfl ?_
  refine j_iconst (pc := 1) d_Circle_beAsAtFirst_1 k_i_3 ?_
  refine j_putI (pc := 2) d_Circle_beAsAtFirst_2 fl_Circle_13 rfl sx_4 (by decide) rfl ?_
  refine j_aload_n (pc := 5) (q := 0) d_Circle_beAsAtFirst_5 rfl rfl ?_
  refine j_bipush (pc := 6) d_Circle_beAsAtFirst_6 k_b_9 ?_
  refine j_putI (pc := 8) d_Circle_beAsAtFirst_8 fl_Circle_17 rfl sx_4 (by decide) rfl ?_
  refine j_aload_n (pc := 11) (q := 0) d_Circle_beAsAtFirst_11 rfl rfl ?_
  refine j_iconst (pc := 12) d_Circle_beAsAtFirst_12 k_i_0 ?_
  refine j_putI (pc := 13) d_Circle_beAsAtFirst_13 fl_Circle_35 rfl sx_4 (by decide) rfl ?_
  refine j_aload_n (pc := 16) (q := 0) d_Circle_beAsAtFirst_16 rfl rfl ?_
  refine j_iconst (pc := 17) d_Circle_beAsAtFirst_17 k_i_0 ?_
  refine j_putI (pc := 18) d_Circle_beAsAtFirst_18 fl_Circle_38 rfl sx_4 (by decide) rfl ?_
  refine j_aload_n (pc := 21) (q := 0) d_Circle_beAsAtFirst_21 rfl rfl ?_
  refine j_iconst (pc := 22) d_Circle_beAsAtFirst_22 k_i_0 ?_
  refine j_putI (pc := 23) d_Circle_beAsAtFirst_23 fl_Circle_41 rfl sx_4 (by decide) rfl ?_
  exact j_return (pc := 26) d_Circle_beAsAtFirst_26 rfl
-- Circle.copy (LShakeHands$Circle;)V
def mt_Circle_copy : Mt := ("ShakeHands$Circle", b_Circle_copy, 2, none, 2, SHx)
theorem d_Circle_copy_0 : decode b_Circle_copy 0 = .ok (.aload_n 0, 1) := by decide +kernel
theorem d_Circle_copy_1 : decode b_Circle_copy 1 = .ok (.aload_n 1, 1) := by decide +kernel
theorem d_Circle_copy_2 : decode b_Circle_copy 2 = .ok (.getfield 13, 3) := by decide +kernel
theorem d_Circle_copy_5 : decode b_Circle_copy 5 = .ok (.putfield 13, 3) := by decide +kernel
theorem d_Circle_copy_8 : decode b_Circle_copy 8 = .ok (.aload_n 0, 1) := by decide +kernel
theorem d_Circle_copy_9 : decode b_Circle_copy 9 = .ok (.aload_n 1, 1) := by decide +kernel
theorem d_Circle_copy_10 : decode b_Circle_copy 10 = .ok (.getfield 17, 3) := by decide +kernel
theorem d_Circle_copy_13 : decode b_Circle_copy 13 = .ok (.putfield 17, 3) := by decide +kernel
theorem d_Circle_copy_16 : decode b_Circle_copy 16 = .ok (.aload_n 0, 1) := by decide +kernel
theorem d_Circle_copy_17 : decode b_Circle_copy 17 = .ok (.aload_n 1, 1) := by decide +kernel
theorem d_Circle_copy_18 : decode b_Circle_copy 18 = .ok (.getfield 35, 3) := by decide +kernel
theorem d_Circle_copy_21 : decode b_Circle_copy 21 = .ok (.putfield 35, 3) := by decide +kernel
theorem d_Circle_copy_24 : decode b_Circle_copy 24 = .ok (.aload_n 0, 1) := by decide +kernel
theorem d_Circle_copy_25 : decode b_Circle_copy 25 = .ok (.aload_n 1, 1) := by decide +kernel
theorem d_Circle_copy_26 : decode b_Circle_copy 26 = .ok (.getfield 38, 3) := by decide +kernel
theorem d_Circle_copy_29 : decode b_Circle_copy 29 = .ok (.putfield 38, 3) := by decide +kernel
theorem d_Circle_copy_32 : decode b_Circle_copy 32 = .ok (.aload_n 0, 1) := by decide +kernel
theorem d_Circle_copy_33 : decode b_Circle_copy 33 = .ok (.aload_n 1, 1) := by decide +kernel
theorem d_Circle_copy_34 : decode b_Circle_copy 34 = .ok (.getfield 41, 3) := by decide +kernel
theorem d_Circle_copy_37 : decode b_Circle_copy 37 = .ok (.putfield 41, 3) := by decide +kernel
theorem d_Circle_copy_40 : decode b_Circle_copy 40 = .ok (.aload_n 1, 1) := by decide +kernel
theorem d_Circle_copy_41 : decode b_Circle_copy 41 = .ok (.getfield 20, 3) := by decide +kernel
theorem d_Circle_copy_44 : decode b_Circle_copy 44 = .ok (.iconst 0, 1) := by decide +kernel
theorem d_Circle_copy_45 : decode b_Circle_copy 45 = .ok (.aload_n 0, 1) := by decide +kernel
theorem d_Circle_copy_46 : decode b_Circle_copy 46 = .ok (.getfield 20, 3) := by decide +kernel
theorem d_Circle_copy_49 : decode b_Circle_copy 49 = .ok (.iconst 0, 1) := by decide +kernel
theorem d_Circle_copy_50 : decode b_Circle_copy 50 = .ok (.bipush 12, 2) := by decide +kernel
theorem d_Circle_copy_52 : decode b_Circle_copy 52 = .ok (.invokestatic 44, 3) := by decide +kernel
theorem d_Circle_copy_55 : decode b_Circle_copy 55 = .ok (.aload_n 1, 1) := by decide +kernel
theorem d_Circle_copy_56 : decode b_Circle_copy 56 = .ok (.getfield 24, 3) := by decide +kernel
theorem d_Circle_copy_59 : decode b_Circle_copy 59 = .ok (.iconst 0, 1) := by decide +kernel
theorem d_Circle_copy_60 : decode b_Circle_copy 60 = .ok (.aload_n 0, 1) := by decide +kernel
theorem d_Circle_copy_61 : decode b_Circle_copy 61 = .ok (.getfield 24, 3) := by decide +kernel
theorem d_Circle_copy_64 : decode b_Circle_copy 64 = .ok (.iconst 0, 1) := by decide +kernel
theorem d_Circle_copy_65 : decode b_Circle_copy 65 = .ok (.bipush 16, 2) := by decide +kernel
theorem d_Circle_copy_67 : decode b_Circle_copy 67 = .ok (.invokestatic 44, 3) := by decide +kernel
theorem d_Circle_copy_70 : decode b_Circle_copy 70 = .ok (.aload_n 1, 1) := by decide +kernel
theorem d_Circle_copy_71 : decode b_Circle_copy 71 = .ok (.getfield 27, 3) := by decide +kernel
theorem d_Circle_copy_74 : decode b_Circle_copy 74 = .ok (.iconst 0, 1) := by decide +kernel
theorem d_Circle_copy_75 : decode b_Circle_copy 75 = .ok (.aload_n 0, 1) := by decide +kernel
theorem d_Circle_copy_76 : decode b_Circle_copy 76 = .ok (.getfield 27, 3) := by decide +kernel
theorem d_Circle_copy_79 : decode b_Circle_copy 79 = .ok (.iconst 0, 1) := by decide +kernel
theorem d_Circle_copy_80 : decode b_Circle_copy 80 = .ok (.bipush 8, 2) := by decide +kernel
theorem d_Circle_copy_82 : decode b_Circle_copy 82 = .ok (.invokestatic 44, 3) := by decide +kernel
theorem d_Circle_copy_85 : decode b_Circle_copy 85 = .ok (.return_, 1) := by decide +kernel
def X_Circle_copy (n : Nat) (M : Mem) : Option (Unit × Mem) :=
  nm (si M 11 0 (M.1 4 0)) fun N1 =>
  nm (si N1 11 1 (N1.1 4 1)) fun N2 =>
  nm (si N2 11 3 (N2.1 4 3)) fun N3 =>
  nm (si N3 11 5 (N3.1 4 5)) fun N4 =>
  nm (si N4 11 7 (N4.1 4 7)) fun N5 =>
  gc (0 : Int32) (0 : Int32) (12 : Int32) 12 12 (
    nm (cpI N5 5 ((0 : Int32).toNatClampNeg) 12 ((0 : Int32).toNatClampNeg) ((12 : Int32).toNatClampNeg)) fun N6 =>
    gc (0 : Int32) (0 : Int32) (16 : Int32) 16 16 (
      nm (cpI N6 6 ((0 : Int32).toNatClampNeg) 13 ((0 : Int32).toNatClampNeg) ((16 : Int32).toNatClampNeg)) fun N7 =>
      gc (0 : Int32) (0 : Int32) (8 : Int32) 8 8 (
        some ((), cpI N7 7 ((0 : Int32).toNatClampNeg) 14 ((0 : Int32).toNatClampNeg) ((8 : Int32).toNatClampNeg)))))
set_option maxRecDepth 20000 in
set_option maxHeartbeats 4000000 in
theorem C_Circle_copy (n : Nat)    (M : Mem) : Ct y_Circle_copy mt_Circle_copy wU [Value.ref 11, Value.ref 4] M (X_Circle_copy n M) := by
  refine ct_of (by decide +kernel) rfl (Nat.le_of_ble_eq_true rfl) ?_
  show J _ _ _ [(0, Value.ref 11), (1, Value.ref 4)] _ _ _
  unfold X_Circle_copy
  refine j_aload_n (pc := 0) (q := 0) d_Circle_copy_0 rfl rfl ?_
  refine j_aload_n (pc := 1) (q := 1) d_Circle_copy_1 rfl rfl ?_
  refine j_getI (pc := 2) d_Circle_copy_2 fl_Circle_13 sx_4 (by decide) rfl ?_
  refine j_putI (pc := 5) d_Circle_copy_5 fl_Circle_13 rfl sx_11 (by decide) rfl ?_
  refine j_aload_n (pc := 8) (q := 0) d_Circle_copy_8 rfl rfl ?_
  refine j_aload_n (pc := 9) (q := 1) d_Circle_copy_9 rfl rfl ?_
  refine j_nmM (fun N1 => ?_)
  refine j_getI (pc := 10) d_Circle_copy_10 fl_Circle_17 sx_4 (by decide) rfl ?_
  refine j_putI (pc := 13) d_Circle_copy_13 fl_Circle_17 rfl sx_11 (by decide) rfl ?_
  refine j_aload_n (pc := 16) (q := 0) d_Circle_copy_16 rfl rfl ?_
  refine j_aload_n (pc := 17) (q := 1) d_Circle_copy_17 rfl rfl ?_
  refine j_nmM (fun N2 => ?_)
  refine j_getI (pc := 18) d_Circle_copy_18 fl_Circle_35 sx_4 (by decide) rfl ?_
  refine j_putI (pc := 21) d_Circle_copy_21 fl_Circle_35 rfl sx_11 (by decide) rfl ?_
  refine j_aload_n (pc := 24) (q := 0) d_Circle_copy_24 rfl rfl ?_
  refine j_aload_n (pc := 25) (q := 1) d_Circle_copy_25 rfl rfl ?_
  refine j_nmM (fun N3 => ?_)
  refine j_getI (pc := 26) d_Circle_copy_26 fl_Circle_38 sx_4 (by decide) rfl ?_
  refine j_putI (pc := 29) d_Circle_copy_29 fl_Circle_38 rfl sx_11 (by decide) rfl ?_
  refine j_aload_n (pc := 32) (q := 0) d_Circle_copy_32 rfl rfl ?_
  refine j_aload_n (pc := 33) (q := 1) d_Circle_copy_33 rfl rfl ?_
  refine j_nmM (fun N4 => ?_)
  refine j_getI (pc := 34) d_Circle_copy_34 fl_Circle_41 sx_4 (by decide) rfl ?_
  refine j_putI (pc := 37) d_Circle_copy_37 fl_Circle_41 rfl sx_11 (by decide) rfl ?_
  refine j_aload_n (pc := 40) (q := 1) d_Circle_copy_40 rfl rfl ?_
  refine j_getA (pc := 41) d_Circle_copy_41 fl_Circle_20 sx_4 (by decide) rfl ?_
  refine j_iconst (pc := 44) d_Circle_copy_44 k_i_0 ?_
  refine j_aload_n (pc := 45) (q := 0) d_Circle_copy_45 rfl rfl ?_
  refine j_getA (pc := 46) d_Circle_copy_46 fl_Circle_20 sx_11 (by decide) rfl ?_
  refine j_iconst (pc := 49) d_Circle_copy_49 k_i_0 ?_
  refine j_bipush (pc := 50) d_Circle_copy_50 k_b_12 ?_
  refine j_nmM (fun N5 => ?_)
  refine j_copyI (pc := 52) d_Circle_copy_52 cw_Circle_44 cw_nat cw_st sx_5 sx_12 (by decide) (Nat.le_of_ble_eq_true rfl) ?_
  refine j_aload_n (pc := 55) (q := 1) d_Circle_copy_55 rfl rfl ?_
  refine j_getA (pc := 56) d_Circle_copy_56 fl_Circle_24 sx_4 (by decide) rfl ?_
  refine j_iconst (pc := 59) d_Circle_copy_59 k_i_0 ?_
  refine j_aload_n (pc := 60) (q := 0) d_Circle_copy_60 rfl rfl ?_
  refine j_getA (pc := 61) d_Circle_copy_61 fl_Circle_24 sx_11 (by decide) rfl ?_
  refine j_iconst (pc := 64) d_Circle_copy_64 k_i_0 ?_
  refine j_bipush (pc := 65) d_Circle_copy_65 k_b_16 ?_
  refine j_nmM (fun N6 => ?_)
  refine j_copyI (pc := 67) d_Circle_copy_67 cw_Circle_44 cw_nat cw_st sx_6 sx_13 (by decide) (Nat.le_of_ble_eq_true rfl) ?_
  refine j_aload_n (pc := 70) (q := 1) d_Circle_copy_70 rfl rfl ?_
  refine j_getA (pc := 71) d_Circle_copy_71 fl_Circle_27 sx_4 (by decide) rfl ?_
  refine j_iconst (pc := 74) d_Circle_copy_74 k_i_0 ?_
  refine j_aload_n (pc := 75) (q := 0) d_Circle_copy_75 rfl rfl ?_
  refine j_getA (pc := 76) d_Circle_copy_76 fl_Circle_27 sx_11 (by decide) rfl ?_
  refine j_iconst (pc := 79) d_Circle_copy_79 k_i_0 ?_
  refine j_bipush (pc := 80) d_Circle_copy_80 k_b_8 ?_
  refine j_nmM (fun N7 => ?_)
  refine j_copyI (pc := 82) d_Circle_copy_82 cw_Circle_44 cw_nat cw_st sx_7 sx_14 (by decide) (Nat.le_of_ble_eq_true rfl) ?_
  exact j_return (pc := 85) d_Circle_copy_85 rfl
-- Circle.firstJoin ()I
def mt_Circle_firstJoin : Mt := ("ShakeHands$Circle", b_Circle_firstJoin, 2, some .int, 2, SHx)
theorem d_Circle_firstJoin_0 : decode b_Circle_firstJoin 0 = .ok (.iconst 0, 1) := by decide +kernel
theorem d_Circle_firstJoin_1 : decode b_Circle_firstJoin 1 = .ok (.istore_n 1, 1) := by decide +kernel
theorem d_Circle_firstJoin_2 : decode b_Circle_firstJoin 2 = .ok (.iload_n 1, 1) := by decide +kernel
theorem d_Circle_firstJoin_3 : decode b_Circle_firstJoin 3 = .ok (.aload_n 0, 1) := by decide +kernel
theorem d_Circle_firstJoin_4 : decode b_Circle_firstJoin 4 = .ok (.getfield 35, 3) := by decide +kernel
theorem d_Circle_firstJoin_7 : decode b_Circle_firstJoin 7 = .ok (.if_icmp .ge 53, 3) := by decide +kernel
theorem d_Circle_firstJoin_10 : decode b_Circle_firstJoin 10 = .ok (.aload_n 0, 1) := by decide +kernel
theorem d_Circle_firstJoin_11 : decode b_Circle_firstJoin 11 = .ok (.getfield 31, 3) := by decide +kernel
theorem d_Circle_firstJoin_14 : decode b_Circle_firstJoin 14 = .ok (.getfield 88, 3) := by decide +kernel
theorem d_Circle_firstJoin_17 : decode b_Circle_firstJoin 17 = .ok (.aload_n 0, 1) := by decide +kernel
theorem d_Circle_firstJoin_18 : decode b_Circle_firstJoin 18 = .ok (.getfield 20, 3) := by decide +kernel
theorem d_Circle_firstJoin_21 : decode b_Circle_firstJoin 21 = .ok (.iconst 3, 1) := by decide +kernel
theorem d_Circle_firstJoin_22 : decode b_Circle_firstJoin 22 = .ok (.iload_n 1, 1) := by decide +kernel
theorem d_Circle_firstJoin_23 : decode b_Circle_firstJoin 23 = .ok (.imul, 1) := by decide +kernel
theorem d_Circle_firstJoin_24 : decode b_Circle_firstJoin 24 = .ok (.iaload, 1) := by decide +kernel
theorem d_Circle_firstJoin_25 : decode b_Circle_firstJoin 25 = .ok (.iushr, 1) := by decide +kernel
theorem d_Circle_firstJoin_26 : decode b_Circle_firstJoin 26 = .ok (.aload_n 0, 1) := by decide +kernel
theorem d_Circle_firstJoin_27 : decode b_Circle_firstJoin 27 = .ok (.getfield 31, 3) := by decide +kernel
theorem d_Circle_firstJoin_30 : decode b_Circle_firstJoin 30 = .ok (.getfield 88, 3) := by decide +kernel
theorem d_Circle_firstJoin_33 : decode b_Circle_firstJoin 33 = .ok (.aload_n 0, 1) := by decide +kernel
theorem d_Circle_firstJoin_34 : decode b_Circle_firstJoin 34 = .ok (.getfield 20, 3) := by decide +kernel
theorem d_Circle_firstJoin_37 : decode b_Circle_firstJoin 37 = .ok (.iconst 3, 1) := by decide +kernel
theorem d_Circle_firstJoin_38 : decode b_Circle_firstJoin 38 = .ok (.iload_n 1, 1) := by decide +kernel
theorem d_Circle_firstJoin_39 : decode b_Circle_firstJoin 39 = .ok (.imul, 1) := by decide +kernel
theorem d_Circle_firstJoin_40 : decode b_Circle_firstJoin 40 = .ok (.iconst 1, 1) := by decide +kernel
theorem d_Circle_firstJoin_41 : decode b_Circle_firstJoin 41 = .ok (.iadd, 1) := by decide +kernel
theorem d_Circle_firstJoin_42 : decode b_Circle_firstJoin 42 = .ok (.iaload, 1) := by decide +kernel
theorem d_Circle_firstJoin_43 : decode b_Circle_firstJoin 43 = .ok (.iushr, 1) := by decide +kernel
theorem d_Circle_firstJoin_44 : decode b_Circle_firstJoin 44 = .ok (.iand, 1) := by decide +kernel
theorem d_Circle_firstJoin_45 : decode b_Circle_firstJoin 45 = .ok (.iconst 1, 1) := by decide +kernel
theorem d_Circle_firstJoin_46 : decode b_Circle_firstJoin 46 = .ok (.iand, 1) := by decide +kernel
theorem d_Circle_firstJoin_47 : decode b_Circle_firstJoin 47 = .ok (.ifCond .eq 7, 3) := by decide +kernel
theorem d_Circle_firstJoin_50 : decode b_Circle_firstJoin 50 = .ok (.iconst 3, 1) := by decide +kernel
theorem d_Circle_firstJoin_51 : decode b_Circle_firstJoin 51 = .ok (.iload_n 1, 1) := by decide +kernel
theorem d_Circle_firstJoin_52 : decode b_Circle_firstJoin 52 = .ok (.imul, 1) := by decide +kernel
theorem d_Circle_firstJoin_53 : decode b_Circle_firstJoin 53 = .ok (.ireturn, 1) := by decide +kernel
theorem d_Circle_firstJoin_54 : decode b_Circle_firstJoin 54 = .ok (.iinc 1 1, 3) := by decide +kernel
theorem d_Circle_firstJoin_57 : decode b_Circle_firstJoin 57 = .ok (.goto (-55), 3) := by decide +kernel
theorem d_Circle_firstJoin_60 : decode b_Circle_firstJoin 60 = .ok (.iconst (-1), 1) := by decide +kernel
theorem d_Circle_firstJoin_61 : decode b_Circle_firstJoin 61 = .ok (.ireturn, 1) := by decide +kernel
def X_Circle_firstJoin_L2 (n : Nat) (M : Mem) : Nat → Int32 → Option (Int32 × Mem)
    | 0, _ => none
    | m + 1, v1 => (if (M.1 11 3) ≤ v1 then
    some ((-1), M)
    else
    gd ((3 : Int32) * v1) 12 (
      gd (((3 : Int32) * v1) + 1) 12 (
        (if (((((M.1 15 1).toUInt32 >>> ((M.1 12 ((3 : Int32) * v1).toNatClampNeg).toUInt32 &&& Int32.toUInt32 31)).toInt32) &&& (((M.1 15 1).toUInt32 >>> ((M.1 12 (((3 : Int32) * v1) + 1).toNatClampNeg).toUInt32 &&& Int32.toUInt32 31)).toInt32)) &&& 1) = 0 then
          X_Circle_firstJoin_L2 n M m (v1 + 1)
          else
          some (((3 : Int32) * v1), M)))))
def X_Circle_firstJoin (n : Nat) (M : Mem) : Option (Int32 × Mem) :=
  X_Circle_firstJoin_L2 n M n 0
set_option maxRecDepth 20000 in
set_option maxHeartbeats 4000000 in
theorem X_Circle_firstJoin_L2_ok {n : Nat} {M : Mem} : ∀ (m : Nat) (v1 : Int32), J (mt_Circle_firstJoin) wI 2 [(0, Value.ref 11), (1, Value.int v1)] [] M (X_Circle_firstJoin_L2 n M m v1) := by
  intro m
  induction m with
  | zero => intro _; exact j_none
  | succ m ih =>
    intro v1
    show J _ _ _ _ _ _ ((if (M.1 11 3) ≤ v1 then
some ((-1), M)
else
gd ((3 : Int32) * v1) 12 (
gd (((3 : Int32) * v1) + 1) 12 (
(if (((((M.1 15 1).toUInt32 >>> ((M.1 12 ((3 : Int32) * v1).toNatClampNeg).toUInt32 &&& Int32.toUInt32 31)).toInt32) &&& (((M.1 15 1).toUInt32 >>> ((M.1 12 (((3 : Int32) * v1) + 1).toNatClampNeg).toUInt32 &&& Int32.toUInt32 31)).toInt32)) &&& 1) = 0 then
X_Circle_firstJoin_L2 n M m (v1 + 1)
else
some (((3 : Int32) * v1), M))))))
    refine j_iload_n (pc := 2) (q := 1) d_Circle_firstJoin_2 rfl rfl ?_
    refine j_aload_n (pc := 3) (q := 0) d_Circle_firstJoin_3 rfl rfl ?_
    refine j_getI (pc := 4) d_Circle_firstJoin_4 fl_Circle_35 sx_11 (by decide) rfl ?_
    refine j_icmp_ge (pc := 7) (tgt := 60) d_Circle_firstJoin_7 (by decide) (fun _ => ?_) (fun _ => ?_)
    · refine j_iconst (pc := 60) d_Circle_firstJoin_60 k_i_m1 ?_
      exact j_ireturn (pc := 61) d_Circle_firstJoin_61 rfl
    · refine j_aload_n (pc := 10) (q := 0) d_Circle_firstJoin_10 rfl rfl ?_
      refine j_getA (pc := 11) d_Circle_firstJoin_11 fl_Circle_31 sx_11 (by decide) rfl ?_
      refine j_getI (pc := 14) d_Circle_firstJoin_14 fl_Circle_88 sx_15 (by decide) rfl ?_
      refine j_aload_n (pc := 17) (q := 0) d_Circle_firstJoin_17 rfl rfl ?_
      refine j_getA (pc := 18) d_Circle_firstJoin_18 fl_Circle_20 sx_11 (by decide) rfl ?_
      refine j_iconst (pc := 21) d_Circle_firstJoin_21 k_i_3 ?_
      refine j_iload_n (pc := 22) (q := 1) d_Circle_firstJoin_22 rfl rfl ?_
      refine j_imul (pc := 23) d_Circle_firstJoin_23 ?_
      refine j_iald (pc := 24) d_Circle_firstJoin_24 sx_12 (fun _ => ?_)
      refine j_iushr (pc := 25) d_Circle_firstJoin_25 ?_
      refine j_aload_n (pc := 26) (q := 0) d_Circle_firstJoin_26 rfl rfl ?_
      refine j_getA (pc := 27) d_Circle_firstJoin_27 fl_Circle_31 sx_11 (by decide) rfl ?_
      refine j_getI (pc := 30) d_Circle_firstJoin_30 fl_Circle_88 sx_15 (by decide) rfl ?_
      refine j_aload_n (pc := 33) (q := 0) d_Circle_firstJoin_33 rfl rfl ?_
      refine j_getA (pc := 34) d_Circle_firstJoin_34 fl_Circle_20 sx_11 (by decide) rfl ?_
      refine j_iconst (pc := 37) d_Circle_firstJoin_37 k_i_3 ?_
      refine j_iload_n (pc := 38) (q := 1) d_Circle_firstJoin_38 rfl rfl ?_
      refine j_imul (pc := 39) d_Circle_firstJoin_39 ?_
      refine j_iconst (pc := 40) d_Circle_firstJoin_40 k_i_1 ?_
      refine j_iadd (pc := 41) d_Circle_firstJoin_41 ?_
      refine j_iald (pc := 42) d_Circle_firstJoin_42 sx_12 (fun _ => ?_)
      refine j_iushr (pc := 43) d_Circle_firstJoin_43 ?_
      refine j_iand (pc := 44) d_Circle_firstJoin_44 ?_
      refine j_iconst (pc := 45) d_Circle_firstJoin_45 k_i_1 ?_
      refine j_iand (pc := 46) d_Circle_firstJoin_46 ?_
      refine j_if_eq (pc := 47) (tgt := 54) d_Circle_firstJoin_47 (by decide) (fun _ => ?_) (fun _ => ?_)
      · refine j_iinc (pc := 54) (q := 1) d_Circle_firstJoin_54 rfl (congrArg (v1 + ·) k_i_1) (by decide) rfl ?_
        refine j_goto (pc := 57) (tgt := 2) d_Circle_firstJoin_57 (by decide) ?_
        refine j_lv [1, 0] rfl ?_
        exact ih (v1 + 1)
      · refine j_iconst (pc := 50) d_Circle_firstJoin_50 k_i_3 ?_
        refine j_iload_n (pc := 51) (q := 1) d_Circle_firstJoin_51 rfl rfl ?_
        refine j_imul (pc := 52) d_Circle_firstJoin_52 ?_
        exact j_ireturn (pc := 53) d_Circle_firstJoin_53 rfl
set_option maxRecDepth 20000 in
set_option maxHeartbeats 4000000 in
theorem C_Circle_firstJoin (n : Nat)    (M : Mem) : Ct y_Circle_firstJoin mt_Circle_firstJoin wI [Value.ref 11] M (X_Circle_firstJoin n M) := by
  refine ct_of (by decide +kernel) rfl (Nat.le_of_ble_eq_true rfl) ?_
  show J _ _ _ [(0, Value.ref 11)] _ _ _
  unfold X_Circle_firstJoin
  refine j_iconst (pc := 0) d_Circle_firstJoin_0 k_i_0 ?_
  refine j_istore_n (pc := 1) d_Circle_firstJoin_1 rfl (by decide) rfl ?_
  refine j_lv [1, 0] rfl ?_
  exact X_Circle_firstJoin_L2_ok   n 0
-- Circle.settle ()V
def mt_Circle_settle : Mt := ("ShakeHands$Circle", b_Circle_settle, 3, none, 4, SHx)
theorem d_Circle_settle_0 : decode b_Circle_settle 0 = .ok (.aload_n 0, 1) := by decide +kernel
theorem d_Circle_settle_1 : decode b_Circle_settle 1 = .ok (.invokevirtual 81, 3) := by decide +kernel
theorem d_Circle_settle_4 : decode b_Circle_settle 4 = .ok (.istore_n 1, 1) := by decide +kernel
theorem d_Circle_settle_5 : decode b_Circle_settle 5 = .ok (.iconst 0, 1) := by decide +kernel
theorem d_Circle_settle_6 : decode b_Circle_settle 6 = .ok (.istore_n 2, 1) := by decide +kernel
theorem d_Circle_settle_7 : decode b_Circle_settle 7 = .ok (.iload_n 2, 1) := by decide +kernel
theorem d_Circle_settle_8 : decode b_Circle_settle 8 = .ok (.bipush 16, 2) := by decide +kernel
theorem d_Circle_settle_10 : decode b_Circle_settle 10 = .ok (.if_icmp .ge 61, 3) := by decide +kernel
theorem d_Circle_settle_13 : decode b_Circle_settle 13 = .ok (.iload_n 1, 1) := by decide +kernel
theorem d_Circle_settle_14 : decode b_Circle_settle 14 = .ok (.ifCond .lt 57, 3) := by decide +kernel
theorem d_Circle_settle_17 : decode b_Circle_settle 17 = .ok (.aload_n 0, 1) := by decide +kernel
theorem d_Circle_settle_18 : decode b_Circle_settle 18 = .ok (.getfield 31, 3) := by decide +kernel
theorem d_Circle_settle_21 : decode b_Circle_settle 21 = .ok (.aload_n 0, 1) := by decide +kernel
theorem d_Circle_settle_22 : decode b_Circle_settle 22 = .ok (.getfield 20, 3) := by decide +kernel
theorem d_Circle_settle_25 : decode b_Circle_settle 25 = .ok (.iload_n 1, 1) := by decide +kernel
theorem d_Circle_settle_26 : decode b_Circle_settle 26 = .ok (.iaload, 1) := by decide +kernel
theorem d_Circle_settle_27 : decode b_Circle_settle 27 = .ok (.invokevirtual 74, 3) := by decide +kernel
theorem d_Circle_settle_30 : decode b_Circle_settle 30 = .ok (.aload_n 0, 1) := by decide +kernel
theorem d_Circle_settle_31 : decode b_Circle_settle 31 = .ok (.getfield 31, 3) := by decide +kernel
theorem d_Circle_settle_34 : decode b_Circle_settle 34 = .ok (.aload_n 0, 1) := by decide +kernel
theorem d_Circle_settle_35 : decode b_Circle_settle 35 = .ok (.getfield 20, 3) := by decide +kernel
theorem d_Circle_settle_38 : decode b_Circle_settle 38 = .ok (.iload_n 1, 1) := by decide +kernel
theorem d_Circle_settle_39 : decode b_Circle_settle 39 = .ok (.iconst 1, 1) := by decide +kernel
theorem d_Circle_settle_40 : decode b_Circle_settle 40 = .ok (.iadd, 1) := by decide +kernel
theorem d_Circle_settle_41 : decode b_Circle_settle 41 = .ok (.iaload, 1) := by decide +kernel
theorem d_Circle_settle_42 : decode b_Circle_settle 42 = .ok (.invokevirtual 74, 3) := by decide +kernel
theorem d_Circle_settle_45 : decode b_Circle_settle 45 = .ok (.aload_n 0, 1) := by decide +kernel
theorem d_Circle_settle_46 : decode b_Circle_settle 46 = .ok (.getfield 31, 3) := by decide +kernel
theorem d_Circle_settle_49 : decode b_Circle_settle 49 = .ok (.aload_n 0, 1) := by decide +kernel
theorem d_Circle_settle_50 : decode b_Circle_settle 50 = .ok (.getfield 20, 3) := by decide +kernel
theorem d_Circle_settle_53 : decode b_Circle_settle 53 = .ok (.iload_n 1, 1) := by decide +kernel
theorem d_Circle_settle_54 : decode b_Circle_settle 54 = .ok (.iconst 2, 1) := by decide +kernel
theorem d_Circle_settle_55 : decode b_Circle_settle 55 = .ok (.iadd, 1) := by decide +kernel
theorem d_Circle_settle_56 : decode b_Circle_settle 56 = .ok (.iaload, 1) := by decide +kernel
theorem d_Circle_settle_57 : decode b_Circle_settle 57 = .ok (.invokevirtual 70, 3) := by decide +kernel
theorem d_Circle_settle_60 : decode b_Circle_settle 60 = .ok (.aload_n 0, 1) := by decide +kernel
theorem d_Circle_settle_61 : decode b_Circle_settle 61 = .ok (.invokevirtual 81, 3) := by decide +kernel
theorem d_Circle_settle_64 : decode b_Circle_settle 64 = .ok (.istore_n 1, 1) := by decide +kernel
theorem d_Circle_settle_65 : decode b_Circle_settle 65 = .ok (.iinc 2 1, 3) := by decide +kernel
theorem d_Circle_settle_68 : decode b_Circle_settle 68 = .ok (.goto (-61), 3) := by decide +kernel
theorem d_Circle_settle_71 : decode b_Circle_settle 71 = .ok (.aload_n 0, 1) := by decide +kernel
theorem d_Circle_settle_72 : decode b_Circle_settle 72 = .ok (.getfield 31, 3) := by decide +kernel
theorem d_Circle_settle_75 : decode b_Circle_settle 75 = .ok (.aload_n 0, 1) := by decide +kernel
theorem d_Circle_settle_76 : decode b_Circle_settle 76 = .ok (.getfield 17, 3) := by decide +kernel
theorem d_Circle_settle_79 : decode b_Circle_settle 79 = .ok (.invokevirtual 85, 3) := by decide +kernel
theorem d_Circle_settle_82 : decode b_Circle_settle 82 = .ok (.return_, 1) := by decide +kernel
def X_Circle_settle_L7 (n : Nat) (kx71 : Mem → Option (Unit × Mem)) : Nat → Int32 → Int32 → Mem → Option (Unit × Mem)
    | 0, _, _, _ => none
    | m + 1, v1, v2, M => (if 16 ≤ v2 then
    kx71 M
    else
    (if v1 < 0 then
      kx71 M
      else
      gd v1 12 (
        bd (X_Row_drop n 15 (M.1 12 v1.toNatClampNeg) M) fun _ M4 =>
        gd (v1 + 1) 12 (
          bd (X_Row_drop n 15 (M4.1 12 (v1 + 1).toNatClampNeg) M4) fun _ M6 =>
          gd (v1 + 2) 12 (
            bd (X_Row_add n 15 (M6.1 12 (v1 + 2).toNatClampNeg) M6) fun _ M8 =>
            bd (X_Circle_firstJoin n M8) fun r9 M10 =>
            X_Circle_settle_L7 n kx71 m r9 (v2 + 1) M10)))))
def X_Circle_settle (n : Nat) (M : Mem) : Option (Unit × Mem) :=
  bd (X_Circle_firstJoin n M) fun r1 M2 =>
  X_Circle_settle_L7 n (fun M11 => bd (X_Row_shorten n 15 (M11.1 11 1) M11) fun _ M13 =>
    some ((), M13)) n r1 0 M2
set_option maxRecDepth 20000 in
set_option maxHeartbeats 4000000 in
theorem X_Circle_settle_L7_ok {n : Nat} {kx71 : Mem → Option (Unit × Mem)} (hkx71 : ∀ (M : Mem), J (mt_Circle_settle) wU 71 [(0, Value.ref 11)] [] M (kx71 M)) : ∀ (m : Nat) (v1 : Int32) (v2 : Int32) (M : Mem), J (mt_Circle_settle) wU 7 [(0, Value.ref 11), (1, Value.int v1), (2, Value.int v2)] [] M (X_Circle_settle_L7 n kx71 m v1 v2 M) := by
  intro m
  induction m with
  | zero => intro _ _ _; exact j_none
  | succ m ih =>
    intro v1 v2 M
    show J _ _ _ _ _ _ ((if 16 ≤ v2 then
kx71 M
else
(if v1 < 0 then
kx71 M
else
gd v1 12 (
bd (X_Row_drop n 15 (M.1 12 v1.toNatClampNeg) M) fun _ M4 =>
gd (v1 + 1) 12 (
bd (X_Row_drop n 15 (M4.1 12 (v1 + 1).toNatClampNeg) M4) fun _ M6 =>
gd (v1 + 2) 12 (
bd (X_Row_add n 15 (M6.1 12 (v1 + 2).toNatClampNeg) M6) fun _ M8 =>
bd (X_Circle_firstJoin n M8) fun r9 M10 =>
X_Circle_settle_L7 n kx71 m r9 (v2 + 1) M10))))))
    refine j_iload_n (pc := 7) (q := 2) d_Circle_settle_7 rfl rfl ?_
    refine j_bipush (pc := 8) d_Circle_settle_8 k_b_16 ?_
    refine j_icmp_ge (pc := 10) (tgt := 71) d_Circle_settle_10 (by decide) (fun _ => ?_) (fun _ => ?_)
    · refine j_lv [0] rfl ?_
      exact hkx71 M
    · refine j_iload_n (pc := 13) (q := 1) d_Circle_settle_13 rfl rfl ?_
      refine j_if_lt (pc := 14) (tgt := 71) d_Circle_settle_14 (by decide) (fun _ => ?_) (fun _ => ?_)
      · refine j_lv [0] rfl ?_
        exact hkx71 M
      · refine j_aload_n (pc := 17) (q := 0) d_Circle_settle_17 rfl rfl ?_
        refine j_getA (pc := 18) d_Circle_settle_18 fl_Circle_31 sx_11 (by decide) rfl ?_
        refine j_aload_n (pc := 21) (q := 0) d_Circle_settle_21 rfl rfl ?_
        refine j_getA (pc := 22) d_Circle_settle_22 fl_Circle_20 sx_11 (by decide) rfl ?_
        refine j_iload_n (pc := 25) (q := 1) d_Circle_settle_25 rfl rfl ?_
        refine j_iald (pc := 26) d_Circle_settle_26 sx_12 (fun _ => ?_)
        refine j_callV1 (pc := 27) d_Circle_settle_27 (C_Row_drop n 15 sx_15 (M.1 12 v1.toNatClampNeg) M) cV_Circle_74 cd_Row_drop dn_Row_drop rfl (by decide) (Nat.le_of_ble_eq_true rfl) (Nat.le_of_ble_eq_true rfl) nr_U sx_15 (by decide) rfl (fun r3 M4 => ?_)
        refine j_aload_n (pc := 30) (q := 0) d_Circle_settle_30 rfl rfl ?_
        refine j_getA (pc := 31) d_Circle_settle_31 fl_Circle_31 sx_11 (by decide) rfl ?_
        refine j_aload_n (pc := 34) (q := 0) d_Circle_settle_34 rfl rfl ?_
        refine j_getA (pc := 35) d_Circle_settle_35 fl_Circle_20 sx_11 (by decide) rfl ?_
        refine j_iload_n (pc := 38) (q := 1) d_Circle_settle_38 rfl rfl ?_
        refine j_iconst (pc := 39) d_Circle_settle_39 k_i_1 ?_
        refine j_iadd (pc := 40) d_Circle_settle_40 ?_
        refine j_iald (pc := 41) d_Circle_settle_41 sx_12 (fun _ => ?_)
        refine j_callV1 (pc := 42) d_Circle_settle_42 (C_Row_drop n 15 sx_15 (M4.1 12 (v1 + 1).toNatClampNeg) M4) cV_Circle_74 cd_Row_drop dn_Row_drop rfl (by decide) (Nat.le_of_ble_eq_true rfl) (Nat.le_of_ble_eq_true rfl) nr_U sx_15 (by decide) rfl (fun r5 M6 => ?_)
        refine j_aload_n (pc := 45) (q := 0) d_Circle_settle_45 rfl rfl ?_
        refine j_getA (pc := 46) d_Circle_settle_46 fl_Circle_31 sx_11 (by decide) rfl ?_
        refine j_aload_n (pc := 49) (q := 0) d_Circle_settle_49 rfl rfl ?_
        refine j_getA (pc := 50) d_Circle_settle_50 fl_Circle_20 sx_11 (by decide) rfl ?_
        refine j_iload_n (pc := 53) (q := 1) d_Circle_settle_53 rfl rfl ?_
        refine j_iconst (pc := 54) d_Circle_settle_54 k_i_2 ?_
        refine j_iadd (pc := 55) d_Circle_settle_55 ?_
        refine j_iald (pc := 56) d_Circle_settle_56 sx_12 (fun _ => ?_)
        refine j_callV1 (pc := 57) d_Circle_settle_57 (C_Row_add n 15 sx_15 (M6.1 12 (v1 + 2).toNatClampNeg) M6) cV_Circle_70 cd_Row_add dn_Row_add rfl (by decide) (Nat.le_of_ble_eq_true rfl) (Nat.le_of_ble_eq_true rfl) nr_U sx_15 (by decide) rfl (fun r7 M8 => ?_)
        refine j_aload_n (pc := 60) (q := 0) d_Circle_settle_60 rfl rfl ?_
        refine j_callV0 (pc := 61) d_Circle_settle_61 (C_Circle_firstJoin n M8) cV_Circle_81 cd_Circle_firstJoin dn_Circle_firstJoin rfl (by decide) (Nat.le_of_ble_eq_true rfl) (Nat.le_of_ble_eq_true rfl) nr_I sx_11 (by decide) rfl (fun r9 M10 => ?_)
        refine j_istore_n (pc := 64) d_Circle_settle_64 rfl (by decide) rfl ?_
        refine j_iinc (pc := 65) (q := 2) d_Circle_settle_65 rfl (congrArg (v2 + ·) k_i_1) (by decide) rfl ?_
        refine j_goto (pc := 68) (tgt := 7) d_Circle_settle_68 (by decide) ?_
        refine j_lv [2, 1, 0] rfl ?_
        exact ih r9 (v2 + 1) M10
set_option maxRecDepth 20000 in
set_option maxHeartbeats 4000000 in
theorem C_Circle_settle (n : Nat)    (M : Mem) : Ct y_Circle_settle mt_Circle_settle wU [Value.ref 11] M (X_Circle_settle n M) := by
  refine ct_of (by decide +kernel) rfl (Nat.le_of_ble_eq_true rfl) ?_
  show J _ _ _ [(0, Value.ref 11)] _ _ _
  unfold X_Circle_settle
  refine j_aload_n (pc := 0) (q := 0) d_Circle_settle_0 rfl rfl ?_
  refine j_callV0 (pc := 1) d_Circle_settle_1 (C_Circle_firstJoin n M) cV_Circle_81 cd_Circle_firstJoin dn_Circle_firstJoin rfl (by decide) (Nat.le_of_ble_eq_true rfl) (Nat.le_of_ble_eq_true rfl) nr_I sx_11 (by decide) rfl (fun r1 M2 => ?_)
  refine j_istore_n (pc := 4) d_Circle_settle_4 rfl (by decide) rfl ?_
  refine j_iconst (pc := 5) d_Circle_settle_5 k_i_0 ?_
  refine j_istore_n (pc := 6) d_Circle_settle_6 rfl (by decide) rfl ?_
  refine j_lv [2, 1, 0] rfl ?_
  refine X_Circle_settle_L7_ok  (fun M11 => ?_) n r1 0 M2
  refine j_aload_n (pc := 71) (q := 0) d_Circle_settle_71 rfl rfl ?_
  refine j_getA (pc := 72) d_Circle_settle_72 fl_Circle_31 sx_11 (by decide) rfl ?_
  refine j_aload_n (pc := 75) (q := 0) d_Circle_settle_75 rfl rfl ?_
  refine j_getI (pc := 76) d_Circle_settle_76 fl_Circle_17 sx_11 (by decide) rfl ?_
  refine j_callV1 (pc := 79) d_Circle_settle_79 (C_Row_shorten n 15 sx_15 (M11.1 11 1) M11) cV_Circle_85 cd_Row_shorten dn_Row_shorten rfl (by decide) (Nat.le_of_ble_eq_true rfl) (Nat.le_of_ble_eq_true rfl) nr_U sx_15 (by decide) rfl (fun r12 M13 => ?_)
  exact j_return (pc := 82) d_Circle_settle_82 rfl
-- Circle.taught (JI)J
def mt_Circle_taught : Mt := ("ShakeHands$Circle", b_Circle_taught, 4, some .long, 5, SHx)
theorem d_Circle_taught_0 : decode b_Circle_taught 0 = .ok (.aload_n 0, 1) := by decide +kernel
theorem d_Circle_taught_1 : decode b_Circle_taught 1 = .ok (.getfield 31, 3) := by decide +kernel
theorem d_Circle_taught_4 : decode b_Circle_taught 4 = .ok (.lload_n 1, 1) := by decide +kernel
theorem d_Circle_taught_5 : decode b_Circle_taught 5 = .ok (.invokevirtual 56, 3) := by decide +kernel
theorem d_Circle_taught_8 : decode b_Circle_taught 8 = .ok (.aload_n 0, 1) := by decide +kernel
theorem d_Circle_taught_9 : decode b_Circle_taught 9 = .ok (.getfield 31, 3) := by decide +kernel
theorem d_Circle_taught_12 : decode b_Circle_taught 12 = .ok (.iload_n 3, 1) := by decide +kernel
theorem d_Circle_taught_13 : decode b_Circle_taught 13 = .ok (.invokevirtual 70, 3) := by decide +kernel
theorem d_Circle_taught_16 : decode b_Circle_taught 16 = .ok (.aload_n 0, 1) := by decide +kernel
theorem d_Circle_taught_17 : decode b_Circle_taught 17 = .ok (.invokevirtual 63, 3) := by decide +kernel
theorem d_Circle_taught_20 : decode b_Circle_taught 20 = .ok (.aload_n 0, 1) := by decide +kernel
theorem d_Circle_taught_21 : decode b_Circle_taught 21 = .ok (.getfield 31, 3) := by decide +kernel
theorem d_Circle_taught_24 : decode b_Circle_taught 24 = .ok (.invokevirtual 66, 3) := by decide +kernel
theorem d_Circle_taught_27 : decode b_Circle_taught 27 = .ok (.lreturn, 1) := by decide +kernel
def X_Circle_taught (n : Nat) (p1 : Int64) (p3 : Int32) (M : Mem) : Option (Int64 × Mem) :=
  bd (X_Row_take n 15 p1 M) fun _ M2 =>
  bd (X_Row_add n 15 p3 M2) fun _ M4 =>
  bd (X_Circle_settle n M4) fun _ M6 =>
  bd (X_Row_atRest n 15 M6) fun r7 M8 =>
  some (r7, M8)
set_option maxRecDepth 20000 in
set_option maxHeartbeats 4000000 in
theorem C_Circle_taught (n : Nat)   (p1 : Int64) (p3 : Int32) (M : Mem) : Ct y_Circle_taught mt_Circle_taught wL [Value.ref 11, Value.long p1, Value.int p3] M (X_Circle_taught n p1 p3 M) := by
  refine ct_of (by decide +kernel) rfl (Nat.le_of_ble_eq_true rfl) ?_
  show J _ _ _ [(0, Value.ref 11), (1, Value.long p1), (3, Value.int p3)] _ _ _
  unfold X_Circle_taught
  refine j_aload_n (pc := 0) (q := 0) d_Circle_taught_0 rfl rfl ?_
  refine j_getA (pc := 1) d_Circle_taught_1 fl_Circle_31 sx_11 (by decide) rfl ?_
  refine j_lload_n (pc := 4) (q := 1) d_Circle_taught_4 rfl rfl ?_
  refine j_callV1 (pc := 5) d_Circle_taught_5 (C_Row_take n 15 sx_15 p1 M) cV_Circle_56 cd_Row_take dn_Row_take rfl (by decide) (Nat.le_of_ble_eq_true rfl) (Nat.le_of_ble_eq_true rfl) nr_U sx_15 (by decide) rfl (fun r1 M2 => ?_)
  refine j_aload_n (pc := 8) (q := 0) d_Circle_taught_8 rfl rfl ?_
  refine j_getA (pc := 9) d_Circle_taught_9 fl_Circle_31 sx_11 (by decide) rfl ?_
  refine j_iload_n (pc := 12) (q := 2) d_Circle_taught_12 rfl rfl ?_
  refine j_callV1 (pc := 13) d_Circle_taught_13 (C_Row_add n 15 sx_15 p3 M2) cV_Circle_70 cd_Row_add dn_Row_add rfl (by decide) (Nat.le_of_ble_eq_true rfl) (Nat.le_of_ble_eq_true rfl) nr_U sx_15 (by decide) rfl (fun r3 M4 => ?_)
  refine j_aload_n (pc := 16) (q := 0) d_Circle_taught_16 rfl rfl ?_
  refine j_callV0 (pc := 17) d_Circle_taught_17 (C_Circle_settle n M4) cV_Circle_63 cd_Circle_settle dn_Circle_settle rfl (by decide) (Nat.le_of_ble_eq_true rfl) (Nat.le_of_ble_eq_true rfl) nr_U sx_11 (by decide) rfl (fun r5 M6 => ?_)
  refine j_aload_n (pc := 20) (q := 0) d_Circle_taught_20 rfl rfl ?_
  refine j_getA (pc := 21) d_Circle_taught_21 fl_Circle_31 sx_11 (by decide) rfl ?_
  refine j_callV0 (pc := 24) d_Circle_taught_24 (C_Row_atRest n 15 sx_15 M6) cV_Circle_66 cd_Row_atRest dn_Row_atRest rfl (by decide) (Nat.le_of_ble_eq_true rfl) (Nat.le_of_ble_eq_true rfl) nr_L sx_15 (by decide) rfl (fun r7 M8 => ?_)
  exact j_lreturn (pc := 27) d_Circle_taught_27 rfl
-- Circle.without (JI)J
def mt_Circle_without : Mt := ("ShakeHands$Circle", b_Circle_without, 4, some .long, 4, SHx)
theorem d_Circle_without_0 : decode b_Circle_without 0 = .ok (.aload_n 0, 1) := by decide +kernel
theorem d_Circle_without_1 : decode b_Circle_without 1 = .ok (.getfield 31, 3) := by decide +kernel
theorem d_Circle_without_4 : decode b_Circle_without 4 = .ok (.lload_n 1, 1) := by decide +kernel
theorem d_Circle_without_5 : decode b_Circle_without 5 = .ok (.invokevirtual 56, 3) := by decide +kernel
theorem d_Circle_without_8 : decode b_Circle_without 8 = .ok (.aload_n 0, 1) := by decide +kernel
theorem d_Circle_without_9 : decode b_Circle_without 9 = .ok (.getfield 31, 3) := by decide +kernel
theorem d_Circle_without_12 : decode b_Circle_without 12 = .ok (.iload_n 3, 1) := by decide +kernel
theorem d_Circle_without_13 : decode b_Circle_without 13 = .ok (.invokevirtual 74, 3) := by decide +kernel
theorem d_Circle_without_16 : decode b_Circle_without 16 = .ok (.aload_n 0, 1) := by decide +kernel
theorem d_Circle_without_17 : decode b_Circle_without 17 = .ok (.getfield 31, 3) := by decide +kernel
theorem d_Circle_without_20 : decode b_Circle_without 20 = .ok (.invokevirtual 66, 3) := by decide +kernel
theorem d_Circle_without_23 : decode b_Circle_without 23 = .ok (.lreturn, 1) := by decide +kernel
def X_Circle_without (n : Nat) (p1 : Int64) (p3 : Int32) (M : Mem) : Option (Int64 × Mem) :=
  bd (X_Row_take n 15 p1 M) fun _ M2 =>
  bd (X_Row_drop n 15 p3 M2) fun _ M4 =>
  bd (X_Row_atRest n 15 M4) fun r5 M6 =>
  some (r5, M6)
set_option maxRecDepth 20000 in
set_option maxHeartbeats 4000000 in
theorem C_Circle_without (n : Nat)   (p1 : Int64) (p3 : Int32) (M : Mem) : Ct y_Circle_without mt_Circle_without wL [Value.ref 11, Value.long p1, Value.int p3] M (X_Circle_without n p1 p3 M) := by
  refine ct_of (by decide +kernel) rfl (Nat.le_of_ble_eq_true rfl) ?_
  show J _ _ _ [(0, Value.ref 11), (1, Value.long p1), (3, Value.int p3)] _ _ _
  unfold X_Circle_without
  refine j_aload_n (pc := 0) (q := 0) d_Circle_without_0 rfl rfl ?_
  refine j_getA (pc := 1) d_Circle_without_1 fl_Circle_31 sx_11 (by decide) rfl ?_
  refine j_lload_n (pc := 4) (q := 1) d_Circle_without_4 rfl rfl ?_
  refine j_callV1 (pc := 5) d_Circle_without_5 (C_Row_take n 15 sx_15 p1 M) cV_Circle_56 cd_Row_take dn_Row_take rfl (by decide) (Nat.le_of_ble_eq_true rfl) (Nat.le_of_ble_eq_true rfl) nr_U sx_15 (by decide) rfl (fun r1 M2 => ?_)
  refine j_aload_n (pc := 8) (q := 0) d_Circle_without_8 rfl rfl ?_
  refine j_getA (pc := 9) d_Circle_without_9 fl_Circle_31 sx_11 (by decide) rfl ?_
  refine j_iload_n (pc := 12) (q := 2) d_Circle_without_12 rfl rfl ?_
  refine j_callV1 (pc := 13) d_Circle_without_13 (C_Row_drop n 15 sx_15 p3 M2) cV_Circle_74 cd_Row_drop dn_Row_drop rfl (by decide) (Nat.le_of_ble_eq_true rfl) (Nat.le_of_ble_eq_true rfl) nr_U sx_15 (by decide) rfl (fun r3 M4 => ?_)
  refine j_aload_n (pc := 16) (q := 0) d_Circle_without_16 rfl rfl ?_
  refine j_getA (pc := 17) d_Circle_without_17 fl_Circle_31 sx_11 (by decide) rfl ?_
  refine j_callV0 (pc := 20) d_Circle_without_20 (C_Row_atRest n 15 sx_15 M4) cV_Circle_66 cd_Row_atRest dn_Row_atRest rfl (by decide) (Nat.le_of_ble_eq_true rfl) (Nat.le_of_ble_eq_true rfl) nr_L sx_15 (by decide) rfl (fun r5 M6 => ?_)
  exact j_lreturn (pc := 23) d_Circle_without_23 rfl
-- Circle.meet ([JII)Z
def mt_Circle_meet : Mt := ("ShakeHands$Circle", b_Circle_meet, 9, some .boolean, 5, SHx)
theorem d_Circle_meet_0 : decode b_Circle_meet 0 = .ok (.iload_n 3, 1) := by decide +kernel
theorem d_Circle_meet_1 : decode b_Circle_meet 1 = .ok (.ifCond .lt 9, 3) := by decide +kernel
theorem d_Circle_meet_4 : decode b_Circle_meet 4 = .ok (.iload_n 3, 1) := by decide +kernel
theorem d_Circle_meet_5 : decode b_Circle_meet 5 = .ok (.bipush 15, 2) := by decide +kernel
theorem d_Circle_meet_7 : decode b_Circle_meet 7 = .ok (.if_icmp .lt 5, 3) := by decide +kernel
theorem d_Circle_meet_10 : decode b_Circle_meet 10 = .ok (.iconst 0, 1) := by decide +kernel
theorem d_Circle_meet_11 : decode b_Circle_meet 11 = .ok (.ireturn, 1) := by decide +kernel
theorem d_Circle_meet_12 : decode b_Circle_meet 12 = .ok (.getstatic 50, 3) := by decide +kernel
theorem d_Circle_meet_15 : decode b_Circle_meet 15 = .ok (.iload_n 3, 1) := by decide +kernel
theorem d_Circle_meet_16 : decode b_Circle_meet 16 = .ok (.iaload, 1) := by decide +kernel
theorem d_Circle_meet_17 : decode b_Circle_meet 17 = .ok (.istore 4, 2) := by decide +kernel
theorem d_Circle_meet_19 : decode b_Circle_meet 19 = .ok (.getstatic 53, 3) := by decide +kernel
theorem d_Circle_meet_22 : decode b_Circle_meet 22 = .ok (.iload_n 3, 1) := by decide +kernel
theorem d_Circle_meet_23 : decode b_Circle_meet 23 = .ok (.iaload, 1) := by decide +kernel
theorem d_Circle_meet_24 : decode b_Circle_meet 24 = .ok (.istore 5, 2) := by decide +kernel
theorem d_Circle_meet_26 : decode b_Circle_meet 26 = .ok (.iload_n 2, 1) := by decide +kernel
theorem d_Circle_meet_27 : decode b_Circle_meet 27 = .ok (.iload 4, 2) := by decide +kernel
theorem d_Circle_meet_29 : decode b_Circle_meet 29 = .ok (.iushr, 1) := by decide +kernel
theorem d_Circle_meet_30 : decode b_Circle_meet 30 = .ok (.iload_n 2, 1) := by decide +kernel
theorem d_Circle_meet_31 : decode b_Circle_meet 31 = .ok (.iload 5, 2) := by decide +kernel
theorem d_Circle_meet_33 : decode b_Circle_meet 33 = .ok (.iushr, 1) := by decide +kernel
theorem d_Circle_meet_34 : decode b_Circle_meet 34 = .ok (.ior, 1) := by decide +kernel
theorem d_Circle_meet_35 : decode b_Circle_meet 35 = .ok (.iconst 1, 1) := by decide +kernel
theorem d_Circle_meet_36 : decode b_Circle_meet 36 = .ok (.iand, 1) := by decide +kernel
theorem d_Circle_meet_37 : decode b_Circle_meet 37 = .ok (.ifCond .eq 5, 3) := by decide +kernel
theorem d_Circle_meet_40 : decode b_Circle_meet 40 = .ok (.iconst 0, 1) := by decide +kernel
theorem d_Circle_meet_41 : decode b_Circle_meet 41 = .ok (.ireturn, 1) := by decide +kernel
theorem d_Circle_meet_42 : decode b_Circle_meet 42 = .ok (.aload_n 0, 1) := by decide +kernel
theorem d_Circle_meet_43 : decode b_Circle_meet 43 = .ok (.getfield 31, 3) := by decide +kernel
theorem d_Circle_meet_46 : decode b_Circle_meet 46 = .ok (.aload_n 1, 1) := by decide +kernel
theorem d_Circle_meet_47 : decode b_Circle_meet 47 = .ok (.iload 4, 2) := by decide +kernel
theorem d_Circle_meet_49 : decode b_Circle_meet 49 = .ok (.laload, 1) := by decide +kernel
theorem d_Circle_meet_50 : decode b_Circle_meet 50 = .ok (.invokevirtual 56, 3) := by decide +kernel
theorem d_Circle_meet_53 : decode b_Circle_meet 53 = .ok (.aload_n 0, 1) := by decide +kernel
theorem d_Circle_meet_54 : decode b_Circle_meet 54 = .ok (.getfield 31, 3) := by decide +kernel
theorem d_Circle_meet_57 : decode b_Circle_meet 57 = .ok (.aload_n 1, 1) := by decide +kernel
theorem d_Circle_meet_58 : decode b_Circle_meet 58 = .ok (.iload 5, 2) := by decide +kernel
theorem d_Circle_meet_60 : decode b_Circle_meet 60 = .ok (.laload, 1) := by decide +kernel
theorem d_Circle_meet_61 : decode b_Circle_meet 61 = .ok (.invokevirtual 60, 3) := by decide +kernel
theorem d_Circle_meet_64 : decode b_Circle_meet 64 = .ok (.aload_n 0, 1) := by decide +kernel
theorem d_Circle_meet_65 : decode b_Circle_meet 65 = .ok (.invokevirtual 63, 3) := by decide +kernel
theorem d_Circle_meet_68 : decode b_Circle_meet 68 = .ok (.aload_n 0, 1) := by decide +kernel
theorem d_Circle_meet_69 : decode b_Circle_meet 69 = .ok (.getfield 31, 3) := by decide +kernel
theorem d_Circle_meet_72 : decode b_Circle_meet 72 = .ok (.invokevirtual 66, 3) := by decide +kernel
theorem d_Circle_meet_75 : decode b_Circle_meet 75 = .ok (.lstore 6, 2) := by decide +kernel
theorem d_Circle_meet_77 : decode b_Circle_meet 77 = .ok (.lload 6, 2) := by decide +kernel
theorem d_Circle_meet_79 : decode b_Circle_meet 79 = .ok (.aload_n 1, 1) := by decide +kernel
theorem d_Circle_meet_80 : decode b_Circle_meet 80 = .ok (.iload 4, 2) := by decide +kernel
theorem d_Circle_meet_82 : decode b_Circle_meet 82 = .ok (.laload, 1) := by decide +kernel
theorem d_Circle_meet_83 : decode b_Circle_meet 83 = .ok (.lcmp, 1) := by decide +kernel
theorem d_Circle_meet_84 : decode b_Circle_meet 84 = .ok (.ifCond .ne 13, 3) := by decide +kernel
theorem d_Circle_meet_87 : decode b_Circle_meet 87 = .ok (.lload 6, 2) := by decide +kernel
theorem d_Circle_meet_89 : decode b_Circle_meet 89 = .ok (.aload_n 1, 1) := by decide +kernel
theorem d_Circle_meet_90 : decode b_Circle_meet 90 = .ok (.iload 5, 2) := by decide +kernel
theorem d_Circle_meet_92 : decode b_Circle_meet 92 = .ok (.laload, 1) := by decide +kernel
theorem d_Circle_meet_93 : decode b_Circle_meet 93 = .ok (.lcmp, 1) := by decide +kernel
theorem d_Circle_meet_94 : decode b_Circle_meet 94 = .ok (.ifCond .eq 7, 3) := by decide +kernel
theorem d_Circle_meet_97 : decode b_Circle_meet 97 = .ok (.iconst 1, 1) := by decide +kernel
theorem d_Circle_meet_98 : decode b_Circle_meet 98 = .ok (.goto 4, 3) := by decide +kernel
theorem d_Circle_meet_101 : decode b_Circle_meet 101 = .ok (.iconst 0, 1) := by decide +kernel
theorem d_Circle_meet_102 : decode b_Circle_meet 102 = .ok (.istore 8, 2) := by decide +kernel
theorem d_Circle_meet_104 : decode b_Circle_meet 104 = .ok (.aload_n 1, 1) := by decide +kernel
theorem d_Circle_meet_105 : decode b_Circle_meet 105 = .ok (.iload 4, 2) := by decide +kernel
theorem d_Circle_meet_107 : decode b_Circle_meet 107 = .ok (.lload 6, 2) := by decide +kernel
theorem d_Circle_meet_109 : decode b_Circle_meet 109 = .ok (.lastore, 1) := by decide +kernel
theorem d_Circle_meet_110 : decode b_Circle_meet 110 = .ok (.aload_n 1, 1) := by decide +kernel
theorem d_Circle_meet_111 : decode b_Circle_meet 111 = .ok (.iload 5, 2) := by decide +kernel
theorem d_Circle_meet_113 : decode b_Circle_meet 113 = .ok (.lload 6, 2) := by decide +kernel
theorem d_Circle_meet_115 : decode b_Circle_meet 115 = .ok (.lastore, 1) := by decide +kernel
theorem d_Circle_meet_116 : decode b_Circle_meet 116 = .ok (.iload 8, 2) := by decide +kernel
theorem d_Circle_meet_118 : decode b_Circle_meet 118 = .ok (.ireturn, 1) := by decide +kernel
def X_Circle_meet (n : Nat) (rows : Nat) (p2 : Int32) (p3 : Int32) (M : Mem) : Option (Int32 × Mem) :=
  (if p3 < 0 then
    some (0, M)
    else
    (if p3 < 15 then
      gd p3 15 (
        nm (lsr p3.toNatClampNeg) fun x1 =>
        gd p3 15 (
          nm (grt p3.toNatClampNeg) fun x2 =>
          (if ((((p2.toUInt32 >>> (x1.toUInt32 &&& Int32.toUInt32 31)).toInt32) ||| ((p2.toUInt32 >>> (x2.toUInt32 &&& Int32.toUInt32 31)).toInt32)) &&& 1) = 0 then
            gd x1 6 (
              bd (X_Row_take n 15 (M.2 rows x1.toNatClampNeg) M) fun _ M4 =>
              gd x2 6 (
                bd (X_Row_addAll n 15 (M4.2 rows x2.toNatClampNeg) M4) fun _ M6 =>
                bd (X_Circle_settle n M6) fun _ M8 =>
                bd (X_Row_atRest n 15 M8) fun r9 M10 =>
                gd x1 6 (
                  nm (fun (u11 : Int32) => (gd x1 6 (
                        gd x2 6 (
                          zr u11 (sl (sl M10 rows (x1.toNatClampNeg) r9) rows (x2.toNatClampNeg) r9))) : Option (Int32 × Mem))) fun k102 =>
                  (if (lg_cmp r9 (M10.2 rows x1.toNatClampNeg)) = 0 then
                    gd x2 6 (
                      (if (lg_cmp r9 (M10.2 rows x2.toNatClampNeg)) = 0 then
                        k102 0
                        else
                        k102 1))
                    else
                    k102 1))))
            else
            some (0, M))))
      else
      some (0, M)))
set_option maxRecDepth 20000 in
set_option maxHeartbeats 4000000 in
theorem C_Circle_meet (n : Nat) (rows : Nat) (h_rows : SHx[rows]? = some (103, [6])) (p2 : Int32) (p3 : Int32) (M : Mem) : Ct y_Circle_meet mt_Circle_meet wI [Value.ref 11, Value.ref rows, Value.int p2, Value.int p3] M (X_Circle_meet n rows p2 p3 M) := by
  refine ct_of (by decide +kernel) rfl (Nat.le_of_ble_eq_true rfl) ?_
  show J _ _ _ [(0, Value.ref 11), (1, Value.ref rows), (2, Value.int p2), (3, Value.int p3)] _ _ _
  unfold X_Circle_meet
  refine j_iload_n (pc := 0) (q := 3) d_Circle_meet_0 rfl rfl ?_
  refine j_if_lt (pc := 1) (tgt := 10) d_Circle_meet_1 (by decide) (fun _ => ?_) (fun _ => ?_)
  · refine j_iconst (pc := 10) d_Circle_meet_10 k_i_0 ?_
    exact j_zreturn (pc := 11) d_Circle_meet_11 rfl rfl
  · refine j_iload_n (pc := 4) (q := 3) d_Circle_meet_4 rfl rfl ?_
    refine j_bipush (pc := 5) d_Circle_meet_5 k_b_15 ?_
    refine j_icmp_lt (pc := 7) (tgt := 12) d_Circle_meet_7 (by decide) (fun _ => ?_) (fun _ => ?_)
    · refine j_gets200 (pc := 12) d_Circle_meet_12 gs_Circle_50 ?_
      refine j_iload_n (pc := 15) (q := 3) d_Circle_meet_15 rfl rfl ?_
      refine j_ialdS200 (pc := 16) d_Circle_meet_16 (fun _ => ?_)
      refine j_nmi (fun x1 => ?_)
      refine j_istore (pc := 17) d_Circle_meet_17 (by decide) rfl ?_
      refine j_gets201 (pc := 19) d_Circle_meet_19 gs_Circle_53 ?_
      refine j_iload_n (pc := 22) (q := 4) d_Circle_meet_22 rfl rfl ?_
      refine j_ialdS201 (pc := 23) d_Circle_meet_23 (fun _ => ?_)
      refine j_nmi (fun x2 => ?_)
      refine j_istore (pc := 24) d_Circle_meet_24 (by decide) rfl ?_
      refine j_iload_n (pc := 26) (q := 4) d_Circle_meet_26 rfl rfl ?_
      refine j_iload (pc := 27) (q := 1) d_Circle_meet_27 rfl ?_
      refine j_iushr (pc := 29) d_Circle_meet_29 ?_
      refine j_iload_n (pc := 30) (q := 4) d_Circle_meet_30 rfl rfl ?_
      refine j_iload (pc := 31) (q := 0) d_Circle_meet_31 rfl ?_
      refine j_iushr (pc := 33) d_Circle_meet_33 ?_
      refine j_ior (pc := 34) d_Circle_meet_34 ?_
      refine j_iconst (pc := 35) d_Circle_meet_35 k_i_1 ?_
      refine j_iand (pc := 36) d_Circle_meet_36 ?_
      refine j_if_eq (pc := 37) (tgt := 42) d_Circle_meet_37 (by decide) (fun _ => ?_) (fun _ => ?_)
      · refine j_aload_n (pc := 42) (q := 2) d_Circle_meet_42 rfl rfl ?_
        refine j_getA (pc := 43) d_Circle_meet_43 fl_Circle_31 sx_11 (by decide) rfl ?_
        refine j_aload_n (pc := 46) (q := 3) d_Circle_meet_46 rfl rfl ?_
        refine j_iload (pc := 47) (q := 1) d_Circle_meet_47 rfl ?_
        refine j_lald (pc := 49) d_Circle_meet_49 h_rows (fun _ => ?_)
        refine j_callV1 (pc := 50) d_Circle_meet_50 (C_Row_take n 15 sx_15 (M.2 rows x1.toNatClampNeg) M) cV_Circle_56 cd_Row_take dn_Row_take rfl (by decide) (Nat.le_of_ble_eq_true rfl) (Nat.le_of_ble_eq_true rfl) nr_U sx_15 (by decide) rfl (fun r3 M4 => ?_)
        refine j_aload_n (pc := 53) (q := 2) d_Circle_meet_53 rfl rfl ?_
        refine j_getA (pc := 54) d_Circle_meet_54 fl_Circle_31 sx_11 (by decide) rfl ?_
        refine j_aload_n (pc := 57) (q := 3) d_Circle_meet_57 rfl rfl ?_
        refine j_iload (pc := 58) (q := 0) d_Circle_meet_58 rfl ?_
        refine j_lald (pc := 60) d_Circle_meet_60 h_rows (fun _ => ?_)
        refine j_callV1 (pc := 61) d_Circle_meet_61 (C_Row_addAll n 15 sx_15 (M4.2 rows x2.toNatClampNeg) M4) cV_Circle_60 cd_Row_addAll dn_Row_addAll rfl (by decide) (Nat.le_of_ble_eq_true rfl) (Nat.le_of_ble_eq_true rfl) nr_U sx_15 (by decide) rfl (fun r5 M6 => ?_)
        refine j_aload_n (pc := 64) (q := 2) d_Circle_meet_64 rfl rfl ?_
        refine j_callV0 (pc := 65) d_Circle_meet_65 (C_Circle_settle n M6) cV_Circle_63 cd_Circle_settle dn_Circle_settle rfl (by decide) (Nat.le_of_ble_eq_true rfl) (Nat.le_of_ble_eq_true rfl) nr_U sx_11 (by decide) rfl (fun r7 M8 => ?_)
        refine j_aload_n (pc := 68) (q := 2) d_Circle_meet_68 rfl rfl ?_
        refine j_getA (pc := 69) d_Circle_meet_69 fl_Circle_31 sx_11 (by decide) rfl ?_
        refine j_callV0 (pc := 72) d_Circle_meet_72 (C_Row_atRest n 15 sx_15 M8) cV_Circle_66 cd_Row_atRest dn_Row_atRest rfl (by decide) (Nat.le_of_ble_eq_true rfl) (Nat.le_of_ble_eq_true rfl) nr_L sx_15 (by decide) rfl (fun r9 M10 => ?_)
        refine j_lstore (pc := 75) d_Circle_meet_75 (by decide) rfl ?_
        refine j_lload (pc := 77) (q := 0) d_Circle_meet_77 rfl ?_
        refine j_aload_n (pc := 79) (q := 4) d_Circle_meet_79 rfl rfl ?_
        refine j_iload (pc := 80) (q := 2) d_Circle_meet_80 rfl ?_
        refine j_lald (pc := 82) d_Circle_meet_82 h_rows (fun _ => ?_)
        refine j_lcmp (pc := 83) d_Circle_meet_83 ?_
        refine j_nmk (fun k => ∀ (u11 : Int32), J (mt_Circle_meet) wI 102 [(1, Value.ref rows), (4, Value.int x1), (5, Value.int x2), (6, Value.long r9)] [Value.int u11] M10 (k u11)) (fun u11 => ?_) (fun k102 hk102 => ?_)
        · refine j_istore (pc := 102) d_Circle_meet_102 (by decide) rfl ?_
          refine j_aload_n (pc := 104) (q := 1) d_Circle_meet_104 rfl rfl ?_
          refine j_iload (pc := 105) (q := 2) d_Circle_meet_105 rfl ?_
          refine j_lload (pc := 107) (q := 4) d_Circle_meet_107 rfl ?_
          refine j_last (pc := 109) d_Circle_meet_109 h_rows (fun _ => ?_)
          refine j_aload_n (pc := 110) (q := 1) d_Circle_meet_110 rfl rfl ?_
          refine j_iload (pc := 111) (q := 3) d_Circle_meet_111 rfl ?_
          refine j_lload (pc := 113) (q := 4) d_Circle_meet_113 rfl ?_
          refine j_last (pc := 115) d_Circle_meet_115 h_rows (fun _ => ?_)
          refine j_iload (pc := 116) (q := 0) d_Circle_meet_116 rfl ?_
          exact j_zr (pc := 118) d_Circle_meet_118 rfl
        · refine j_if_ne (pc := 84) (tgt := 97) d_Circle_meet_84 (by decide) (fun _ => ?_) (fun _ => ?_)
          · refine j_iconst (pc := 97) d_Circle_meet_97 k_i_1 ?_
            refine j_goto (pc := 98) (tgt := 102) d_Circle_meet_98 (by decide) ?_
            refine j_lv [4, 2, 1, 0] rfl ?_
            exact hk102 1
          · refine j_lload (pc := 87) (q := 0) d_Circle_meet_87 rfl ?_
            refine j_aload_n (pc := 89) (q := 4) d_Circle_meet_89 rfl rfl ?_
            refine j_iload (pc := 90) (q := 1) d_Circle_meet_90 rfl ?_
            refine j_lald (pc := 92) d_Circle_meet_92 h_rows (fun _ => ?_)
            refine j_lcmp (pc := 93) d_Circle_meet_93 ?_
            refine j_if_eq (pc := 94) (tgt := 101) d_Circle_meet_94 (by decide) (fun _ => ?_) (fun _ => ?_)
            · refine j_iconst (pc := 101) d_Circle_meet_101 k_i_0 ?_
              refine j_lv [4, 2, 1, 0] rfl ?_
              exact hk102 0
            · refine j_iconst (pc := 97) d_Circle_meet_97 k_i_1 ?_
              refine j_goto (pc := 98) (tgt := 102) d_Circle_meet_98 (by decide) ?_
              refine j_lv [4, 2, 1, 0] rfl ?_
              exact hk102 1
      · refine j_iconst (pc := 40) d_Circle_meet_40 k_i_0 ?_
        exact j_zreturn (pc := 41) d_Circle_meet_41 rfl rfl
    · refine j_iconst (pc := 10) d_Circle_meet_10 k_i_0 ?_
      exact j_zreturn (pc := 11) d_Circle_meet_11 rfl rfl
-- Circle.celebrate ([JII)V
def mt_Circle_celebrate : Mt := ("ShakeHands$Circle", b_Circle_celebrate, 5, none, 6, SHx)
theorem d_Circle_celebrate_0 : decode b_Circle_celebrate 0 = .ok (.iconst 0, 1) := by decide +kernel
theorem d_Circle_celebrate_1 : decode b_Circle_celebrate 1 = .ok (.istore 4, 2) := by decide +kernel
theorem d_Circle_celebrate_3 : decode b_Circle_celebrate 3 = .ok (.iload 4, 2) := by decide +kernel
theorem d_Circle_celebrate_5 : decode b_Circle_celebrate 5 = .ok (.iload_n 3, 1) := by decide +kernel
theorem d_Circle_celebrate_6 : decode b_Circle_celebrate 6 = .ok (.if_icmp .ge 32, 3) := by decide +kernel
theorem d_Circle_celebrate_9 : decode b_Circle_celebrate 9 = .ok (.iload 4, 2) := by decide +kernel
theorem d_Circle_celebrate_11 : decode b_Circle_celebrate 11 = .ok (.aload_n 0, 1) := by decide +kernel
theorem d_Circle_celebrate_12 : decode b_Circle_celebrate 12 = .ok (.getfield 38, 3) := by decide +kernel
theorem d_Circle_celebrate_15 : decode b_Circle_celebrate 15 = .ok (.if_icmp .ge 23, 3) := by decide +kernel
theorem d_Circle_celebrate_18 : decode b_Circle_celebrate 18 = .ok (.aload_n 0, 1) := by decide +kernel
theorem d_Circle_celebrate_19 : decode b_Circle_celebrate 19 = .ok (.aload_n 1, 1) := by decide +kernel
theorem d_Circle_celebrate_20 : decode b_Circle_celebrate 20 = .ok (.iload_n 2, 1) := by decide +kernel
theorem d_Circle_celebrate_21 : decode b_Circle_celebrate 21 = .ok (.aload_n 0, 1) := by decide +kernel
theorem d_Circle_celebrate_22 : decode b_Circle_celebrate 22 = .ok (.getfield 24, 3) := by decide +kernel
theorem d_Circle_celebrate_25 : decode b_Circle_celebrate 25 = .ok (.iload 4, 2) := by decide +kernel
theorem d_Circle_celebrate_27 : decode b_Circle_celebrate 27 = .ok (.iaload, 1) := by decide +kernel
theorem d_Circle_celebrate_28 : decode b_Circle_celebrate 28 = .ok (.invokevirtual 77, 3) := by decide +kernel
theorem d_Circle_celebrate_31 : decode b_Circle_celebrate 31 = .ok (.pop, 1) := by decide +kernel
theorem d_Circle_celebrate_32 : decode b_Circle_celebrate 32 = .ok (.iinc 4 1, 3) := by decide +kernel
theorem d_Circle_celebrate_35 : decode b_Circle_celebrate 35 = .ok (.goto (-32), 3) := by decide +kernel
theorem d_Circle_celebrate_38 : decode b_Circle_celebrate 38 = .ok (.return_, 1) := by decide +kernel
def X_Circle_celebrate_L3 (n : Nat) (rows : Nat) (a2 : Int32) (a3 : Int32) : Nat → Int32 → Mem → Option (Unit × Mem)
    | 0, _, _ => none
    | m + 1, v4, M => (if a3 ≤ v4 then
    some ((), M)
    else
    (if (M.1 11 5) ≤ v4 then
      some ((), M)
      else
      gd v4 16 (
        bd (X_Circle_meet n rows a2 (M.1 13 v4.toNatClampNeg) M) fun r1 M2 =>
        X_Circle_celebrate_L3 n rows a2 a3 m (v4 + 1) M2)))
def X_Circle_celebrate (n : Nat) (rows : Nat) (p2 : Int32) (p3 : Int32) (M : Mem) : Option (Unit × Mem) :=
  X_Circle_celebrate_L3 n rows p2 p3 n 0 M
set_option maxRecDepth 20000 in
set_option maxHeartbeats 4000000 in
theorem X_Circle_celebrate_L3_ok {n : Nat} {rows : Nat} {a2 : Int32} {a3 : Int32} (h_rows : SHx[rows]? = some (103, [6])) : ∀ (m : Nat) (v4 : Int32) (M : Mem), J (mt_Circle_celebrate) wU 3 [(0, Value.ref 11), (1, Value.ref rows), (2, Value.int a2), (3, Value.int a3), (4, Value.int v4)] [] M (X_Circle_celebrate_L3 n rows a2 a3 m v4 M) := by
  intro m
  induction m with
  | zero => intro _ _; exact j_none
  | succ m ih =>
    intro v4 M
    show J _ _ _ _ _ _ ((if a3 ≤ v4 then
some ((), M)
else
(if (M.1 11 5) ≤ v4 then
some ((), M)
else
gd v4 16 (
bd (X_Circle_meet n rows a2 (M.1 13 v4.toNatClampNeg) M) fun r1 M2 =>
X_Circle_celebrate_L3 n rows a2 a3 m (v4 + 1) M2))))
    refine j_iload (pc := 3) (q := 4) d_Circle_celebrate_3 rfl ?_
    refine j_iload_n (pc := 5) (q := 3) d_Circle_celebrate_5 rfl rfl ?_
    refine j_icmp_ge (pc := 6) (tgt := 38) d_Circle_celebrate_6 (by decide) (fun _ => ?_) (fun _ => ?_)
    · exact j_return (pc := 38) d_Circle_celebrate_38 rfl
    · refine j_iload (pc := 9) (q := 4) d_Circle_celebrate_9 rfl ?_
      refine j_aload_n (pc := 11) (q := 0) d_Circle_celebrate_11 rfl rfl ?_
      refine j_getI (pc := 12) d_Circle_celebrate_12 fl_Circle_38 sx_11 (by decide) rfl ?_
      refine j_icmp_ge (pc := 15) (tgt := 38) d_Circle_celebrate_15 (by decide) (fun _ => ?_) (fun _ => ?_)
      · exact j_return (pc := 38) d_Circle_celebrate_38 rfl
      · refine j_aload_n (pc := 18) (q := 0) d_Circle_celebrate_18 rfl rfl ?_
        refine j_aload_n (pc := 19) (q := 1) d_Circle_celebrate_19 rfl rfl ?_
        refine j_iload_n (pc := 20) (q := 2) d_Circle_celebrate_20 rfl rfl ?_
        refine j_aload_n (pc := 21) (q := 0) d_Circle_celebrate_21 rfl rfl ?_
        refine j_getA (pc := 22) d_Circle_celebrate_22 fl_Circle_24 sx_11 (by decide) rfl ?_
        refine j_iload (pc := 25) (q := 4) d_Circle_celebrate_25 rfl ?_
        refine j_iald (pc := 27) d_Circle_celebrate_27 sx_13 (fun _ => ?_)
        refine j_callV3 (pc := 28) d_Circle_celebrate_28 (C_Circle_meet n rows h_rows a2 (M.1 13 v4.toNatClampNeg) M) cV_Circle_77 cd_Circle_meet dn_Circle_meet rfl (by decide) (Nat.le_of_ble_eq_true rfl) (Nat.le_of_ble_eq_true rfl) nr_I sx_11 (by decide) rfl (fun r1 M2 => ?_)
        refine j_pop (pc := 31) d_Circle_celebrate_31 rfl ?_
        refine j_iinc (pc := 32) (q := 4) d_Circle_celebrate_32 rfl (congrArg (v4 + ·) k_i_1) (by decide) rfl ?_
        refine j_goto (pc := 35) (tgt := 3) d_Circle_celebrate_35 (by decide) ?_
        refine j_lv [1, 2, 3, 4, 0] rfl ?_
        exact ih (v4 + 1) M2
set_option maxRecDepth 20000 in
set_option maxHeartbeats 4000000 in
theorem C_Circle_celebrate (n : Nat) (rows : Nat) (h_rows : SHx[rows]? = some (103, [6])) (p2 : Int32) (p3 : Int32) (M : Mem) : Ct y_Circle_celebrate mt_Circle_celebrate wU [Value.ref 11, Value.ref rows, Value.int p2, Value.int p3] M (X_Circle_celebrate n rows p2 p3 M) := by
  refine ct_of (by decide +kernel) rfl (Nat.le_of_ble_eq_true rfl) ?_
  show J _ _ _ [(0, Value.ref 11), (1, Value.ref rows), (2, Value.int p2), (3, Value.int p3)] _ _ _
  unfold X_Circle_celebrate
  refine j_iconst (pc := 0) d_Circle_celebrate_0 k_i_0 ?_
  refine j_istore (pc := 1) d_Circle_celebrate_1 (by decide) rfl ?_
  refine j_lv [1, 2, 3, 4, 0] rfl ?_
  exact X_Circle_celebrate_L3_ok h_rows  n 0 M
-- Circle.liveDay ([JI)V
def mt_Circle_liveDay : Mt := ("ShakeHands$Circle", b_Circle_liveDay, 4, none, 6, SHx)
theorem d_Circle_liveDay_0 : decode b_Circle_liveDay 0 = .ok (.iconst 0, 1) := by decide +kernel
theorem d_Circle_liveDay_1 : decode b_Circle_liveDay 1 = .ok (.istore_n 3, 1) := by decide +kernel
theorem d_Circle_liveDay_2 : decode b_Circle_liveDay 2 = .ok (.iload_n 3, 1) := by decide +kernel
theorem d_Circle_liveDay_3 : decode b_Circle_liveDay 3 = .ok (.aload_n 0, 1) := by decide +kernel
theorem d_Circle_liveDay_4 : decode b_Circle_liveDay 4 = .ok (.getfield 41, 3) := by decide +kernel
theorem d_Circle_liveDay_7 : decode b_Circle_liveDay 7 = .ok (.if_icmp .ge 22, 3) := by decide +kernel
theorem d_Circle_liveDay_10 : decode b_Circle_liveDay 10 = .ok (.aload_n 0, 1) := by decide +kernel
theorem d_Circle_liveDay_11 : decode b_Circle_liveDay 11 = .ok (.aload_n 1, 1) := by decide +kernel
theorem d_Circle_liveDay_12 : decode b_Circle_liveDay 12 = .ok (.iload_n 2, 1) := by decide +kernel
theorem d_Circle_liveDay_13 : decode b_Circle_liveDay 13 = .ok (.aload_n 0, 1) := by decide +kernel
theorem d_Circle_liveDay_14 : decode b_Circle_liveDay 14 = .ok (.getfield 27, 3) := by decide +kernel
theorem d_Circle_liveDay_17 : decode b_Circle_liveDay 17 = .ok (.iload_n 3, 1) := by decide +kernel
theorem d_Circle_liveDay_18 : decode b_Circle_liveDay 18 = .ok (.iaload, 1) := by decide +kernel
theorem d_Circle_liveDay_19 : decode b_Circle_liveDay 19 = .ok (.invokevirtual 77, 3) := by decide +kernel
theorem d_Circle_liveDay_22 : decode b_Circle_liveDay 22 = .ok (.pop, 1) := by decide +kernel
theorem d_Circle_liveDay_23 : decode b_Circle_liveDay 23 = .ok (.iinc 3 1, 3) := by decide +kernel
theorem d_Circle_liveDay_26 : decode b_Circle_liveDay 26 = .ok (.goto (-24), 3) := by decide +kernel
theorem d_Circle_liveDay_29 : decode b_Circle_liveDay 29 = .ok (.return_, 1) := by decide +kernel
def X_Circle_liveDay_L2 (n : Nat) (rows : Nat) (a2 : Int32) : Nat → Int32 → Mem → Option (Unit × Mem)
    | 0, _, _ => none
    | m + 1, v3, M => (if (M.1 11 7) ≤ v3 then
    some ((), M)
    else
    gd v3 8 (
      bd (X_Circle_meet n rows a2 (M.1 14 v3.toNatClampNeg) M) fun r1 M2 =>
      X_Circle_liveDay_L2 n rows a2 m (v3 + 1) M2))
def X_Circle_liveDay (n : Nat) (rows : Nat) (p2 : Int32) (M : Mem) : Option (Unit × Mem) :=
  X_Circle_liveDay_L2 n rows p2 n 0 M
set_option maxRecDepth 20000 in
set_option maxHeartbeats 4000000 in
theorem X_Circle_liveDay_L2_ok {n : Nat} {rows : Nat} {a2 : Int32} (h_rows : SHx[rows]? = some (103, [6])) : ∀ (m : Nat) (v3 : Int32) (M : Mem), J (mt_Circle_liveDay) wU 2 [(0, Value.ref 11), (1, Value.ref rows), (2, Value.int a2), (3, Value.int v3)] [] M (X_Circle_liveDay_L2 n rows a2 m v3 M) := by
  intro m
  induction m with
  | zero => intro _ _; exact j_none
  | succ m ih =>
    intro v3 M
    show J _ _ _ _ _ _ ((if (M.1 11 7) ≤ v3 then
some ((), M)
else
gd v3 8 (
bd (X_Circle_meet n rows a2 (M.1 14 v3.toNatClampNeg) M) fun r1 M2 =>
X_Circle_liveDay_L2 n rows a2 m (v3 + 1) M2)))
    refine j_iload_n (pc := 2) (q := 3) d_Circle_liveDay_2 rfl rfl ?_
    refine j_aload_n (pc := 3) (q := 0) d_Circle_liveDay_3 rfl rfl ?_
    refine j_getI (pc := 4) d_Circle_liveDay_4 fl_Circle_41 sx_11 (by decide) rfl ?_
    refine j_icmp_ge (pc := 7) (tgt := 29) d_Circle_liveDay_7 (by decide) (fun _ => ?_) (fun _ => ?_)
    · exact j_return (pc := 29) d_Circle_liveDay_29 rfl
    · refine j_aload_n (pc := 10) (q := 0) d_Circle_liveDay_10 rfl rfl ?_
      refine j_aload_n (pc := 11) (q := 1) d_Circle_liveDay_11 rfl rfl ?_
      refine j_iload_n (pc := 12) (q := 2) d_Circle_liveDay_12 rfl rfl ?_
      refine j_aload_n (pc := 13) (q := 0) d_Circle_liveDay_13 rfl rfl ?_
      refine j_getA (pc := 14) d_Circle_liveDay_14 fl_Circle_27 sx_11 (by decide) rfl ?_
      refine j_iload_n (pc := 17) (q := 3) d_Circle_liveDay_17 rfl rfl ?_
      refine j_iald (pc := 18) d_Circle_liveDay_18 sx_14 (fun _ => ?_)
      refine j_callV3 (pc := 19) d_Circle_liveDay_19 (C_Circle_meet n rows h_rows a2 (M.1 14 v3.toNatClampNeg) M) cV_Circle_77 cd_Circle_meet dn_Circle_meet rfl (by decide) (Nat.le_of_ble_eq_true rfl) (Nat.le_of_ble_eq_true rfl) nr_I sx_11 (by decide) rfl (fun r1 M2 => ?_)
      refine j_pop (pc := 22) d_Circle_liveDay_22 rfl ?_
      refine j_iinc (pc := 23) (q := 3) d_Circle_liveDay_23 rfl (congrArg (v3 + ·) k_i_1) (by decide) rfl ?_
      refine j_goto (pc := 26) (tgt := 2) d_Circle_liveDay_26 (by decide) ?_
      refine j_lv [1, 2, 3, 0] rfl ?_
      exact ih (v3 + 1) M2
set_option maxRecDepth 20000 in
set_option maxHeartbeats 4000000 in
theorem C_Circle_liveDay (n : Nat) (rows : Nat) (h_rows : SHx[rows]? = some (103, [6])) (p2 : Int32) (M : Mem) : Ct y_Circle_liveDay mt_Circle_liveDay wU [Value.ref 11, Value.ref rows, Value.int p2] M (X_Circle_liveDay n rows p2 M) := by
  refine ct_of (by decide +kernel) rfl (Nat.le_of_ble_eq_true rfl) ?_
  show J _ _ _ [(0, Value.ref 11), (1, Value.ref rows), (2, Value.int p2)] _ _ _
  unfold X_Circle_liveDay
  refine j_iconst (pc := 0) d_Circle_liveDay_0 k_i_0 ?_
  refine j_istore_n (pc := 1) d_Circle_liveDay_1 rfl (by decide) rfl ?_
  refine j_lv [1, 2, 3, 0] rfl ?_
  exact X_Circle_liveDay_L2_ok h_rows  n 0 M
-- Habit.lastDay (I)I
def mt_Habit_lastDay : Mt := ("ShakeHands$Habit", b_Habit_lastDay, 3, some .int, 7, SHx)
theorem d_Habit_lastDay_0 : decode b_Habit_lastDay 0 = .ok (.aload_n 0, 1) := by decide +kernel
theorem d_Habit_lastDay_1 : decode b_Habit_lastDay 1 = .ok (.getfield 22, 3) := by decide +kernel
theorem d_Habit_lastDay_4 : decode b_Habit_lastDay 4 = .ok (.getfield 26, 3) := by decide +kernel
theorem d_Habit_lastDay_7 : decode b_Habit_lastDay 7 = .ok (.iconst 0, 1) := by decide +kernel
theorem d_Habit_lastDay_8 : decode b_Habit_lastDay 8 = .ok (.aload_n 0, 1) := by decide +kernel
theorem d_Habit_lastDay_9 : decode b_Habit_lastDay 9 = .ok (.getfield 15, 3) := by decide +kernel
theorem d_Habit_lastDay_12 : decode b_Habit_lastDay 12 = .ok (.iconst 0, 1) := by decide +kernel
theorem d_Habit_lastDay_13 : decode b_Habit_lastDay 13 = .ok (.bipush 6, 2) := by decide +kernel
theorem d_Habit_lastDay_15 : decode b_Habit_lastDay 15 = .ok (.invokestatic 29, 3) := by decide +kernel
theorem d_Habit_lastDay_18 : decode b_Habit_lastDay 18 = .ok (.iconst 0, 1) := by decide +kernel
theorem d_Habit_lastDay_19 : decode b_Habit_lastDay 19 = .ok (.istore_n 2, 1) := by decide +kernel
theorem d_Habit_lastDay_20 : decode b_Habit_lastDay 20 = .ok (.iload_n 2, 1) := by decide +kernel
theorem d_Habit_lastDay_21 : decode b_Habit_lastDay 21 = .ok (.sipush 200, 3) := by decide +kernel
theorem d_Habit_lastDay_24 : decode b_Habit_lastDay 24 = .ok (.if_icmp .gt 40, 3) := by decide +kernel
theorem d_Habit_lastDay_27 : decode b_Habit_lastDay 27 = .ok (.aload_n 0, 1) := by decide +kernel
theorem d_Habit_lastDay_28 : decode b_Habit_lastDay 28 = .ok (.getfield 15, 3) := by decide +kernel
theorem d_Habit_lastDay_31 : decode b_Habit_lastDay 31 = .ok (.iload_n 1, 1) := by decide +kernel
theorem d_Habit_lastDay_32 : decode b_Habit_lastDay 32 = .ok (.invokestatic 35, 3) := by decide +kernel
theorem d_Habit_lastDay_35 : decode b_Habit_lastDay 35 = .ok (.ifCond .ne 5, 3) := by decide +kernel
theorem d_Habit_lastDay_38 : decode b_Habit_lastDay 38 = .ok (.iload_n 2, 1) := by decide +kernel
theorem d_Habit_lastDay_39 : decode b_Habit_lastDay 39 = .ok (.ireturn, 1) := by decide +kernel
theorem d_Habit_lastDay_40 : decode b_Habit_lastDay 40 = .ok (.aload_n 0, 1) := by decide +kernel
theorem d_Habit_lastDay_41 : decode b_Habit_lastDay 41 = .ok (.getfield 18, 3) := by decide +kernel
theorem d_Habit_lastDay_44 : decode b_Habit_lastDay 44 = .ok (.aload_n 0, 1) := by decide +kernel
theorem d_Habit_lastDay_45 : decode b_Habit_lastDay 45 = .ok (.getfield 15, 3) := by decide +kernel
theorem d_Habit_lastDay_48 : decode b_Habit_lastDay 48 = .ok (.aload_n 0, 1) := by decide +kernel
theorem d_Habit_lastDay_49 : decode b_Habit_lastDay 49 = .ok (.getfield 22, 3) := by decide +kernel
theorem d_Habit_lastDay_52 : decode b_Habit_lastDay 52 = .ok (.getfield 39, 3) := by decide +kernel
theorem d_Habit_lastDay_55 : decode b_Habit_lastDay 55 = .ok (.invokevirtual 43, 3) := by decide +kernel
theorem d_Habit_lastDay_58 : decode b_Habit_lastDay 58 = .ok (.iinc 2 1, 3) := by decide +kernel
theorem d_Habit_lastDay_61 : decode b_Habit_lastDay 61 = .ok (.goto (-41), 3) := by decide +kernel
theorem d_Habit_lastDay_64 : decode b_Habit_lastDay 64 = .ok (.bipush (-4), 2) := by decide +kernel
theorem d_Habit_lastDay_66 : decode b_Habit_lastDay 66 = .ok (.ireturn, 1) := by decide +kernel
def X_Habit_lastDay_L20 (n : Nat) (a1 : Int32) : Nat → Int32 → Mem → Option (Int32 × Mem)
    | 0, _, _ => none
    | m + 1, v2, M => (if 200 < v2 then
    some ((-4), M)
    else
    bd (X_Minds_knowers n 39 a1 M) fun r1 M2 =>
    (if r1 = 0 then
      some (v2, M2)
      else
      bd (X_Circle_liveDay n 39 (M2.1 16 1) M2) fun _ M4 =>
      X_Habit_lastDay_L20 n a1 m (v2 + 1) M4))
def X_Habit_lastDay (n : Nat) (p1 : Int32) (M : Mem) : Option (Int32 × Mem) :=
  gc (0 : Int32) (0 : Int32) (6 : Int32) 6 6 (
    X_Habit_lastDay_L20 n p1 n 0 (cpL M 17 ((0 : Int32).toNatClampNeg) 39 ((0 : Int32).toNatClampNeg) ((6 : Int32).toNatClampNeg)))
set_option maxRecDepth 20000 in
set_option maxHeartbeats 4000000 in
theorem X_Habit_lastDay_L20_ok {n : Nat} {a1 : Int32} : ∀ (m : Nat) (v2 : Int32) (M : Mem), J (mt_Habit_lastDay) wI 20 [(0, Value.ref 37), (1, Value.int a1), (2, Value.int v2)] [] M (X_Habit_lastDay_L20 n a1 m v2 M) := by
  intro m
  induction m with
  | zero => intro _ _; exact j_none
  | succ m ih =>
    intro v2 M
    show J _ _ _ _ _ _ ((if 200 < v2 then
some ((-4), M)
else
bd (X_Minds_knowers n 39 a1 M) fun r1 M2 =>
(if r1 = 0 then
some (v2, M2)
else
bd (X_Circle_liveDay n 39 (M2.1 16 1) M2) fun _ M4 =>
X_Habit_lastDay_L20 n a1 m (v2 + 1) M4)))
    refine j_iload_n (pc := 20) (q := 2) d_Habit_lastDay_20 rfl rfl ?_
    refine j_sipush (pc := 21) d_Habit_lastDay_21 k_s_200 ?_
    refine j_icmp_gt (pc := 24) (tgt := 64) d_Habit_lastDay_24 (by decide) (fun _ => ?_) (fun _ => ?_)
    · refine j_bipush (pc := 64) d_Habit_lastDay_64 k_b_m4 ?_
      exact j_ireturn (pc := 66) d_Habit_lastDay_66 rfl
    · refine j_aload_n (pc := 27) (q := 0) d_Habit_lastDay_27 rfl rfl ?_
      refine j_getA (pc := 28) d_Habit_lastDay_28 fl_Habit_15 sx_37 (by decide) rfl ?_
      refine j_iload_n (pc := 31) (q := 1) d_Habit_lastDay_31 rfl rfl ?_
      refine j_callS2 (pc := 32) d_Habit_lastDay_32 (C_Minds_knowers n 39 sx_39 a1 M) cS_Habit_35 cd_Minds_knowers dn_Minds_knowers rfl (by decide) (Nat.le_of_ble_eq_true rfl) (Nat.le_of_ble_eq_true rfl) nr_I (fun r1 M2 => ?_)
      refine j_if_ne (pc := 35) (tgt := 40) d_Habit_lastDay_35 (by decide) (fun _ => ?_) (fun _ => ?_)
      · refine j_aload_n (pc := 40) (q := 0) d_Habit_lastDay_40 rfl rfl ?_
        refine j_getA (pc := 41) d_Habit_lastDay_41 fl_Habit_18 sx_37 (by decide) rfl ?_
        refine j_aload_n (pc := 44) (q := 0) d_Habit_lastDay_44 rfl rfl ?_
        refine j_getA (pc := 45) d_Habit_lastDay_45 fl_Habit_15 sx_37 (by decide) rfl ?_
        refine j_aload_n (pc := 48) (q := 0) d_Habit_lastDay_48 rfl rfl ?_
        refine j_getA (pc := 49) d_Habit_lastDay_49 fl_Habit_22 sx_37 (by decide) rfl ?_
        refine j_getI (pc := 52) d_Habit_lastDay_52 fl_Habit_39 sx_16 (by decide) rfl ?_
        refine j_callV2 (pc := 55) d_Habit_lastDay_55 (C_Circle_liveDay n 39 sx_39 (M2.1 16 1) M2) cV_Habit_43 cd_Circle_liveDay dn_Circle_liveDay rfl (by decide) (Nat.le_of_ble_eq_true rfl) (Nat.le_of_ble_eq_true rfl) nr_U sx_11 (by decide) rfl (fun r3 M4 => ?_)
        refine j_iinc (pc := 58) (q := 2) d_Habit_lastDay_58 rfl (congrArg (v2 + ·) k_i_1) (by decide) rfl ?_
        refine j_goto (pc := 61) (tgt := 20) d_Habit_lastDay_61 (by decide) ?_
        refine j_lv [1, 2, 0] rfl ?_
        exact ih (v2 + 1) M4
      · refine j_iload_n (pc := 38) (q := 2) d_Habit_lastDay_38 rfl rfl ?_
        exact j_ireturn (pc := 39) d_Habit_lastDay_39 rfl
set_option maxRecDepth 20000 in
set_option maxHeartbeats 4000000 in
theorem C_Habit_lastDay (n : Nat)   (p1 : Int32) (M : Mem) : Ct y_Habit_lastDay mt_Habit_lastDay wI [Value.ref 37, Value.int p1] M (X_Habit_lastDay n p1 M) := by
  refine ct_of (by decide +kernel) rfl (Nat.le_of_ble_eq_true rfl) ?_
  show J _ _ _ [(0, Value.ref 37), (1, Value.int p1)] _ _ _
  unfold X_Habit_lastDay
  refine j_aload_n (pc := 0) (q := 0) d_Habit_lastDay_0 rfl rfl ?_
  refine j_getA (pc := 1) d_Habit_lastDay_1 fl_Habit_22 sx_37 (by decide) rfl ?_
  refine j_getA (pc := 4) d_Habit_lastDay_4 fl_Habit_26 sx_16 (by decide) rfl ?_
  refine j_iconst (pc := 7) d_Habit_lastDay_7 k_i_0 ?_
  refine j_aload_n (pc := 8) (q := 0) d_Habit_lastDay_8 rfl rfl ?_
  refine j_getA (pc := 9) d_Habit_lastDay_9 fl_Habit_15 sx_37 (by decide) rfl ?_
  refine j_iconst (pc := 12) d_Habit_lastDay_12 k_i_0 ?_
  refine j_bipush (pc := 13) d_Habit_lastDay_13 k_b_6 ?_
  refine j_copyL (pc := 15) d_Habit_lastDay_15 cw_Habit_29 cw_nat cw_st sx_17 sx_39 (by decide) (Nat.le_of_ble_eq_true rfl) ?_
  refine j_iconst (pc := 18) d_Habit_lastDay_18 k_i_0 ?_
  refine j_istore_n (pc := 19) d_Habit_lastDay_19 rfl (by decide) rfl ?_
  refine j_lv [1, 2, 0] rfl ?_
  exact X_Habit_lastDay_L20_ok   n 0 (cpL M 17 ((0 : Int32).toNatClampNeg) 39 ((0 : Int32).toNatClampNeg) ((6 : Int32).toNatClampNeg))
-- Habit.sameDay (I)I
def mt_Habit_sameDay : Mt := ("ShakeHands$Habit", b_Habit_sameDay, 4, some .int, 2, SHx)
theorem d_Habit_sameDay_0 : decode b_Habit_sameDay 0 = .ok (.iconst 0, 1) := by decide +kernel
theorem d_Habit_sameDay_1 : decode b_Habit_sameDay 1 = .ok (.istore_n 2, 1) := by decide +kernel
theorem d_Habit_sameDay_2 : decode b_Habit_sameDay 2 = .ok (.iload_n 2, 1) := by decide +kernel
theorem d_Habit_sameDay_3 : decode b_Habit_sameDay 3 = .ok (.iload_n 1, 1) := by decide +kernel
theorem d_Habit_sameDay_4 : decode b_Habit_sameDay 4 = .ok (.if_icmp .ge 52, 3) := by decide +kernel
theorem d_Habit_sameDay_7 : decode b_Habit_sameDay 7 = .ok (.iconst 0, 1) := by decide +kernel
theorem d_Habit_sameDay_8 : decode b_Habit_sameDay 8 = .ok (.istore_n 3, 1) := by decide +kernel
theorem d_Habit_sameDay_9 : decode b_Habit_sameDay 9 = .ok (.iload_n 3, 1) := by decide +kernel
theorem d_Habit_sameDay_10 : decode b_Habit_sameDay 10 = .ok (.bipush 6, 2) := by decide +kernel
theorem d_Habit_sameDay_12 : decode b_Habit_sameDay 12 = .ok (.if_icmp .ge 30, 3) := by decide +kernel
theorem d_Habit_sameDay_15 : decode b_Habit_sameDay 15 = .ok (.aload_n 0, 1) := by decide +kernel
theorem d_Habit_sameDay_16 : decode b_Habit_sameDay 16 = .ok (.getfield 11, 3) := by decide +kernel
theorem d_Habit_sameDay_19 : decode b_Habit_sameDay 19 = .ok (.iload_n 2, 1) := by decide +kernel
theorem d_Habit_sameDay_20 : decode b_Habit_sameDay 20 = .ok (.bipush 6, 2) := by decide +kernel
theorem d_Habit_sameDay_22 : decode b_Habit_sameDay 22 = .ok (.imul, 1) := by decide +kernel
theorem d_Habit_sameDay_23 : decode b_Habit_sameDay 23 = .ok (.iload_n 3, 1) := by decide +kernel
theorem d_Habit_sameDay_24 : decode b_Habit_sameDay 24 = .ok (.iadd, 1) := by decide +kernel
theorem d_Habit_sameDay_25 : decode b_Habit_sameDay 25 = .ok (.laload, 1) := by decide +kernel
theorem d_Habit_sameDay_26 : decode b_Habit_sameDay 26 = .ok (.aload_n 0, 1) := by decide +kernel
theorem d_Habit_sameDay_27 : decode b_Habit_sameDay 27 = .ok (.getfield 15, 3) := by decide +kernel
theorem d_Habit_sameDay_30 : decode b_Habit_sameDay 30 = .ok (.iload_n 3, 1) := by decide +kernel
theorem d_Habit_sameDay_31 : decode b_Habit_sameDay 31 = .ok (.laload, 1) := by decide +kernel
theorem d_Habit_sameDay_32 : decode b_Habit_sameDay 32 = .ok (.lcmp, 1) := by decide +kernel
theorem d_Habit_sameDay_33 : decode b_Habit_sameDay 33 = .ok (.ifCond .ne 9, 3) := by decide +kernel
theorem d_Habit_sameDay_36 : decode b_Habit_sameDay 36 = .ok (.iinc 3 1, 3) := by decide +kernel
theorem d_Habit_sameDay_39 : decode b_Habit_sameDay 39 = .ok (.goto (-30), 3) := by decide +kernel
theorem d_Habit_sameDay_42 : decode b_Habit_sameDay 42 = .ok (.iload_n 3, 1) := by decide +kernel
theorem d_Habit_sameDay_43 : decode b_Habit_sameDay 43 = .ok (.bipush 6, 2) := by decide +kernel
theorem d_Habit_sameDay_45 : decode b_Habit_sameDay 45 = .ok (.if_icmp .ne 5, 3) := by decide +kernel
theorem d_Habit_sameDay_48 : decode b_Habit_sameDay 48 = .ok (.iload_n 2, 1) := by decide +kernel
theorem d_Habit_sameDay_49 : decode b_Habit_sameDay 49 = .ok (.ireturn, 1) := by decide +kernel
theorem d_Habit_sameDay_50 : decode b_Habit_sameDay 50 = .ok (.iinc 2 1, 3) := by decide +kernel
theorem d_Habit_sameDay_53 : decode b_Habit_sameDay 53 = .ok (.goto (-51), 3) := by decide +kernel
theorem d_Habit_sameDay_56 : decode b_Habit_sameDay 56 = .ok (.iconst (-1), 1) := by decide +kernel
theorem d_Habit_sameDay_57 : decode b_Habit_sameDay 57 = .ok (.ireturn, 1) := by decide +kernel
def X_Habit_sameDay_L9 (n : Nat) (a1 : Int32) (a2 : Int32) (kx42 : Int32 → Option (Int32 × Mem)) (M : Mem) : Nat → Int32 → Option (Int32 × Mem)
    | 0, _ => none
    | m + 1, v3 => (if 6 ≤ v3 then
    kx42 v3
    else
    gd ((a2 * 6) + v3) 1206 (
      gd v3 6 (
        (if (lg_cmp (M.2 38 ((a2 * 6) + v3).toNatClampNeg) (M.2 39 v3.toNatClampNeg)) = 0 then
          X_Habit_sameDay_L9 n a1 a2 kx42 M m (v3 + 1)
          else
          kx42 v3))))
def X_Habit_sameDay_L2 (n : Nat) (a1 : Int32) (M : Mem) : Nat → Int32 → Option (Int32 × Mem)
    | 0, _ => none
    | m + 1, v2 => (if a1 ≤ v2 then
    some ((-1), M)
    else
    X_Habit_sameDay_L9 n a1 v2 (fun y1 => (if y1 = 6 then
        some (v2, M)
        else
        X_Habit_sameDay_L2 n a1 M m (v2 + 1))) M n 0)
def X_Habit_sameDay (n : Nat) (p1 : Int32) (M : Mem) : Option (Int32 × Mem) :=
  X_Habit_sameDay_L2 n p1 M n 0
set_option maxRecDepth 20000 in
set_option maxHeartbeats 4000000 in
theorem X_Habit_sameDay_L9_ok {n : Nat} {a1 : Int32} {a2 : Int32} {kx42 : Int32 → Option (Int32 × Mem)} {M : Mem} (hkx42 : ∀ (w3 : Int32), J (mt_Habit_sameDay) wI 42 [(0, Value.ref 37), (1, Value.int a1), (2, Value.int a2), (3, Value.int w3)] [] M (kx42 w3)) : ∀ (m : Nat) (v3 : Int32), J (mt_Habit_sameDay) wI 9 [(0, Value.ref 37), (1, Value.int a1), (2, Value.int a2), (3, Value.int v3)] [] M (X_Habit_sameDay_L9 n a1 a2 kx42 M m v3) := by
  intro m
  induction m with
  | zero => intro _; exact j_none
  | succ m ih =>
    intro v3
    show J _ _ _ _ _ _ ((if 6 ≤ v3 then
kx42 v3
else
gd ((a2 * 6) + v3) 1206 (
gd v3 6 (
(if (lg_cmp (M.2 38 ((a2 * 6) + v3).toNatClampNeg) (M.2 39 v3.toNatClampNeg)) = 0 then
X_Habit_sameDay_L9 n a1 a2 kx42 M m (v3 + 1)
else
kx42 v3)))))
    refine j_iload_n (pc := 9) (q := 3) d_Habit_sameDay_9 rfl rfl ?_
    refine j_bipush (pc := 10) d_Habit_sameDay_10 k_b_6 ?_
    refine j_icmp_ge (pc := 12) (tgt := 42) d_Habit_sameDay_12 (by decide) (fun _ => ?_) (fun _ => ?_)
    · exact hkx42 v3
    · refine j_aload_n (pc := 15) (q := 0) d_Habit_sameDay_15 rfl rfl ?_
      refine j_getA (pc := 16) d_Habit_sameDay_16 fl_Habit_11 sx_37 (by decide) rfl ?_
      refine j_iload_n (pc := 19) (q := 2) d_Habit_sameDay_19 rfl rfl ?_
      refine j_bipush (pc := 20) d_Habit_sameDay_20 k_b_6 ?_
      refine j_imul (pc := 22) d_Habit_sameDay_22 ?_
      refine j_iload_n (pc := 23) (q := 3) d_Habit_sameDay_23 rfl rfl ?_
      refine j_iadd (pc := 24) d_Habit_sameDay_24 ?_
      refine j_lald (pc := 25) d_Habit_sameDay_25 sx_38 (fun _ => ?_)
      refine j_aload_n (pc := 26) (q := 0) d_Habit_sameDay_26 rfl rfl ?_
      refine j_getA (pc := 27) d_Habit_sameDay_27 fl_Habit_15 sx_37 (by decide) rfl ?_
      refine j_iload_n (pc := 30) (q := 3) d_Habit_sameDay_30 rfl rfl ?_
      refine j_lald (pc := 31) d_Habit_sameDay_31 sx_39 (fun _ => ?_)
      refine j_lcmp (pc := 32) d_Habit_sameDay_32 ?_
      refine j_if_ne (pc := 33) (tgt := 42) d_Habit_sameDay_33 (by decide) (fun _ => ?_) (fun _ => ?_)
      · exact hkx42 v3
      · refine j_iinc (pc := 36) (q := 3) d_Habit_sameDay_36 rfl (congrArg (v3 + ·) k_i_1) (by decide) rfl ?_
        refine j_goto (pc := 39) (tgt := 9) d_Habit_sameDay_39 (by decide) ?_
        refine j_lv [1, 2, 3, 0] rfl ?_
        exact ih (v3 + 1)
set_option maxRecDepth 20000 in
set_option maxHeartbeats 4000000 in
theorem X_Habit_sameDay_L2_ok {n : Nat} {a1 : Int32} {M : Mem} : ∀ (m : Nat) (v2 : Int32), J (mt_Habit_sameDay) wI 2 [(0, Value.ref 37), (1, Value.int a1), (2, Value.int v2)] [] M (X_Habit_sameDay_L2 n a1 M m v2) := by
  intro m
  induction m with
  | zero => intro _; exact j_none
  | succ m ih =>
    intro v2
    show J _ _ _ _ _ _ ((if a1 ≤ v2 then
some ((-1), M)
else
X_Habit_sameDay_L9 n a1 v2 (fun y1 => (if y1 = 6 then
some (v2, M)
else
X_Habit_sameDay_L2 n a1 M m (v2 + 1))) M n 0))
    refine j_iload_n (pc := 2) (q := 2) d_Habit_sameDay_2 rfl rfl ?_
    refine j_iload_n (pc := 3) (q := 1) d_Habit_sameDay_3 rfl rfl ?_
    refine j_icmp_ge (pc := 4) (tgt := 56) d_Habit_sameDay_4 (by decide) (fun _ => ?_) (fun _ => ?_)
    · refine j_iconst (pc := 56) d_Habit_sameDay_56 k_i_m1 ?_
      exact j_ireturn (pc := 57) d_Habit_sameDay_57 rfl
    · refine j_iconst (pc := 7) d_Habit_sameDay_7 k_i_0 ?_
      refine j_istore_n (pc := 8) d_Habit_sameDay_8 rfl (by decide) rfl ?_
      refine j_lv [1, 2, 3, 0] rfl ?_
      refine X_Habit_sameDay_L9_ok  (fun y1 => ?_) n 0
      refine j_iload_n (pc := 42) (q := 3) d_Habit_sameDay_42 rfl rfl ?_
      refine j_bipush (pc := 43) d_Habit_sameDay_43 k_b_6 ?_
      refine j_icmp_ne (pc := 45) (tgt := 50) d_Habit_sameDay_45 (by decide) (fun _ => ?_) (fun _ => ?_)
      · refine j_iinc (pc := 50) (q := 2) d_Habit_sameDay_50 rfl (congrArg (v2 + ·) k_i_1) (by decide) rfl ?_
        refine j_goto (pc := 53) (tgt := 2) d_Habit_sameDay_53 (by decide) ?_
        refine j_lv [1, 2, 0] rfl ?_
        exact ih (v2 + 1)
      · refine j_iload_n (pc := 48) (q := 2) d_Habit_sameDay_48 rfl rfl ?_
        exact j_ireturn (pc := 49) d_Habit_sameDay_49 rfl
set_option maxRecDepth 20000 in
set_option maxHeartbeats 4000000 in
theorem C_Habit_sameDay (n : Nat)   (p1 : Int32) (M : Mem) : Ct y_Habit_sameDay mt_Habit_sameDay wI [Value.ref 37, Value.int p1] M (X_Habit_sameDay n p1 M) := by
  refine ct_of (by decide +kernel) rfl (Nat.le_of_ble_eq_true rfl) ?_
  show J _ _ _ [(0, Value.ref 37), (1, Value.int p1)] _ _ _
  unfold X_Habit_sameDay
  refine j_iconst (pc := 0) d_Habit_sameDay_0 k_i_0 ?_
  refine j_istore_n (pc := 1) d_Habit_sameDay_1 rfl (by decide) rfl ?_
  refine j_lv [1, 2, 0] rfl ?_
  exact X_Habit_sameDay_L2_ok   n 0
-- Habit.comesBack (Z)I
def mt_Habit_comesBack : Mt := ("ShakeHands$Habit", b_Habit_comesBack, 4, some .int, 7, SHx)
theorem d_Habit_comesBack_0 : decode b_Habit_comesBack 0 = .ok (.aload_n 0, 1) := by decide +kernel
theorem d_Habit_comesBack_1 : decode b_Habit_comesBack 1 = .ok (.getfield 22, 3) := by decide +kernel
theorem d_Habit_comesBack_4 : decode b_Habit_comesBack 4 = .ok (.getfield 26, 3) := by decide +kernel
theorem d_Habit_comesBack_7 : decode b_Habit_comesBack 7 = .ok (.iconst 0, 1) := by decide +kernel
theorem d_Habit_comesBack_8 : decode b_Habit_comesBack 8 = .ok (.aload_n 0, 1) := by decide +kernel
theorem d_Habit_comesBack_9 : decode b_Habit_comesBack 9 = .ok (.getfield 15, 3) := by decide +kernel
theorem d_Habit_comesBack_12 : decode b_Habit_comesBack 12 = .ok (.iconst 0, 1) := by decide +kernel
theorem d_Habit_comesBack_13 : decode b_Habit_comesBack 13 = .ok (.bipush 6, 2) := by decide +kernel
theorem d_Habit_comesBack_15 : decode b_Habit_comesBack 15 = .ok (.invokestatic 29, 3) := by decide +kernel
theorem d_Habit_comesBack_18 : decode b_Habit_comesBack 18 = .ok (.iconst 0, 1) := by decide +kernel
theorem d_Habit_comesBack_19 : decode b_Habit_comesBack 19 = .ok (.istore_n 2, 1) := by decide +kernel
theorem d_Habit_comesBack_20 : decode b_Habit_comesBack 20 = .ok (.iload_n 2, 1) := by decide +kernel
theorem d_Habit_comesBack_21 : decode b_Habit_comesBack 21 = .ok (.sipush 200, 3) := by decide +kernel
theorem d_Habit_comesBack_24 : decode b_Habit_comesBack 24 = .ok (.if_icmp .gt 67, 3) := by decide +kernel
theorem d_Habit_comesBack_27 : decode b_Habit_comesBack 27 = .ok (.aload_n 0, 1) := by decide +kernel
theorem d_Habit_comesBack_28 : decode b_Habit_comesBack 28 = .ok (.iload_n 2, 1) := by decide +kernel
theorem d_Habit_comesBack_29 : decode b_Habit_comesBack 29 = .ok (.invokevirtual 49, 3) := by decide +kernel
theorem d_Habit_comesBack_32 : decode b_Habit_comesBack 32 = .ok (.istore_n 3, 1) := by decide +kernel
theorem d_Habit_comesBack_33 : decode b_Habit_comesBack 33 = .ok (.iload_n 3, 1) := by decide +kernel
theorem d_Habit_comesBack_34 : decode b_Habit_comesBack 34 = .ok (.ifCond .lt 15, 3) := by decide +kernel
theorem d_Habit_comesBack_37 : decode b_Habit_comesBack 37 = .ok (.iload_n 1, 1) := by decide +kernel
theorem d_Habit_comesBack_38 : decode b_Habit_comesBack 38 = .ok (.ifCond .eq 9, 3) := by decide +kernel
theorem d_Habit_comesBack_41 : decode b_Habit_comesBack 41 = .ok (.iload_n 2, 1) := by decide +kernel
theorem d_Habit_comesBack_42 : decode b_Habit_comesBack 42 = .ok (.iload_n 3, 1) := by decide +kernel
theorem d_Habit_comesBack_43 : decode b_Habit_comesBack 43 = .ok (.isub, 1) := by decide +kernel
theorem d_Habit_comesBack_44 : decode b_Habit_comesBack 44 = .ok (.goto 4, 3) := by decide +kernel
theorem d_Habit_comesBack_47 : decode b_Habit_comesBack 47 = .ok (.iload_n 3, 1) := by decide +kernel
theorem d_Habit_comesBack_48 : decode b_Habit_comesBack 48 = .ok (.ireturn, 1) := by decide +kernel
theorem d_Habit_comesBack_49 : decode b_Habit_comesBack 49 = .ok (.aload_n 0, 1) := by decide +kernel
theorem d_Habit_comesBack_50 : decode b_Habit_comesBack 50 = .ok (.getfield 15, 3) := by decide +kernel
theorem d_Habit_comesBack_53 : decode b_Habit_comesBack 53 = .ok (.iconst 0, 1) := by decide +kernel
theorem d_Habit_comesBack_54 : decode b_Habit_comesBack 54 = .ok (.aload_n 0, 1) := by decide +kernel
theorem d_Habit_comesBack_55 : decode b_Habit_comesBack 55 = .ok (.getfield 11, 3) := by decide +kernel
theorem d_Habit_comesBack_58 : decode b_Habit_comesBack 58 = .ok (.iload_n 2, 1) := by decide +kernel
theorem d_Habit_comesBack_59 : decode b_Habit_comesBack 59 = .ok (.bipush 6, 2) := by decide +kernel
theorem d_Habit_comesBack_61 : decode b_Habit_comesBack 61 = .ok (.imul, 1) := by decide +kernel
theorem d_Habit_comesBack_62 : decode b_Habit_comesBack 62 = .ok (.bipush 6, 2) := by decide +kernel
theorem d_Habit_comesBack_64 : decode b_Habit_comesBack 64 = .ok (.invokestatic 29, 3) := by decide +kernel
theorem d_Habit_comesBack_67 : decode b_Habit_comesBack 67 = .ok (.aload_n 0, 1) := by decide +kernel
theorem d_Habit_comesBack_68 : decode b_Habit_comesBack 68 = .ok (.getfield 18, 3) := by decide +kernel
theorem d_Habit_comesBack_71 : decode b_Habit_comesBack 71 = .ok (.aload_n 0, 1) := by decide +kernel
theorem d_Habit_comesBack_72 : decode b_Habit_comesBack 72 = .ok (.getfield 15, 3) := by decide +kernel
theorem d_Habit_comesBack_75 : decode b_Habit_comesBack 75 = .ok (.aload_n 0, 1) := by decide +kernel
theorem d_Habit_comesBack_76 : decode b_Habit_comesBack 76 = .ok (.getfield 22, 3) := by decide +kernel
theorem d_Habit_comesBack_79 : decode b_Habit_comesBack 79 = .ok (.getfield 39, 3) := by decide +kernel
theorem d_Habit_comesBack_82 : decode b_Habit_comesBack 82 = .ok (.invokevirtual 43, 3) := by decide +kernel
theorem d_Habit_comesBack_85 : decode b_Habit_comesBack 85 = .ok (.iinc 2 1, 3) := by decide +kernel
theorem d_Habit_comesBack_88 : decode b_Habit_comesBack 88 = .ok (.goto (-68), 3) := by decide +kernel
theorem d_Habit_comesBack_91 : decode b_Habit_comesBack 91 = .ok (.bipush (-4), 2) := by decide +kernel
theorem d_Habit_comesBack_93 : decode b_Habit_comesBack 93 = .ok (.ireturn, 1) := by decide +kernel
def X_Habit_comesBack_L20 (n : Nat) (a1 : Int32) (kx37 : Int32 → Int32 → Mem → Option (Int32 × Mem)) : Nat → Int32 → Mem → Option (Int32 × Mem)
    | 0, _, _ => none
    | m + 1, v2, M => (if 200 < v2 then
    some ((-4), M)
    else
    bd (X_Habit_sameDay n v2 M) fun r1 M2 =>
    (if r1 < 0 then
      gc (0 : Int32) (v2 * 6) (6 : Int32) 6 1206 (
        nm (cpL M2 39 ((0 : Int32).toNatClampNeg) 38 ((v2 * 6).toNatClampNeg) ((6 : Int32).toNatClampNeg)) fun N3 =>
        bd (X_Circle_liveDay n 39 (N3.1 16 1) N3) fun _ M5 =>
        X_Habit_comesBack_L20 n a1 kx37 m (v2 + 1) M5)
      else
      kx37 v2 r1 M2))
def X_Habit_comesBack (n : Nat) (p1 : Int32) (M : Mem) : Option (Int32 × Mem) :=
  gc (0 : Int32) (0 : Int32) (6 : Int32) 6 6 (
    X_Habit_comesBack_L20 n p1 (fun y6 y7 M8 => (if p1 = 0 then
        some (y7, M8)
        else
        some ((y6 - y7), M8))) n 0 (cpL M 17 ((0 : Int32).toNatClampNeg) 39 ((0 : Int32).toNatClampNeg) ((6 : Int32).toNatClampNeg)))
set_option maxRecDepth 20000 in
set_option maxHeartbeats 4000000 in
theorem X_Habit_comesBack_L20_ok {n : Nat} {a1 : Int32} {kx37 : Int32 → Int32 → Mem → Option (Int32 × Mem)} (hkx37 : ∀ (w2 : Int32) (w3 : Int32) (M : Mem), J (mt_Habit_comesBack) wI 37 [(1, Value.int a1), (2, Value.int w2), (3, Value.int w3)] [] M (kx37 w2 w3 M)) : ∀ (m : Nat) (v2 : Int32) (M : Mem), J (mt_Habit_comesBack) wI 20 [(0, Value.ref 37), (1, Value.int a1), (2, Value.int v2)] [] M (X_Habit_comesBack_L20 n a1 kx37 m v2 M) := by
  intro m
  induction m with
  | zero => intro _ _; exact j_none
  | succ m ih =>
    intro v2 M
    show J _ _ _ _ _ _ ((if 200 < v2 then
some ((-4), M)
else
bd (X_Habit_sameDay n v2 M) fun r1 M2 =>
(if r1 < 0 then
gc (0 : Int32) (v2 * 6) (6 : Int32) 6 1206 (
nm (cpL M2 39 ((0 : Int32).toNatClampNeg) 38 ((v2 * 6).toNatClampNeg) ((6 : Int32).toNatClampNeg)) fun N3 =>
bd (X_Circle_liveDay n 39 (N3.1 16 1) N3) fun _ M5 =>
X_Habit_comesBack_L20 n a1 kx37 m (v2 + 1) M5)
else
kx37 v2 r1 M2)))
    refine j_iload_n (pc := 20) (q := 2) d_Habit_comesBack_20 rfl rfl ?_
    refine j_sipush (pc := 21) d_Habit_comesBack_21 k_s_200 ?_
    refine j_icmp_gt (pc := 24) (tgt := 91) d_Habit_comesBack_24 (by decide) (fun _ => ?_) (fun _ => ?_)
    · refine j_bipush (pc := 91) d_Habit_comesBack_91 k_b_m4 ?_
      exact j_ireturn (pc := 93) d_Habit_comesBack_93 rfl
    · refine j_aload_n (pc := 27) (q := 0) d_Habit_comesBack_27 rfl rfl ?_
      refine j_iload_n (pc := 28) (q := 2) d_Habit_comesBack_28 rfl rfl ?_
      refine j_callV1 (pc := 29) d_Habit_comesBack_29 (C_Habit_sameDay n v2 M) cV_Habit_49 cd_Habit_sameDay dn_Habit_sameDay rfl (by decide) (Nat.le_of_ble_eq_true rfl) (Nat.le_of_ble_eq_true rfl) nr_I sx_37 (by decide) rfl (fun r1 M2 => ?_)
      refine j_istore_n (pc := 32) d_Habit_comesBack_32 rfl (by decide) rfl ?_
      refine j_iload_n (pc := 33) (q := 0) d_Habit_comesBack_33 rfl rfl ?_
      refine j_if_lt (pc := 34) (tgt := 49) d_Habit_comesBack_34 (by decide) (fun _ => ?_) (fun _ => ?_)
      · refine j_aload_n (pc := 49) (q := 1) d_Habit_comesBack_49 rfl rfl ?_
        refine j_getA (pc := 50) d_Habit_comesBack_50 fl_Habit_15 sx_37 (by decide) rfl ?_
        refine j_iconst (pc := 53) d_Habit_comesBack_53 k_i_0 ?_
        refine j_aload_n (pc := 54) (q := 1) d_Habit_comesBack_54 rfl rfl ?_
        refine j_getA (pc := 55) d_Habit_comesBack_55 fl_Habit_11 sx_37 (by decide) rfl ?_
        refine j_iload_n (pc := 58) (q := 3) d_Habit_comesBack_58 rfl rfl ?_
        refine j_bipush (pc := 59) d_Habit_comesBack_59 k_b_6 ?_
        refine j_imul (pc := 61) d_Habit_comesBack_61 ?_
        refine j_bipush (pc := 62) d_Habit_comesBack_62 k_b_6 ?_
        refine j_copyL (pc := 64) d_Habit_comesBack_64 cw_Habit_29 cw_nat cw_st sx_39 sx_38 (by decide) (Nat.le_of_ble_eq_true rfl) ?_
        refine j_aload_n (pc := 67) (q := 1) d_Habit_comesBack_67 rfl rfl ?_
        refine j_getA (pc := 68) d_Habit_comesBack_68 fl_Habit_18 sx_37 (by decide) rfl ?_
        refine j_aload_n (pc := 71) (q := 1) d_Habit_comesBack_71 rfl rfl ?_
        refine j_getA (pc := 72) d_Habit_comesBack_72 fl_Habit_15 sx_37 (by decide) rfl ?_
        refine j_aload_n (pc := 75) (q := 1) d_Habit_comesBack_75 rfl rfl ?_
        refine j_getA (pc := 76) d_Habit_comesBack_76 fl_Habit_22 sx_37 (by decide) rfl ?_
        refine j_nmM (fun N3 => ?_)
        refine j_getI (pc := 79) d_Habit_comesBack_79 fl_Habit_39 sx_16 (by decide) rfl ?_
        refine j_callV2 (pc := 82) d_Habit_comesBack_82 (C_Circle_liveDay n 39 sx_39 (N3.1 16 1) N3) cV_Habit_43 cd_Circle_liveDay dn_Circle_liveDay rfl (by decide) (Nat.le_of_ble_eq_true rfl) (Nat.le_of_ble_eq_true rfl) nr_U sx_11 (by decide) rfl (fun r4 M5 => ?_)
        refine j_iinc (pc := 85) (q := 3) d_Habit_comesBack_85 rfl (congrArg (v2 + ·) k_i_1) (by decide) rfl ?_
        refine j_goto (pc := 88) (tgt := 20) d_Habit_comesBack_88 (by decide) ?_
        refine j_lv [2, 3, 0] rfl ?_
        exact ih (v2 + 1) M5
      · refine j_lv [2, 3, 0] rfl ?_
        exact hkx37 v2 r1 M2
set_option maxRecDepth 20000 in
set_option maxHeartbeats 4000000 in
theorem C_Habit_comesBack (n : Nat)   (p1 : Int32) (M : Mem) : Ct y_Habit_comesBack mt_Habit_comesBack wI [Value.ref 37, Value.int p1] M (X_Habit_comesBack n p1 M) := by
  refine ct_of (by decide +kernel) rfl (Nat.le_of_ble_eq_true rfl) ?_
  show J _ _ _ [(0, Value.ref 37), (1, Value.int p1)] _ _ _
  unfold X_Habit_comesBack
  refine j_aload_n (pc := 0) (q := 0) d_Habit_comesBack_0 rfl rfl ?_
  refine j_getA (pc := 1) d_Habit_comesBack_1 fl_Habit_22 sx_37 (by decide) rfl ?_
  refine j_getA (pc := 4) d_Habit_comesBack_4 fl_Habit_26 sx_16 (by decide) rfl ?_
  refine j_iconst (pc := 7) d_Habit_comesBack_7 k_i_0 ?_
  refine j_aload_n (pc := 8) (q := 0) d_Habit_comesBack_8 rfl rfl ?_
  refine j_getA (pc := 9) d_Habit_comesBack_9 fl_Habit_15 sx_37 (by decide) rfl ?_
  refine j_iconst (pc := 12) d_Habit_comesBack_12 k_i_0 ?_
  refine j_bipush (pc := 13) d_Habit_comesBack_13 k_b_6 ?_
  refine j_copyL (pc := 15) d_Habit_comesBack_15 cw_Habit_29 cw_nat cw_st sx_17 sx_39 (by decide) (Nat.le_of_ble_eq_true rfl) ?_
  refine j_iconst (pc := 18) d_Habit_comesBack_18 k_i_0 ?_
  refine j_istore_n (pc := 19) d_Habit_comesBack_19 rfl (by decide) rfl ?_
  refine j_lv [1, 2, 0] rfl ?_
  refine X_Habit_comesBack_L20_ok  (fun y6 y7 M8 => ?_) n 0 (cpL M 17 ((0 : Int32).toNatClampNeg) 39 ((0 : Int32).toNatClampNeg) ((6 : Int32).toNatClampNeg))
  refine j_iload_n (pc := 37) (q := 0) d_Habit_comesBack_37 rfl rfl ?_
  refine j_if_eq (pc := 38) (tgt := 47) d_Habit_comesBack_38 (by decide) (fun _ => ?_) (fun _ => ?_)
  · refine j_iload_n (pc := 47) (q := 2) d_Habit_comesBack_47 rfl rfl ?_
    exact j_ireturn (pc := 48) d_Habit_comesBack_48 rfl
  · refine j_iload_n (pc := 41) (q := 1) d_Habit_comesBack_41 rfl rfl ?_
    refine j_iload_n (pc := 42) (q := 2) d_Habit_comesBack_42 rfl rfl ?_
    refine j_isub (pc := 43) d_Habit_comesBack_43 ?_
    refine j_goto (pc := 44) (tgt := 48) d_Habit_comesBack_44 (by decide) ?_
    exact j_ireturn (pc := 48) d_Habit_comesBack_48 rfl

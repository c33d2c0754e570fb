-- ShakeHands.feed (J)I
def mt_ShakeHands_feed : Mt := ("ShakeHands", b_ShakeHands_feed, 3, some .int, 3, SHx)
theorem d_ShakeHands_feed_0 : decode b_ShakeHands_feed 0 = .ok (.aload_n 0, 1) := by decide +kernel
theorem d_ShakeHands_feed_1 : decode b_ShakeHands_feed 1 = .ok (.getfield 10, 3) := by decide +kernel
theorem d_ShakeHands_feed_4 : decode b_ShakeHands_feed 4 = .ok (.lload_n 1, 1) := by decide +kernel
theorem d_ShakeHands_feed_5 : decode b_ShakeHands_feed 5 = .ok (.invokevirtual 70, 3) := by decide +kernel
theorem d_ShakeHands_feed_8 : decode b_ShakeHands_feed 8 = .ok (.ifCond .eq 13, 3) := by decide +kernel
theorem d_ShakeHands_feed_11 : decode b_ShakeHands_feed 11 = .ok (.aload_n 0, 1) := by decide +kernel
theorem d_ShakeHands_feed_12 : decode b_ShakeHands_feed 12 = .ok (.getfield 10, 3) := by decide +kernel
theorem d_ShakeHands_feed_15 : decode b_ShakeHands_feed 15 = .ok (.getfield 74, 3) := by decide +kernel
theorem d_ShakeHands_feed_18 : decode b_ShakeHands_feed 18 = .ok (.goto 5, 3) := by decide +kernel
theorem d_ShakeHands_feed_21 : decode b_ShakeHands_feed 21 = .ok (.bipush (-3), 2) := by decide +kernel
theorem d_ShakeHands_feed_23 : decode b_ShakeHands_feed 23 = .ok (.ireturn, 1) := by decide +kernel
def X_ShakeHands_feed (n : Nat) (p1 : Int64) (M : Mem) : Option (Int32 × Mem) :=
  bd (X_Tape_append n p1 M) fun r1 M2 =>
  (if r1 = 0 then
    some ((-3), M2)
    else
    some ((M2.1 1 1), M2))
set_option maxRecDepth 20000 in
set_option maxHeartbeats 4000000 in
theorem C_ShakeHands_feed (n : Nat)   (p1 : Int64) (M : Mem) : Ct y_ShakeHands_feed mt_ShakeHands_feed wI [Value.ref 0, Value.long p1] M (X_ShakeHands_feed n p1 M) := by
  refine ct_of (by decide +kernel) rfl (Nat.le_of_ble_eq_true rfl) ?_
  show J _ _ _ [(0, Value.ref 0), (1, Value.long p1)] _ _ _
  unfold X_ShakeHands_feed
  refine j_aload_n (pc := 0) (q := 0) d_ShakeHands_feed_0 rfl rfl ?_
  refine j_getA (pc := 1) d_ShakeHands_feed_1 fl_ShakeHands_10 sx_0 (by decide) rfl ?_
  refine j_lload_n (pc := 4) (q := 1) d_ShakeHands_feed_4 rfl rfl ?_
  refine j_callV1 (pc := 5) d_ShakeHands_feed_5 (C_Tape_append n p1 M) cV_ShakeHands_70 cd_Tape_append dn_Tape_append rfl (by decide) (Nat.le_of_ble_eq_true rfl) (Nat.le_of_ble_eq_true rfl) nr_I sx_1 (by decide) rfl (fun r1 M2 => ?_)
  refine j_if_eq (pc := 8) (tgt := 21) d_ShakeHands_feed_8 (by decide) (fun _ => ?_) (fun _ => ?_)
  · refine j_bipush (pc := 21) d_ShakeHands_feed_21 k_b_m3 ?_
    exact j_ireturn (pc := 23) d_ShakeHands_feed_23 rfl
  · refine j_aload_n (pc := 11) (q := 0) d_ShakeHands_feed_11 rfl rfl ?_
    refine j_getA (pc := 12) d_ShakeHands_feed_12 fl_ShakeHands_10 sx_0 (by decide) rfl ?_
    refine j_getI (pc := 15) d_ShakeHands_feed_15 fl_ShakeHands_74 sx_1 (by decide) rfl ?_
    refine j_goto (pc := 18) (tgt := 23) d_ShakeHands_feed_18 (by decide) ?_
    exact j_ireturn (pc := 23) d_ShakeHands_feed_23 rfl
-- ShakeHands.end (I)I
def mt_ShakeHands_end : Mt := ("ShakeHands", b_ShakeHands_end, 3, some .int, 2, SHx)
theorem d_ShakeHands_end_0 : decode b_ShakeHands_end 0 = .ok (.iload_n 1, 1) := by decide +kernel
theorem d_ShakeHands_end_1 : decode b_ShakeHands_end 1 = .ok (.ifCond .lt 14, 3) := by decide +kernel
theorem d_ShakeHands_end_4 : decode b_ShakeHands_end 4 = .ok (.iload_n 1, 1) := by decide +kernel
theorem d_ShakeHands_end_5 : decode b_ShakeHands_end 5 = .ok (.aload_n 0, 1) := by decide +kernel
theorem d_ShakeHands_end_6 : decode b_ShakeHands_end 6 = .ok (.getfield 10, 3) := by decide +kernel
theorem d_ShakeHands_end_9 : decode b_ShakeHands_end 9 = .ok (.getfield 74, 3) := by decide +kernel
theorem d_ShakeHands_end_12 : decode b_ShakeHands_end 12 = .ok (.if_icmp .le 5, 3) := by decide +kernel
theorem d_ShakeHands_end_15 : decode b_ShakeHands_end 15 = .ok (.iconst (-1), 1) := by decide +kernel
theorem d_ShakeHands_end_16 : decode b_ShakeHands_end 16 = .ok (.ireturn, 1) := by decide +kernel
theorem d_ShakeHands_end_17 : decode b_ShakeHands_end 17 = .ok (.aload_n 0, 1) := by decide +kernel
theorem d_ShakeHands_end_18 : decode b_ShakeHands_end 18 = .ok (.getfield 10, 3) := by decide +kernel
theorem d_ShakeHands_end_21 : decode b_ShakeHands_end 21 = .ok (.getfield 74, 3) := by decide +kernel
theorem d_ShakeHands_end_24 : decode b_ShakeHands_end 24 = .ok (.istore_n 2, 1) := by decide +kernel
theorem d_ShakeHands_end_25 : decode b_ShakeHands_end 25 = .ok (.aload_n 0, 1) := by decide +kernel
theorem d_ShakeHands_end_26 : decode b_ShakeHands_end 26 = .ok (.getfield 10, 3) := by decide +kernel
theorem d_ShakeHands_end_29 : decode b_ShakeHands_end 29 = .ok (.iload_n 1, 1) := by decide +kernel
theorem d_ShakeHands_end_30 : decode b_ShakeHands_end 30 = .ok (.putfield 74, 3) := by decide +kernel
theorem d_ShakeHands_end_33 : decode b_ShakeHands_end 33 = .ok (.iload_n 2, 1) := by decide +kernel
theorem d_ShakeHands_end_34 : decode b_ShakeHands_end 34 = .ok (.ireturn, 1) := by decide +kernel
def X_ShakeHands_end (n : Nat) (p1 : Int32) (M : Mem) : Option (Int32 × Mem) :=
  (if p1 < 0 then
    some ((-1), M)
    else
    (if p1 ≤ (M.1 1 1) then
      nm (M.1 1 1) fun x1 =>
      some (x1, si M 1 1 p1)
      else
      some ((-1), M)))
set_option maxRecDepth 20000 in
set_option maxHeartbeats 4000000 in
theorem C_ShakeHands_end (n : Nat)   (p1 : Int32) (M : Mem) : Ct y_ShakeHands_end mt_ShakeHands_end wI [Value.ref 0, Value.int p1] M (X_ShakeHands_end n p1 M) := by
  refine ct_of (by decide +kernel) rfl (Nat.le_of_ble_eq_true rfl) ?_
  show J _ _ _ [(0, Value.ref 0), (1, Value.int p1)] _ _ _
  unfold X_ShakeHands_end
  refine j_iload_n (pc := 0) (q := 1) d_ShakeHands_end_0 rfl rfl ?_
  refine j_if_lt (pc := 1) (tgt := 15) d_ShakeHands_end_1 (by decide) (fun _ => ?_) (fun _ => ?_)
  · refine j_iconst (pc := 15) d_ShakeHands_end_15 k_i_m1 ?_
    exact j_ireturn (pc := 16) d_ShakeHands_end_16 rfl
  · refine j_iload_n (pc := 4) (q := 1) d_ShakeHands_end_4 rfl rfl ?_
    refine j_aload_n (pc := 5) (q := 0) d_ShakeHands_end_5 rfl rfl ?_
    refine j_getA (pc := 6) d_ShakeHands_end_6 fl_ShakeHands_10 sx_0 (by decide) rfl ?_
    refine j_getI (pc := 9) d_ShakeHands_end_9 fl_ShakeHands_74 sx_1 (by decide) rfl ?_
    refine j_icmp_le (pc := 12) (tgt := 17) d_ShakeHands_end_12 (by decide) (fun _ => ?_) (fun _ => ?_)
    · refine j_aload_n (pc := 17) (q := 0) d_ShakeHands_end_17 rfl rfl ?_
      refine j_getA (pc := 18) d_ShakeHands_end_18 fl_ShakeHands_10 sx_0 (by decide) rfl ?_
      refine j_getI (pc := 21) d_ShakeHands_end_21 fl_ShakeHands_74 sx_1 (by decide) rfl ?_
      refine j_nmi (fun x1 => ?_)
      refine j_istore_n (pc := 24) d_ShakeHands_end_24 rfl (by decide) rfl ?_
      refine j_aload_n (pc := 25) (q := 1) d_ShakeHands_end_25 rfl rfl ?_
      refine j_getA (pc := 26) d_ShakeHands_end_26 fl_ShakeHands_10 sx_0 (by decide) rfl ?_
      refine j_iload_n (pc := 29) (q := 2) d_ShakeHands_end_29 rfl rfl ?_
      refine j_putI (pc := 30) d_ShakeHands_end_30 fl_ShakeHands_74 rfl sx_1 (by decide) rfl ?_
      refine j_iload_n (pc := 33) (q := 0) d_ShakeHands_end_33 rfl rfl ?_
      exact j_ireturn (pc := 34) d_ShakeHands_end_34 rfl
    · refine j_iconst (pc := 15) d_ShakeHands_end_15 k_i_m1 ?_
      exact j_ireturn (pc := 16) d_ShakeHands_end_16 rfl
-- ShakeHands.text ()I
def mt_ShakeHands_text : Mt := ("ShakeHands", b_ShakeHands_text, 2, some .int, 15, SHx)
theorem d_ShakeHands_text_0 : decode b_ShakeHands_text 0 = .ok (.aload_n 0, 1) := by decide +kernel
theorem d_ShakeHands_text_1 : decode b_ShakeHands_text 1 = .ok (.getfield 21, 3) := by decide +kernel
theorem d_ShakeHands_text_4 : decode b_ShakeHands_text 4 = .ok (.invokevirtual 78, 3) := by decide +kernel
theorem d_ShakeHands_text_7 : decode b_ShakeHands_text 7 = .ok (.istore_n 1, 1) := by decide +kernel
theorem d_ShakeHands_text_8 : decode b_ShakeHands_text 8 = .ok (.aload_n 0, 1) := by decide +kernel
theorem d_ShakeHands_text_9 : decode b_ShakeHands_text 9 = .ok (.getfield 10, 3) := by decide +kernel
theorem d_ShakeHands_text_12 : decode b_ShakeHands_text 12 = .ok (.iconst 0, 1) := by decide +kernel
theorem d_ShakeHands_text_13 : decode b_ShakeHands_text 13 = .ok (.putfield 74, 3) := by decide +kernel
theorem d_ShakeHands_text_16 : decode b_ShakeHands_text 16 = .ok (.aload_n 0, 1) := by decide +kernel
theorem d_ShakeHands_text_17 : decode b_ShakeHands_text 17 = .ok (.getfield 21, 3) := by decide +kernel
theorem d_ShakeHands_text_20 : decode b_ShakeHands_text 20 = .ok (.getfield 82, 3) := by decide +kernel
theorem d_ShakeHands_text_23 : decode b_ShakeHands_text 23 = .ok (.ifCond .ne 65, 3) := by decide +kernel
theorem d_ShakeHands_text_26 : decode b_ShakeHands_text 26 = .ok (.aload_n 0, 1) := by decide +kernel
theorem d_ShakeHands_text_27 : decode b_ShakeHands_text 27 = .ok (.getfield 28, 3) := by decide +kernel
theorem d_ShakeHands_text_30 : decode b_ShakeHands_text 30 = .ok (.aload_n 0, 1) := by decide +kernel
theorem d_ShakeHands_text_31 : decode b_ShakeHands_text 31 = .ok (.getfield 21, 3) := by decide +kernel
theorem d_ShakeHands_text_34 : decode b_ShakeHands_text 34 = .ok (.getfield 85, 3) := by decide +kernel
theorem d_ShakeHands_text_37 : decode b_ShakeHands_text 37 = .ok (.invokevirtual 86, 3) := by decide +kernel
theorem d_ShakeHands_text_40 : decode b_ShakeHands_text 40 = .ok (.aload_n 0, 1) := by decide +kernel
theorem d_ShakeHands_text_41 : decode b_ShakeHands_text 41 = .ok (.getfield 21, 3) := by decide +kernel
theorem d_ShakeHands_text_44 : decode b_ShakeHands_text 44 = .ok (.getfield 90, 3) := by decide +kernel
theorem d_ShakeHands_text_47 : decode b_ShakeHands_text 47 = .ok (.iconst 0, 1) := by decide +kernel
theorem d_ShakeHands_text_48 : decode b_ShakeHands_text 48 = .ok (.aload_n 0, 1) := by decide +kernel
theorem d_ShakeHands_text_49 : decode b_ShakeHands_text 49 = .ok (.getfield 35, 3) := by decide +kernel
theorem d_ShakeHands_text_52 : decode b_ShakeHands_text 52 = .ok (.getfield 93, 3) := by decide +kernel
theorem d_ShakeHands_text_55 : decode b_ShakeHands_text 55 = .ok (.iconst 0, 1) := by decide +kernel
theorem d_ShakeHands_text_56 : decode b_ShakeHands_text 56 = .ok (.bipush 6, 2) := by decide +kernel
theorem d_ShakeHands_text_58 : decode b_ShakeHands_text 58 = .ok (.invokestatic 94, 3) := by decide +kernel
theorem d_ShakeHands_text_61 : decode b_ShakeHands_text 61 = .ok (.aload_n 0, 1) := by decide +kernel
theorem d_ShakeHands_text_62 : decode b_ShakeHands_text 62 = .ok (.getfield 35, 3) := by decide +kernel
theorem d_ShakeHands_text_65 : decode b_ShakeHands_text 65 = .ok (.aload_n 0, 1) := by decide +kernel
theorem d_ShakeHands_text_66 : decode b_ShakeHands_text 66 = .ok (.getfield 21, 3) := by decide +kernel
theorem d_ShakeHands_text_69 : decode b_ShakeHands_text 69 = .ok (.getfield 100, 3) := by decide +kernel
theorem d_ShakeHands_text_72 : decode b_ShakeHands_text 72 = .ok (.putfield 103, 3) := by decide +kernel
theorem d_ShakeHands_text_75 : decode b_ShakeHands_text 75 = .ok (.aload_n 0, 1) := by decide +kernel
theorem d_ShakeHands_text_76 : decode b_ShakeHands_text 76 = .ok (.getfield 35, 3) := by decide +kernel
theorem d_ShakeHands_text_79 : decode b_ShakeHands_text 79 = .ok (.iconst 0, 1) := by decide +kernel
theorem d_ShakeHands_text_80 : decode b_ShakeHands_text 80 = .ok (.putfield 104, 3) := by decide +kernel
theorem d_ShakeHands_text_83 : decode b_ShakeHands_text 83 = .ok (.aload_n 0, 1) := by decide +kernel
theorem d_ShakeHands_text_84 : decode b_ShakeHands_text 84 = .ok (.iconst 0, 1) := by decide +kernel
theorem d_ShakeHands_text_85 : decode b_ShakeHands_text 85 = .ok (.putfield 107, 3) := by decide +kernel
theorem d_ShakeHands_text_88 : decode b_ShakeHands_text 88 = .ok (.iload_n 1, 1) := by decide +kernel
theorem d_ShakeHands_text_89 : decode b_ShakeHands_text 89 = .ok (.ireturn, 1) := by decide +kernel
def X_ShakeHands_text (n : Nat) (M : Mem) : Option (Int32 × Mem) :=
  bd (X_Teller_tell n M) fun r1 M2 =>
  nm (si M2 1 1 0) fun N3 =>
  (if (N3.1 3 3) = 0 then
    bd (X_Circle_copy n N3) fun _ M5 =>
    gc (0 : Int32) (0 : Int32) (6 : Int32) 6 6 (
      nm (cpL M5 9 ((0 : Int32).toNatClampNeg) 17 ((0 : Int32).toNatClampNeg) ((6 : Int32).toNatClampNeg)) fun N6 =>
      some (r1, si (si (si N6 16 1 (N6.1 3 2)) 16 2 0) 0 9 0))
    else
    some (r1, N3))
set_option maxRecDepth 20000 in
set_option maxHeartbeats 4000000 in
theorem C_ShakeHands_text (n : Nat)    (M : Mem) : Ct y_ShakeHands_text mt_ShakeHands_text wI [Value.ref 0] M (X_ShakeHands_text n M) := by
  refine ct_of (by decide +kernel) rfl (Nat.le_of_ble_eq_true rfl) ?_
  show J _ _ _ [(0, Value.ref 0)] _ _ _
  unfold X_ShakeHands_text
  refine j_aload_n (pc := 0) (q := 0) d_ShakeHands_text_0 rfl rfl ?_
  refine j_getA (pc := 1) d_ShakeHands_text_1 fl_ShakeHands_21 sx_0 (by decide) rfl ?_
  refine j_callV0 (pc := 4) d_ShakeHands_text_4 (C_Teller_tell n M) cV_ShakeHands_78 cd_Teller_tell dn_Teller_tell rfl (by decide) (Nat.le_of_ble_eq_true rfl) (Nat.le_of_ble_eq_true rfl) nr_I sx_3 (by decide) rfl (fun r1 M2 => ?_)
  refine j_istore_n (pc := 7) d_ShakeHands_text_7 rfl (by decide) rfl ?_
  refine j_aload_n (pc := 8) (q := 1) d_ShakeHands_text_8 rfl rfl ?_
  refine j_getA (pc := 9) d_ShakeHands_text_9 fl_ShakeHands_10 sx_0 (by decide) rfl ?_
  refine j_iconst (pc := 12) d_ShakeHands_text_12 k_i_0 ?_
  refine j_putI (pc := 13) d_ShakeHands_text_13 fl_ShakeHands_74 rfl sx_1 (by decide) rfl ?_
  refine j_aload_n (pc := 16) (q := 1) d_ShakeHands_text_16 rfl rfl ?_
  refine j_getA (pc := 17) d_ShakeHands_text_17 fl_ShakeHands_21 sx_0 (by decide) rfl ?_
  refine j_nmM (fun N3 => ?_)
  refine j_getI (pc := 20) d_ShakeHands_text_20 fl_ShakeHands_82 sx_3 (by decide) rfl ?_
  refine j_if_ne (pc := 23) (tgt := 88) d_ShakeHands_text_23 (by decide) (fun _ => ?_) (fun _ => ?_)
  · refine j_iload_n (pc := 88) (q := 0) d_ShakeHands_text_88 rfl rfl ?_
    exact j_ireturn (pc := 89) d_ShakeHands_text_89 rfl
  · refine j_aload_n (pc := 26) (q := 1) d_ShakeHands_text_26 rfl rfl ?_
    refine j_getA (pc := 27) d_ShakeHands_text_27 fl_ShakeHands_28 sx_0 (by decide) rfl ?_
    refine j_aload_n (pc := 30) (q := 1) d_ShakeHands_text_30 rfl rfl ?_
    refine j_getA (pc := 31) d_ShakeHands_text_31 fl_ShakeHands_21 sx_0 (by decide) rfl ?_
    refine j_getA (pc := 34) d_ShakeHands_text_34 fl_ShakeHands_85 sx_3 (by decide) rfl ?_
    refine j_callV1 (pc := 37) d_ShakeHands_text_37 (C_Circle_copy n N3) cV_ShakeHands_86 cd_Circle_copy dn_Circle_copy rfl (by decide) (Nat.le_of_ble_eq_true rfl) (Nat.le_of_ble_eq_true rfl) nr_U sx_11 (by decide) rfl (fun r4 M5 => ?_)
    refine j_aload_n (pc := 40) (q := 1) d_ShakeHands_text_40 rfl rfl ?_
    refine j_getA (pc := 41) d_ShakeHands_text_41 fl_ShakeHands_21 sx_0 (by decide) rfl ?_
    refine j_getA (pc := 44) d_ShakeHands_text_44 fl_ShakeHands_90 sx_3 (by decide) rfl ?_
    refine j_iconst (pc := 47) d_ShakeHands_text_47 k_i_0 ?_
    refine j_aload_n (pc := 48) (q := 1) d_ShakeHands_text_48 rfl rfl ?_
    refine j_getA (pc := 49) d_ShakeHands_text_49 fl_ShakeHands_35 sx_0 (by decide) rfl ?_
    refine j_getA (pc := 52) d_ShakeHands_text_52 fl_ShakeHands_93 sx_16 (by decide) rfl ?_
    refine j_iconst (pc := 55) d_ShakeHands_text_55 k_i_0 ?_
    refine j_bipush (pc := 56) d_ShakeHands_text_56 k_b_6 ?_
    refine j_copyL (pc := 58) d_ShakeHands_text_58 cw_ShakeHands_94 cw_nat cw_st sx_9 sx_17 (by decide) (Nat.le_of_ble_eq_true rfl) ?_
    refine j_aload_n (pc := 61) (q := 1) d_ShakeHands_text_61 rfl rfl ?_
    refine j_getA (pc := 62) d_ShakeHands_text_62 fl_ShakeHands_35 sx_0 (by decide) rfl ?_
    refine j_aload_n (pc := 65) (q := 1) d_ShakeHands_text_65 rfl rfl ?_
    refine j_getA (pc := 66) d_ShakeHands_text_66 fl_ShakeHands_21 sx_0 (by decide) rfl ?_
    refine j_nmM (fun N6 => ?_)
    refine j_getI (pc := 69) d_ShakeHands_text_69 fl_ShakeHands_100 sx_3 (by decide) rfl ?_
    refine j_putI (pc := 72) d_ShakeHands_text_72 fl_ShakeHands_103 rfl sx_16 (by decide) rfl ?_
    refine j_aload_n (pc := 75) (q := 1) d_ShakeHands_text_75 rfl rfl ?_
    refine j_getA (pc := 76) d_ShakeHands_text_76 fl_ShakeHands_35 sx_0 (by decide) rfl ?_
    refine j_iconst (pc := 79) d_ShakeHands_text_79 k_i_0 ?_
    refine j_putI (pc := 80) d_ShakeHands_text_80 fl_ShakeHands_104 rfl sx_16 (by decide) rfl ?_
    refine j_aload_n (pc := 83) (q := 1) d_ShakeHands_text_83 rfl rfl ?_
    refine j_iconst (pc := 84) d_ShakeHands_text_84 k_i_0 ?_
    refine j_putI (pc := 85) d_ShakeHands_text_85 fl_ShakeHands_107 rfl sx_0 (by decide) rfl ?_
    refine j_iload_n (pc := 88) (q := 0) d_ShakeHands_text_88 rfl rfl ?_
    exact j_ireturn (pc := 89) d_ShakeHands_text_89 rfl
-- ShakeHands.fault ()I
def mt_ShakeHands_fault : Mt := ("ShakeHands", b_ShakeHands_fault, 1, some .int, 2, SHx)
theorem d_ShakeHands_fault_0 : decode b_ShakeHands_fault 0 = .ok (.aload_n 0, 1) := by decide +kernel
theorem d_ShakeHands_fault_1 : decode b_ShakeHands_fault 1 = .ok (.getfield 21, 3) := by decide +kernel
theorem d_ShakeHands_fault_4 : decode b_ShakeHands_fault 4 = .ok (.getfield 82, 3) := by decide +kernel
theorem d_ShakeHands_fault_7 : decode b_ShakeHands_fault 7 = .ok (.ireturn, 1) := by decide +kernel
def X_ShakeHands_fault (n : Nat) (M : Mem) : Option (Int32 × Mem) :=
  some ((M.1 3 3), M)
set_option maxRecDepth 20000 in
set_option maxHeartbeats 4000000 in
theorem C_ShakeHands_fault (n : Nat)    (M : Mem) : Ct y_ShakeHands_fault mt_ShakeHands_fault wI [Value.ref 0] M (X_ShakeHands_fault n M) := by
  refine ct_of (by decide +kernel) rfl (Nat.le_of_ble_eq_true rfl) ?_
  show J _ _ _ [(0, Value.ref 0)] _ _ _
  unfold X_ShakeHands_fault
  refine j_aload_n (pc := 0) (q := 0) d_ShakeHands_fault_0 rfl rfl ?_
  refine j_getA (pc := 1) d_ShakeHands_fault_1 fl_ShakeHands_21 sx_0 (by decide) rfl ?_
  refine j_getI (pc := 4) d_ShakeHands_fault_4 fl_ShakeHands_82 sx_3 (by decide) rfl ?_
  exact j_ireturn (pc := 7) d_ShakeHands_fault_7 rfl
-- ShakeHands.rule (I)I
def mt_ShakeHands_rule : Mt := ("ShakeHands", b_ShakeHands_rule, 2, some .int, 3, SHx)
theorem d_ShakeHands_rule_0 : decode b_ShakeHands_rule 0 = .ok (.iload_n 1, 1) := by decide +kernel
theorem d_ShakeHands_rule_1 : decode b_ShakeHands_rule 1 = .ok (.tableswitch 90 0 5 #[39, 47, 55, 63, 71, 79], 39) := by decide +kernel
theorem d_ShakeHands_rule_40 : decode b_ShakeHands_rule 40 = .ok (.aload_n 0, 1) := by decide +kernel
theorem d_ShakeHands_rule_41 : decode b_ShakeHands_rule 41 = .ok (.getfield 28, 3) := by decide +kernel
theorem d_ShakeHands_rule_44 : decode b_ShakeHands_rule 44 = .ok (.getfield 110, 3) := by decide +kernel
theorem d_ShakeHands_rule_47 : decode b_ShakeHands_rule 47 = .ok (.ireturn, 1) := by decide +kernel
theorem d_ShakeHands_rule_48 : decode b_ShakeHands_rule 48 = .ok (.aload_n 0, 1) := by decide +kernel
theorem d_ShakeHands_rule_49 : decode b_ShakeHands_rule 49 = .ok (.getfield 28, 3) := by decide +kernel
theorem d_ShakeHands_rule_52 : decode b_ShakeHands_rule 52 = .ok (.getfield 113, 3) := by decide +kernel
theorem d_ShakeHands_rule_55 : decode b_ShakeHands_rule 55 = .ok (.ireturn, 1) := by decide +kernel
theorem d_ShakeHands_rule_56 : decode b_ShakeHands_rule 56 = .ok (.aload_n 0, 1) := by decide +kernel
theorem d_ShakeHands_rule_57 : decode b_ShakeHands_rule 57 = .ok (.getfield 28, 3) := by decide +kernel
theorem d_ShakeHands_rule_60 : decode b_ShakeHands_rule 60 = .ok (.getfield 116, 3) := by decide +kernel
theorem d_ShakeHands_rule_63 : decode b_ShakeHands_rule 63 = .ok (.ireturn, 1) := by decide +kernel
theorem d_ShakeHands_rule_64 : decode b_ShakeHands_rule 64 = .ok (.aload_n 0, 1) := by decide +kernel
theorem d_ShakeHands_rule_65 : decode b_ShakeHands_rule 65 = .ok (.getfield 28, 3) := by decide +kernel
theorem d_ShakeHands_rule_68 : decode b_ShakeHands_rule 68 = .ok (.getfield 119, 3) := by decide +kernel
theorem d_ShakeHands_rule_71 : decode b_ShakeHands_rule 71 = .ok (.ireturn, 1) := by decide +kernel
theorem d_ShakeHands_rule_72 : decode b_ShakeHands_rule 72 = .ok (.aload_n 0, 1) := by decide +kernel
theorem d_ShakeHands_rule_73 : decode b_ShakeHands_rule 73 = .ok (.getfield 28, 3) := by decide +kernel
theorem d_ShakeHands_rule_76 : decode b_ShakeHands_rule 76 = .ok (.getfield 122, 3) := by decide +kernel
theorem d_ShakeHands_rule_79 : decode b_ShakeHands_rule 79 = .ok (.ireturn, 1) := by decide +kernel
theorem d_ShakeHands_rule_80 : decode b_ShakeHands_rule 80 = .ok (.aload_n 0, 1) := by decide +kernel
theorem d_ShakeHands_rule_81 : decode b_ShakeHands_rule 81 = .ok (.getfield 35, 3) := by decide +kernel
theorem d_ShakeHands_rule_84 : decode b_ShakeHands_rule 84 = .ok (.getfield 103, 3) := by decide +kernel
theorem d_ShakeHands_rule_87 : decode b_ShakeHands_rule 87 = .ok (.invokestatic 125, 3) := by decide +kernel
theorem d_ShakeHands_rule_90 : decode b_ShakeHands_rule 90 = .ok (.ireturn, 1) := by decide +kernel
theorem d_ShakeHands_rule_91 : decode b_ShakeHands_rule 91 = .ok (.iconst (-1), 1) := by decide +kernel
theorem d_ShakeHands_rule_92 : decode b_ShakeHands_rule 92 = .ok (.ireturn, 1) := by decide +kernel
def X_ShakeHands_rule (n : Nat) (p1 : Int32) (M : Mem) : Option (Int32 × Mem) :=
  (if p1 = 0 then
    some ((M.1 11 0), M)
    else
    (if p1 = 1 then
      some ((M.1 11 1), M)
      else
      (if p1 = 2 then
        some ((M.1 11 3), M)
        else
        (if p1 = 3 then
          some ((M.1 11 5), M)
          else
          (if p1 = 4 then
            some ((M.1 11 7), M)
            else
            (if p1 = 5 then
              bd (X_Integer_bitCount n (M.1 16 1) M) fun r1 M2 =>
              some (r1, M2)
              else
              some ((-1), M)))))))
set_option maxRecDepth 20000 in
set_option maxHeartbeats 4000000 in
theorem C_ShakeHands_rule (n : Nat)   (p1 : Int32) (M : Mem) : Ct y_ShakeHands_rule mt_ShakeHands_rule wI [Value.ref 0, Value.int p1] M (X_ShakeHands_rule n p1 M) := by
  refine ct_of (by decide +kernel) rfl (Nat.le_of_ble_eq_true rfl) ?_
  show J _ _ _ [(0, Value.ref 0), (1, Value.int p1)] _ _ _
  unfold X_ShakeHands_rule
  refine j_iload_n (pc := 0) (q := 1) d_ShakeHands_rule_0 rfl rfl ?_
  refine j_split (fun h0 => ?_) (fun h0 => ?_)
  · refine j_tableIn (pc := 1) (tgt := 40) d_ShakeHands_rule_1 0 h0 (by decide) (by decide) rfl (by decide) ?_
    refine j_aload_n (pc := 40) (q := 0) d_ShakeHands_rule_40 rfl rfl ?_
    refine j_getA (pc := 41) d_ShakeHands_rule_41 fl_ShakeHands_28 sx_0 (by decide) rfl ?_
    refine j_getI (pc := 44) d_ShakeHands_rule_44 fl_ShakeHands_110 sx_11 (by decide) rfl ?_
    exact j_ireturn (pc := 47) d_ShakeHands_rule_47 rfl
  · refine j_split (fun h1 => ?_) (fun h1 => ?_)
    · refine j_tableIn (tgt := 48) d_ShakeHands_rule_1 1 h1 (by decide) (by decide) rfl (by decide) ?_
      refine j_aload_n (pc := 48) (q := 0) d_ShakeHands_rule_48 rfl rfl ?_
      refine j_getA (pc := 49) d_ShakeHands_rule_49 fl_ShakeHands_28 sx_0 (by decide) rfl ?_
      refine j_getI (pc := 52) d_ShakeHands_rule_52 fl_ShakeHands_113 sx_11 (by decide) rfl ?_
      exact j_ireturn (pc := 55) d_ShakeHands_rule_55 rfl
    · refine j_split (fun h2 => ?_) (fun h2 => ?_)
      · refine j_tableIn (tgt := 56) d_ShakeHands_rule_1 2 h2 (by decide) (by decide) rfl (by decide) ?_
        refine j_aload_n (pc := 56) (q := 0) d_ShakeHands_rule_56 rfl rfl ?_
        refine j_getA (pc := 57) d_ShakeHands_rule_57 fl_ShakeHands_28 sx_0 (by decide) rfl ?_
        refine j_getI (pc := 60) d_ShakeHands_rule_60 fl_ShakeHands_116 sx_11 (by decide) rfl ?_
        exact j_ireturn (pc := 63) d_ShakeHands_rule_63 rfl
      · refine j_split (fun h3 => ?_) (fun h3 => ?_)
        · refine j_tableIn (tgt := 64) d_ShakeHands_rule_1 3 h3 (by decide) (by decide) rfl (by decide) ?_
          refine j_aload_n (pc := 64) (q := 0) d_ShakeHands_rule_64 rfl rfl ?_
          refine j_getA (pc := 65) d_ShakeHands_rule_65 fl_ShakeHands_28 sx_0 (by decide) rfl ?_
          refine j_getI (pc := 68) d_ShakeHands_rule_68 fl_ShakeHands_119 sx_11 (by decide) rfl ?_
          exact j_ireturn (pc := 71) d_ShakeHands_rule_71 rfl
        · refine j_split (fun h4 => ?_) (fun h4 => ?_)
          · refine j_tableIn (tgt := 72) d_ShakeHands_rule_1 4 h4 (by decide) (by decide) rfl (by decide) ?_
            refine j_aload_n (pc := 72) (q := 0) d_ShakeHands_rule_72 rfl rfl ?_
            refine j_getA (pc := 73) d_ShakeHands_rule_73 fl_ShakeHands_28 sx_0 (by decide) rfl ?_
            refine j_getI (pc := 76) d_ShakeHands_rule_76 fl_ShakeHands_122 sx_11 (by decide) rfl ?_
            exact j_ireturn (pc := 79) d_ShakeHands_rule_79 rfl
          · refine j_split (fun h5 => ?_) (fun h5 => ?_)
            · refine j_tableIn (tgt := 80) d_ShakeHands_rule_1 5 h5 (by decide) (by decide) rfl (by decide) ?_
              refine j_aload_n (pc := 80) (q := 0) d_ShakeHands_rule_80 rfl rfl ?_
              refine j_getA (pc := 81) d_ShakeHands_rule_81 fl_ShakeHands_35 sx_0 (by decide) rfl ?_
              refine j_getI (pc := 84) d_ShakeHands_rule_84 fl_ShakeHands_103 sx_16 (by decide) rfl ?_
              refine j_callS1 (pc := 87) d_ShakeHands_rule_87 (C_Integer_bitCount n (M.1 16 1) M) cS_ShakeHands_125 cd_Integer_bitCount dn_Integer_bitCount rfl (by decide) (Nat.le_of_ble_eq_true rfl) (Nat.le_of_ble_eq_true rfl) nr_I (fun r1 M2 => ?_)
              exact j_ireturn (pc := 90) d_ShakeHands_rule_90 rfl
            · refine j_tableOut (tgt := 91) d_ShakeHands_rule_1 ?_ (by decide) ?_
              · have e := sw_out5 h0 h1 h2 h3 h4 h5
                exact Or.imp (fun h => h) (fun h => h) e
              · refine j_iconst (pc := 91) d_ShakeHands_rule_91 k_i_m1 ?_
                exact j_ireturn (pc := 92) d_ShakeHands_rule_92 rfl
-- ShakeHands.hand (IZ)I
def mt_ShakeHands_hand : Mt := ("ShakeHands", b_ShakeHands_hand, 3, some .int, 2, SHx)
theorem d_ShakeHands_hand_0 : decode b_ShakeHands_hand 0 = .ok (.iload_n 1, 1) := by decide +kernel
theorem d_ShakeHands_hand_1 : decode b_ShakeHands_hand 1 = .ok (.ifCond .lt 28, 3) := by decide +kernel
theorem d_ShakeHands_hand_4 : decode b_ShakeHands_hand 4 = .ok (.iload_n 1, 1) := by decide +kernel
theorem d_ShakeHands_hand_5 : decode b_ShakeHands_hand 5 = .ok (.iload_n 2, 1) := by decide +kernel
theorem d_ShakeHands_hand_6 : decode b_ShakeHands_hand 6 = .ok (.ifCond .eq 13, 3) := by decide +kernel
theorem d_ShakeHands_hand_9 : decode b_ShakeHands_hand 9 = .ok (.aload_n 0, 1) := by decide +kernel
theorem d_ShakeHands_hand_10 : decode b_ShakeHands_hand 10 = .ok (.getfield 28, 3) := by decide +kernel
theorem d_ShakeHands_hand_13 : decode b_ShakeHands_hand 13 = .ok (.getfield 122, 3) := by decide +kernel
theorem d_ShakeHands_hand_16 : decode b_ShakeHands_hand 16 = .ok (.goto 10, 3) := by decide +kernel
theorem d_ShakeHands_hand_19 : decode b_ShakeHands_hand 19 = .ok (.aload_n 0, 1) := by decide +kernel
theorem d_ShakeHands_hand_20 : decode b_ShakeHands_hand 20 = .ok (.getfield 28, 3) := by decide +kernel
theorem d_ShakeHands_hand_23 : decode b_ShakeHands_hand 23 = .ok (.getfield 119, 3) := by decide +kernel
theorem d_ShakeHands_hand_26 : decode b_ShakeHands_hand 26 = .ok (.if_icmp .lt 5, 3) := by decide +kernel
theorem d_ShakeHands_hand_29 : decode b_ShakeHands_hand 29 = .ok (.iconst (-1), 1) := by decide +kernel
theorem d_ShakeHands_hand_30 : decode b_ShakeHands_hand 30 = .ok (.ireturn, 1) := by decide +kernel
theorem d_ShakeHands_hand_31 : decode b_ShakeHands_hand 31 = .ok (.iload_n 2, 1) := by decide +kernel
theorem d_ShakeHands_hand_32 : decode b_ShakeHands_hand 32 = .ok (.ifCond .eq 15, 3) := by decide +kernel
theorem d_ShakeHands_hand_35 : decode b_ShakeHands_hand 35 = .ok (.aload_n 0, 1) := by decide +kernel
theorem d_ShakeHands_hand_36 : decode b_ShakeHands_hand 36 = .ok (.getfield 28, 3) := by decide +kernel
theorem d_ShakeHands_hand_39 : decode b_ShakeHands_hand 39 = .ok (.getfield 131, 3) := by decide +kernel
theorem d_ShakeHands_hand_42 : decode b_ShakeHands_hand 42 = .ok (.iload_n 1, 1) := by decide +kernel
theorem d_ShakeHands_hand_43 : decode b_ShakeHands_hand 43 = .ok (.iaload, 1) := by decide +kernel
theorem d_ShakeHands_hand_44 : decode b_ShakeHands_hand 44 = .ok (.goto 12, 3) := by decide +kernel
theorem d_ShakeHands_hand_47 : decode b_ShakeHands_hand 47 = .ok (.aload_n 0, 1) := by decide +kernel
theorem d_ShakeHands_hand_48 : decode b_ShakeHands_hand 48 = .ok (.getfield 28, 3) := by decide +kernel
theorem d_ShakeHands_hand_51 : decode b_ShakeHands_hand 51 = .ok (.getfield 135, 3) := by decide +kernel
theorem d_ShakeHands_hand_54 : decode b_ShakeHands_hand 54 = .ok (.iload_n 1, 1) := by decide +kernel
theorem d_ShakeHands_hand_55 : decode b_ShakeHands_hand 55 = .ok (.iaload, 1) := by decide +kernel
theorem d_ShakeHands_hand_56 : decode b_ShakeHands_hand 56 = .ok (.ireturn, 1) := by decide +kernel
def X_ShakeHands_hand (n : Nat) (p1 : Int32) (p2 : Int32) (M : Mem) : Option (Int32 × Mem) :=
  (if p1 < 0 then
    some ((-1), M)
    else
    nm (fun (u1 : Int32) => ((if p1 < u1 then
          (if p2 = 0 then
            gd p1 16 (
              some ((M.1 13 p1.toNatClampNeg), M))
            else
            gd p1 8 (
              some ((M.1 14 p1.toNatClampNeg), M)))
          else
          some ((-1), M)) : Option (Int32 × Mem))) fun k26 =>
    (if p2 = 0 then
      k26 (M.1 11 5)
      else
      k26 (M.1 11 7)))
set_option maxRecDepth 20000 in
set_option maxHeartbeats 4000000 in
theorem C_ShakeHands_hand (n : Nat)   (p1 : Int32) (p2 : Int32) (M : Mem) : Ct y_ShakeHands_hand mt_ShakeHands_hand wI [Value.ref 0, Value.int p1, Value.int p2] M (X_ShakeHands_hand n p1 p2 M) := by
  refine ct_of (by decide +kernel) rfl (Nat.le_of_ble_eq_true rfl) ?_
  show J _ _ _ [(0, Value.ref 0), (1, Value.int p1), (2, Value.int p2)] _ _ _
  unfold X_ShakeHands_hand
  refine j_iload_n (pc := 0) (q := 1) d_ShakeHands_hand_0 rfl rfl ?_
  refine j_if_lt (pc := 1) (tgt := 29) d_ShakeHands_hand_1 (by decide) (fun _ => ?_) (fun _ => ?_)
  · refine j_iconst (pc := 29) d_ShakeHands_hand_29 k_i_m1 ?_
    exact j_ireturn (pc := 30) d_ShakeHands_hand_30 rfl
  · refine j_iload_n (pc := 4) (q := 1) d_ShakeHands_hand_4 rfl rfl ?_
    refine j_iload_n (pc := 5) (q := 2) d_ShakeHands_hand_5 rfl rfl ?_
    refine j_nmk (fun k => ∀ (u1 : Int32), J (mt_ShakeHands_hand) wI 26 [(0, Value.ref 0), (1, Value.int p1), (2, Value.int p2)] [Value.int u1, Value.int p1] M (k u1)) (fun u1 => ?_) (fun k26 hk26 => ?_)
    · refine j_icmp_lt (pc := 26) (tgt := 31) d_ShakeHands_hand_26 (by decide) (fun _ => ?_) (fun _ => ?_)
      · refine j_iload_n (pc := 31) (q := 2) d_ShakeHands_hand_31 rfl rfl ?_
        refine j_if_eq (pc := 32) (tgt := 47) d_ShakeHands_hand_32 (by decide) (fun _ => ?_) (fun _ => ?_)
        · refine j_aload_n (pc := 47) (q := 0) d_ShakeHands_hand_47 rfl rfl ?_
          refine j_getA (pc := 48) d_ShakeHands_hand_48 fl_ShakeHands_28 sx_0 (by decide) rfl ?_
          refine j_getA (pc := 51) d_ShakeHands_hand_51 fl_ShakeHands_135 sx_11 (by decide) rfl ?_
          refine j_iload_n (pc := 54) (q := 1) d_ShakeHands_hand_54 rfl rfl ?_
          refine j_iald (pc := 55) d_ShakeHands_hand_55 sx_13 (fun _ => ?_)
          exact j_ireturn (pc := 56) d_ShakeHands_hand_56 rfl
        · refine j_aload_n (pc := 35) (q := 0) d_ShakeHands_hand_35 rfl rfl ?_
          refine j_getA (pc := 36) d_ShakeHands_hand_36 fl_ShakeHands_28 sx_0 (by decide) rfl ?_
          refine j_getA (pc := 39) d_ShakeHands_hand_39 fl_ShakeHands_131 sx_11 (by decide) rfl ?_
          refine j_iload_n (pc := 42) (q := 1) d_ShakeHands_hand_42 rfl rfl ?_
          refine j_iald (pc := 43) d_ShakeHands_hand_43 sx_14 (fun _ => ?_)
          refine j_goto (pc := 44) (tgt := 56) d_ShakeHands_hand_44 (by decide) ?_
          exact j_ireturn (pc := 56) d_ShakeHands_hand_56 rfl
      · refine j_iconst (pc := 29) d_ShakeHands_hand_29 k_i_m1 ?_
        exact j_ireturn (pc := 30) d_ShakeHands_hand_30 rfl
    · refine j_if_eq (pc := 6) (tgt := 19) d_ShakeHands_hand_6 (by decide) (fun _ => ?_) (fun _ => ?_)
      · refine j_aload_n (pc := 19) (q := 0) d_ShakeHands_hand_19 rfl rfl ?_
        refine j_getA (pc := 20) d_ShakeHands_hand_20 fl_ShakeHands_28 sx_0 (by decide) rfl ?_
        refine j_getI (pc := 23) d_ShakeHands_hand_23 fl_ShakeHands_119 sx_11 (by decide) rfl ?_
        exact hk26 (M.1 11 5)
      · refine j_aload_n (pc := 9) (q := 0) d_ShakeHands_hand_9 rfl rfl ?_
        refine j_getA (pc := 10) d_ShakeHands_hand_10 fl_ShakeHands_28 sx_0 (by decide) rfl ?_
        refine j_getI (pc := 13) d_ShakeHands_hand_13 fl_ShakeHands_122 sx_11 (by decide) rfl ?_
        refine j_goto (pc := 16) (tgt := 26) d_ShakeHands_hand_16 (by decide) ?_
        exact hk26 (M.1 11 7)
-- ShakeHands.join (II)I
def mt_ShakeHands_join : Mt := ("ShakeHands", b_ShakeHands_join, 3, some .int, 2, SHx)
theorem d_ShakeHands_join_0 : decode b_ShakeHands_join 0 = .ok (.iload_n 1, 1) := by decide +kernel
theorem d_ShakeHands_join_1 : decode b_ShakeHands_join 1 = .ok (.ifCond .lt 23, 3) := by decide +kernel
theorem d_ShakeHands_join_4 : decode b_ShakeHands_join 4 = .ok (.iload_n 1, 1) := by decide +kernel
theorem d_ShakeHands_join_5 : decode b_ShakeHands_join 5 = .ok (.aload_n 0, 1) := by decide +kernel
theorem d_ShakeHands_join_6 : decode b_ShakeHands_join 6 = .ok (.getfield 28, 3) := by decide +kernel
theorem d_ShakeHands_join_9 : decode b_ShakeHands_join 9 = .ok (.getfield 116, 3) := by decide +kernel
theorem d_ShakeHands_join_12 : decode b_ShakeHands_join 12 = .ok (.if_icmp .ge 12, 3) := by decide +kernel
theorem d_ShakeHands_join_15 : decode b_ShakeHands_join 15 = .ok (.iload_n 2, 1) := by decide +kernel
theorem d_ShakeHands_join_16 : decode b_ShakeHands_join 16 = .ok (.ifCond .lt 8, 3) := by decide +kernel
theorem d_ShakeHands_join_19 : decode b_ShakeHands_join 19 = .ok (.iload_n 2, 1) := by decide +kernel
theorem d_ShakeHands_join_20 : decode b_ShakeHands_join 20 = .ok (.iconst 2, 1) := by decide +kernel
theorem d_ShakeHands_join_21 : decode b_ShakeHands_join 21 = .ok (.if_icmp .le 5, 3) := by decide +kernel
theorem d_ShakeHands_join_24 : decode b_ShakeHands_join 24 = .ok (.iconst (-1), 1) := by decide +kernel
theorem d_ShakeHands_join_25 : decode b_ShakeHands_join 25 = .ok (.ireturn, 1) := by decide +kernel
theorem d_ShakeHands_join_26 : decode b_ShakeHands_join 26 = .ok (.aload_n 0, 1) := by decide +kernel
theorem d_ShakeHands_join_27 : decode b_ShakeHands_join 27 = .ok (.getfield 28, 3) := by decide +kernel
theorem d_ShakeHands_join_30 : decode b_ShakeHands_join 30 = .ok (.getfield 138, 3) := by decide +kernel
theorem d_ShakeHands_join_33 : decode b_ShakeHands_join 33 = .ok (.iconst 3, 1) := by decide +kernel
theorem d_ShakeHands_join_34 : decode b_ShakeHands_join 34 = .ok (.iload_n 1, 1) := by decide +kernel
theorem d_ShakeHands_join_35 : decode b_ShakeHands_join 35 = .ok (.imul, 1) := by decide +kernel
theorem d_ShakeHands_join_36 : decode b_ShakeHands_join 36 = .ok (.iload_n 2, 1) := by decide +kernel
theorem d_ShakeHands_join_37 : decode b_ShakeHands_join 37 = .ok (.iadd, 1) := by decide +kernel
theorem d_ShakeHands_join_38 : decode b_ShakeHands_join 38 = .ok (.iaload, 1) := by decide +kernel
theorem d_ShakeHands_join_39 : decode b_ShakeHands_join 39 = .ok (.ireturn, 1) := by decide +kernel
def X_ShakeHands_join (n : Nat) (p1 : Int32) (p2 : Int32) (M : Mem) : Option (Int32 × Mem) :=
  (if p1 < 0 then
    some ((-1), M)
    else
    (if (M.1 11 3) ≤ p1 then
      some ((-1), M)
      else
      (if p2 < 0 then
        some ((-1), M)
        else
        (if p2 ≤ 2 then
          gd (((3 : Int32) * p1) + p2) 12 (
            some ((M.1 12 (((3 : Int32) * p1) + p2).toNatClampNeg), M))
          else
          some ((-1), M)))))
set_option maxRecDepth 20000 in
set_option maxHeartbeats 4000000 in
theorem C_ShakeHands_join (n : Nat)   (p1 : Int32) (p2 : Int32) (M : Mem) : Ct y_ShakeHands_join mt_ShakeHands_join wI [Value.ref 0, Value.int p1, Value.int p2] M (X_ShakeHands_join n p1 p2 M) := by
  refine ct_of (by decide +kernel) rfl (Nat.le_of_ble_eq_true rfl) ?_
  show J _ _ _ [(0, Value.ref 0), (1, Value.int p1), (2, Value.int p2)] _ _ _
  unfold X_ShakeHands_join
  refine j_iload_n (pc := 0) (q := 1) d_ShakeHands_join_0 rfl rfl ?_
  refine j_if_lt (pc := 1) (tgt := 24) d_ShakeHands_join_1 (by decide) (fun _ => ?_) (fun _ => ?_)
  · refine j_iconst (pc := 24) d_ShakeHands_join_24 k_i_m1 ?_
    exact j_ireturn (pc := 25) d_ShakeHands_join_25 rfl
  · refine j_iload_n (pc := 4) (q := 1) d_ShakeHands_join_4 rfl rfl ?_
    refine j_aload_n (pc := 5) (q := 0) d_ShakeHands_join_5 rfl rfl ?_
    refine j_getA (pc := 6) d_ShakeHands_join_6 fl_ShakeHands_28 sx_0 (by decide) rfl ?_
    refine j_getI (pc := 9) d_ShakeHands_join_9 fl_ShakeHands_116 sx_11 (by decide) rfl ?_
    refine j_icmp_ge (pc := 12) (tgt := 24) d_ShakeHands_join_12 (by decide) (fun _ => ?_) (fun _ => ?_)
    · refine j_iconst (pc := 24) d_ShakeHands_join_24 k_i_m1 ?_
      exact j_ireturn (pc := 25) d_ShakeHands_join_25 rfl
    · refine j_iload_n (pc := 15) (q := 2) d_ShakeHands_join_15 rfl rfl ?_
      refine j_if_lt (pc := 16) (tgt := 24) d_ShakeHands_join_16 (by decide) (fun _ => ?_) (fun _ => ?_)
      · refine j_iconst (pc := 24) d_ShakeHands_join_24 k_i_m1 ?_
        exact j_ireturn (pc := 25) d_ShakeHands_join_25 rfl
      · refine j_iload_n (pc := 19) (q := 2) d_ShakeHands_join_19 rfl rfl ?_
        refine j_iconst (pc := 20) d_ShakeHands_join_20 k_i_2 ?_
        refine j_icmp_le (pc := 21) (tgt := 26) d_ShakeHands_join_21 (by decide) (fun _ => ?_) (fun _ => ?_)
        · refine j_aload_n (pc := 26) (q := 0) d_ShakeHands_join_26 rfl rfl ?_
          refine j_getA (pc := 27) d_ShakeHands_join_27 fl_ShakeHands_28 sx_0 (by decide) rfl ?_
          refine j_getA (pc := 30) d_ShakeHands_join_30 fl_ShakeHands_138 sx_11 (by decide) rfl ?_
          refine j_iconst (pc := 33) d_ShakeHands_join_33 k_i_3 ?_
          refine j_iload_n (pc := 34) (q := 1) d_ShakeHands_join_34 rfl rfl ?_
          refine j_imul (pc := 35) d_ShakeHands_join_35 ?_
          refine j_iload_n (pc := 36) (q := 2) d_ShakeHands_join_36 rfl rfl ?_
          refine j_iadd (pc := 37) d_ShakeHands_join_37 ?_
          refine j_iald (pc := 38) d_ShakeHands_join_38 sx_12 (fun _ => ?_)
          exact j_ireturn (pc := 39) d_ShakeHands_join_39 rfl
        · refine j_iconst (pc := 24) d_ShakeHands_join_24 k_i_m1 ?_
          exact j_ireturn (pc := 25) d_ShakeHands_join_25 rfl
-- ShakeHands.isOne (I)Z
def mt_ShakeHands_isOne : Mt := ("ShakeHands", b_ShakeHands_isOne, 2, some .boolean, 2, SHx)
theorem d_ShakeHands_isOne_0 : decode b_ShakeHands_isOne 0 = .ok (.iload_n 1, 1) := by decide +kernel
theorem d_ShakeHands_isOne_1 : decode b_ShakeHands_isOne 1 = .ok (.ifCond .lt 18, 3) := by decide +kernel
theorem d_ShakeHands_isOne_4 : decode b_ShakeHands_isOne 4 = .ok (.iload_n 1, 1) := by decide +kernel
theorem d_ShakeHands_isOne_5 : decode b_ShakeHands_isOne 5 = .ok (.aload_n 0, 1) := by decide +kernel
theorem d_ShakeHands_isOne_6 : decode b_ShakeHands_isOne 6 = .ok (.getfield 28, 3) := by decide +kernel
theorem d_ShakeHands_isOne_9 : decode b_ShakeHands_isOne 9 = .ok (.getfield 110, 3) := by decide +kernel
theorem d_ShakeHands_isOne_12 : decode b_ShakeHands_isOne 12 = .ok (.if_icmp .ge 7, 3) := by decide +kernel
theorem d_ShakeHands_isOne_15 : decode b_ShakeHands_isOne 15 = .ok (.iconst 1, 1) := by decide +kernel
theorem d_ShakeHands_isOne_16 : decode b_ShakeHands_isOne 16 = .ok (.goto 4, 3) := by decide +kernel
theorem d_ShakeHands_isOne_19 : decode b_ShakeHands_isOne 19 = .ok (.iconst 0, 1) := by decide +kernel
theorem d_ShakeHands_isOne_20 : decode b_ShakeHands_isOne 20 = .ok (.ireturn, 1) := by decide +kernel
def X_ShakeHands_isOne (n : Nat) (p1 : Int32) (M : Mem) : Option (Int32 × Mem) :=
  (if p1 < 0 then
    some (0, M)
    else
    (if (M.1 11 0) ≤ p1 then
      some (0, M)
      else
      some (1, M)))
set_option maxRecDepth 20000 in
set_option maxHeartbeats 4000000 in
theorem C_ShakeHands_isOne (n : Nat)   (p1 : Int32) (M : Mem) : Ct y_ShakeHands_isOne mt_ShakeHands_isOne wI [Value.ref 0, Value.int p1] M (X_ShakeHands_isOne n p1 M) := by
  refine ct_of (by decide +kernel) rfl (Nat.le_of_ble_eq_true rfl) ?_
  show J _ _ _ [(0, Value.ref 0), (1, Value.int p1)] _ _ _
  unfold X_ShakeHands_isOne
  refine j_iload_n (pc := 0) (q := 1) d_ShakeHands_isOne_0 rfl rfl ?_
  refine j_if_lt (pc := 1) (tgt := 19) d_ShakeHands_isOne_1 (by decide) (fun _ => ?_) (fun _ => ?_)
  · refine j_iconst (pc := 19) d_ShakeHands_isOne_19 k_i_0 ?_
    exact j_zreturn (pc := 20) d_ShakeHands_isOne_20 rfl rfl
  · refine j_iload_n (pc := 4) (q := 1) d_ShakeHands_isOne_4 rfl rfl ?_
    refine j_aload_n (pc := 5) (q := 0) d_ShakeHands_isOne_5 rfl rfl ?_
    refine j_getA (pc := 6) d_ShakeHands_isOne_6 fl_ShakeHands_28 sx_0 (by decide) rfl ?_
    refine j_getI (pc := 9) d_ShakeHands_isOne_9 fl_ShakeHands_110 sx_11 (by decide) rfl ?_
    refine j_icmp_ge (pc := 12) (tgt := 19) d_ShakeHands_isOne_12 (by decide) (fun _ => ?_) (fun _ => ?_)
    · refine j_iconst (pc := 19) d_ShakeHands_isOne_19 k_i_0 ?_
      exact j_zreturn (pc := 20) d_ShakeHands_isOne_20 rfl rfl
    · refine j_iconst (pc := 15) d_ShakeHands_isOne_15 k_i_1 ?_
      refine j_goto (pc := 16) (tgt := 20) d_ShakeHands_isOne_16 (by decide) ?_
      exact j_zreturn (pc := 20) d_ShakeHands_isOne_20 rfl rfl
-- ShakeHands.knows (I)I
def mt_ShakeHands_knows : Mt := ("ShakeHands", b_ShakeHands_knows, 2, some .int, 3, SHx)
theorem d_ShakeHands_knows_0 : decode b_ShakeHands_knows 0 = .ok (.aload_n 0, 1) := by decide +kernel
theorem d_ShakeHands_knows_1 : decode b_ShakeHands_knows 1 = .ok (.iload_n 1, 1) := by decide +kernel
theorem d_ShakeHands_knows_2 : decode b_ShakeHands_knows 2 = .ok (.invokevirtual 141, 3) := by decide +kernel
theorem d_ShakeHands_knows_5 : decode b_ShakeHands_knows 5 = .ok (.ifCond .eq 18, 3) := by decide +kernel
theorem d_ShakeHands_knows_8 : decode b_ShakeHands_knows 8 = .ok (.aload_n 0, 1) := by decide +kernel
theorem d_ShakeHands_knows_9 : decode b_ShakeHands_knows 9 = .ok (.getfield 35, 3) := by decide +kernel
theorem d_ShakeHands_knows_12 : decode b_ShakeHands_knows 12 = .ok (.getfield 93, 3) := by decide +kernel
theorem d_ShakeHands_knows_15 : decode b_ShakeHands_knows 15 = .ok (.iload_n 1, 1) := by decide +kernel
theorem d_ShakeHands_knows_16 : decode b_ShakeHands_knows 16 = .ok (.laload, 1) := by decide +kernel
theorem d_ShakeHands_knows_17 : decode b_ShakeHands_knows 17 = .ok (.invokestatic 145, 3) := by decide +kernel
theorem d_ShakeHands_knows_20 : decode b_ShakeHands_knows 20 = .ok (.goto 4, 3) := by decide +kernel
theorem d_ShakeHands_knows_23 : decode b_ShakeHands_knows 23 = .ok (.iconst (-1), 1) := by decide +kernel
theorem d_ShakeHands_knows_24 : decode b_ShakeHands_knows 24 = .ok (.ireturn, 1) := by decide +kernel
def X_ShakeHands_knows (n : Nat) (p1 : Int32) (M : Mem) : Option (Int32 × Mem) :=
  bd (X_ShakeHands_isOne n p1 M) fun r1 M2 =>
  (if r1 = 0 then
    some ((-1), M2)
    else
    gd p1 6 (
      bd (X_Row_knownOf n (M2.2 17 p1.toNatClampNeg) M2) fun r3 M4 =>
      some (r3, M4)))
set_option maxRecDepth 20000 in
set_option maxHeartbeats 4000000 in
theorem C_ShakeHands_knows (n : Nat)   (p1 : Int32) (M : Mem) : Ct y_ShakeHands_knows mt_ShakeHands_knows wI [Value.ref 0, Value.int p1] M (X_ShakeHands_knows n p1 M) := by
  refine ct_of (by decide +kernel) rfl (Nat.le_of_ble_eq_true rfl) ?_
  show J _ _ _ [(0, Value.ref 0), (1, Value.int p1)] _ _ _
  unfold X_ShakeHands_knows
  refine j_aload_n (pc := 0) (q := 0) d_ShakeHands_knows_0 rfl rfl ?_
  refine j_iload_n (pc := 1) (q := 1) d_ShakeHands_knows_1 rfl rfl ?_
  refine j_callV1 (pc := 2) d_ShakeHands_knows_2 (C_ShakeHands_isOne n p1 M) cV_ShakeHands_141 cd_ShakeHands_isOne dn_ShakeHands_isOne rfl (by decide) (Nat.le_of_ble_eq_true rfl) (Nat.le_of_ble_eq_true rfl) nr_I sx_0 (by decide) rfl (fun r1 M2 => ?_)
  refine j_if_eq (pc := 5) (tgt := 23) d_ShakeHands_knows_5 (by decide) (fun _ => ?_) (fun _ => ?_)
  · refine j_iconst (pc := 23) d_ShakeHands_knows_23 k_i_m1 ?_
    exact j_ireturn (pc := 24) d_ShakeHands_knows_24 rfl
  · refine j_aload_n (pc := 8) (q := 0) d_ShakeHands_knows_8 rfl rfl ?_
    refine j_getA (pc := 9) d_ShakeHands_knows_9 fl_ShakeHands_35 sx_0 (by decide) rfl ?_
    refine j_getA (pc := 12) d_ShakeHands_knows_12 fl_ShakeHands_93 sx_16 (by decide) rfl ?_
    refine j_iload_n (pc := 15) (q := 1) d_ShakeHands_knows_15 rfl rfl ?_
    refine j_lald (pc := 16) d_ShakeHands_knows_16 sx_17 (fun _ => ?_)
    refine j_callS1 (pc := 17) d_ShakeHands_knows_17 (C_Row_knownOf n (M2.2 17 p1.toNatClampNeg) M2) cS_ShakeHands_145 cd_Row_knownOf dn_Row_knownOf rfl (by decide) (Nat.le_of_ble_eq_true rfl) (Nat.le_of_ble_eq_true rfl) nr_I (fun r3 M4 => ?_)
    refine j_goto (pc := 20) (tgt := 24) d_ShakeHands_knows_20 (by decide) ?_
    exact j_ireturn (pc := 24) d_ShakeHands_knows_24 rfl
-- ShakeHands.row (II)I
def mt_ShakeHands_row : Mt := ("ShakeHands", b_ShakeHands_row, 5, some .int, 4, SHx)
theorem d_ShakeHands_row_0 : decode b_ShakeHands_row 0 = .ok (.aload_n 0, 1) := by decide +kernel
theorem d_ShakeHands_row_1 : decode b_ShakeHands_row 1 = .ok (.iload_n 1, 1) := by decide +kernel
theorem d_ShakeHands_row_2 : decode b_ShakeHands_row 2 = .ok (.invokevirtual 141, 3) := by decide +kernel
theorem d_ShakeHands_row_5 : decode b_ShakeHands_row 5 = .ok (.ifCond .eq 7, 3) := by decide +kernel
theorem d_ShakeHands_row_8 : decode b_ShakeHands_row 8 = .ok (.iload_n 2, 1) := by decide +kernel
theorem d_ShakeHands_row_9 : decode b_ShakeHands_row 9 = .ok (.ifCond .ge 5, 3) := by decide +kernel
theorem d_ShakeHands_row_12 : decode b_ShakeHands_row 12 = .ok (.iconst (-1), 1) := by decide +kernel
theorem d_ShakeHands_row_13 : decode b_ShakeHands_row 13 = .ok (.ireturn, 1) := by decide +kernel
theorem d_ShakeHands_row_14 : decode b_ShakeHands_row 14 = .ok (.aload_n 0, 1) := by decide +kernel
theorem d_ShakeHands_row_15 : decode b_ShakeHands_row 15 = .ok (.getfield 35, 3) := by decide +kernel
theorem d_ShakeHands_row_18 : decode b_ShakeHands_row 18 = .ok (.getfield 93, 3) := by decide +kernel
theorem d_ShakeHands_row_21 : decode b_ShakeHands_row 21 = .ok (.iload_n 1, 1) := by decide +kernel
theorem d_ShakeHands_row_22 : decode b_ShakeHands_row 22 = .ok (.laload, 1) := by decide +kernel
theorem d_ShakeHands_row_23 : decode b_ShakeHands_row 23 = .ok (.lstore_n 3, 1) := by decide +kernel
theorem d_ShakeHands_row_24 : decode b_ShakeHands_row 24 = .ok (.iload_n 2, 1) := by decide +kernel
theorem d_ShakeHands_row_25 : decode b_ShakeHands_row 25 = .ok (.lload_n 3, 1) := by decide +kernel
theorem d_ShakeHands_row_26 : decode b_ShakeHands_row 26 = .ok (.invokestatic 151, 3) := by decide +kernel
theorem d_ShakeHands_row_29 : decode b_ShakeHands_row 29 = .ok (.if_icmp .ge 11, 3) := by decide +kernel
theorem d_ShakeHands_row_32 : decode b_ShakeHands_row 32 = .ok (.lload_n 3, 1) := by decide +kernel
theorem d_ShakeHands_row_33 : decode b_ShakeHands_row 33 = .ok (.iload_n 2, 1) := by decide +kernel
theorem d_ShakeHands_row_34 : decode b_ShakeHands_row 34 = .ok (.invokestatic 154, 3) := by decide +kernel
theorem d_ShakeHands_row_37 : decode b_ShakeHands_row 37 = .ok (.goto 5, 3) := by decide +kernel
theorem d_ShakeHands_row_40 : decode b_ShakeHands_row 40 = .ok (.bipush (-4), 2) := by decide +kernel
theorem d_ShakeHands_row_42 : decode b_ShakeHands_row 42 = .ok (.ireturn, 1) := by decide +kernel
def X_ShakeHands_row (n : Nat) (p1 : Int32) (p2 : Int32) (M : Mem) : Option (Int32 × Mem) :=
  bd (X_ShakeHands_isOne n p1 M) fun r1 M2 =>
  (if r1 = 0 then
    some ((-1), M2)
    else
    (if 0 ≤ p2 then
      gd p1 6 (
        nm (M2.2 17 p1.toNatClampNeg) fun x3 =>
        bd (X_Row_sizeOf n x3 M2) fun r4 M5 =>
        (if r4 ≤ p2 then
          some ((-4), M5)
          else
          bd (X_Row_thingOf n x3 p2 M5) fun r6 M7 =>
          some (r6, M7)))
      else
      some ((-1), M2)))
set_option maxRecDepth 20000 in
set_option maxHeartbeats 4000000 in
theorem C_ShakeHands_row (n : Nat)   (p1 : Int32) (p2 : Int32) (M : Mem) : Ct y_ShakeHands_row mt_ShakeHands_row wI [Value.ref 0, Value.int p1, Value.int p2] M (X_ShakeHands_row n p1 p2 M) := by
  refine ct_of (by decide +kernel) rfl (Nat.le_of_ble_eq_true rfl) ?_
  show J _ _ _ [(0, Value.ref 0), (1, Value.int p1), (2, Value.int p2)] _ _ _
  unfold X_ShakeHands_row
  refine j_aload_n (pc := 0) (q := 0) d_ShakeHands_row_0 rfl rfl ?_
  refine j_iload_n (pc := 1) (q := 1) d_ShakeHands_row_1 rfl rfl ?_
  refine j_callV1 (pc := 2) d_ShakeHands_row_2 (C_ShakeHands_isOne n p1 M) cV_ShakeHands_141 cd_ShakeHands_isOne dn_ShakeHands_isOne rfl (by decide) (Nat.le_of_ble_eq_true rfl) (Nat.le_of_ble_eq_true rfl) nr_I sx_0 (by decide) rfl (fun r1 M2 => ?_)
  refine j_if_eq (pc := 5) (tgt := 12) d_ShakeHands_row_5 (by decide) (fun _ => ?_) (fun _ => ?_)
  · refine j_iconst (pc := 12) d_ShakeHands_row_12 k_i_m1 ?_
    exact j_ireturn (pc := 13) d_ShakeHands_row_13 rfl
  · refine j_iload_n (pc := 8) (q := 2) d_ShakeHands_row_8 rfl rfl ?_
    refine j_if_ge (pc := 9) (tgt := 14) d_ShakeHands_row_9 (by decide) (fun _ => ?_) (fun _ => ?_)
    · refine j_aload_n (pc := 14) (q := 0) d_ShakeHands_row_14 rfl rfl ?_
      refine j_getA (pc := 15) d_ShakeHands_row_15 fl_ShakeHands_35 sx_0 (by decide) rfl ?_
      refine j_getA (pc := 18) d_ShakeHands_row_18 fl_ShakeHands_93 sx_16 (by decide) rfl ?_
      refine j_iload_n (pc := 21) (q := 1) d_ShakeHands_row_21 rfl rfl ?_
      refine j_lald (pc := 22) d_ShakeHands_row_22 sx_17 (fun _ => ?_)
      refine j_nml (fun x3 => ?_)
      refine j_lstore_n (pc := 23) d_ShakeHands_row_23 rfl (by decide) rfl ?_
      refine j_iload_n (pc := 24) (q := 3) d_ShakeHands_row_24 rfl rfl ?_
      refine j_lload_n (pc := 25) (q := 0) d_ShakeHands_row_25 rfl rfl ?_
      refine j_callS1 (pc := 26) d_ShakeHands_row_26 (C_Row_sizeOf n x3 M2) cS_ShakeHands_151 cd_Row_sizeOf dn_Row_sizeOf rfl (by decide) (Nat.le_of_ble_eq_true rfl) (Nat.le_of_ble_eq_true rfl) nr_I (fun r4 M5 => ?_)
      refine j_icmp_ge (pc := 29) (tgt := 40) d_ShakeHands_row_29 (by decide) (fun _ => ?_) (fun _ => ?_)
      · refine j_bipush (pc := 40) d_ShakeHands_row_40 k_b_m4 ?_
        exact j_ireturn (pc := 42) d_ShakeHands_row_42 rfl
      · refine j_lload_n (pc := 32) (q := 0) d_ShakeHands_row_32 rfl rfl ?_
        refine j_iload_n (pc := 33) (q := 3) d_ShakeHands_row_33 rfl rfl ?_
        refine j_callS2 (pc := 34) d_ShakeHands_row_34 (C_Row_thingOf n x3 p2 M5) cS_ShakeHands_154 cd_Row_thingOf dn_Row_thingOf rfl (by decide) (Nat.le_of_ble_eq_true rfl) (Nat.le_of_ble_eq_true rfl) nr_I (fun r6 M7 => ?_)
        refine j_goto (pc := 37) (tgt := 42) d_ShakeHands_row_37 (by decide) ?_
        exact j_ireturn (pc := 42) d_ShakeHands_row_42 rfl
    · refine j_iconst (pc := 12) d_ShakeHands_row_12 k_i_m1 ?_
      exact j_ireturn (pc := 13) d_ShakeHands_row_13 rfl
-- ShakeHands.isThing (I)Z
def mt_ShakeHands_isThing : Mt := ("ShakeHands", b_ShakeHands_isThing, 1, some .boolean, 2, SHx)
theorem d_ShakeHands_isThing_0 : decode b_ShakeHands_isThing 0 = .ok (.iload_n 0, 1) := by decide +kernel
theorem d_ShakeHands_isThing_1 : decode b_ShakeHands_isThing 1 = .ok (.ifCond .lt 13, 3) := by decide +kernel
theorem d_ShakeHands_isThing_4 : decode b_ShakeHands_isThing 4 = .ok (.iload_n 0, 1) := by decide +kernel
theorem d_ShakeHands_isThing_5 : decode b_ShakeHands_isThing 5 = .ok (.bipush 16, 2) := by decide +kernel
theorem d_ShakeHands_isThing_7 : decode b_ShakeHands_isThing 7 = .ok (.if_icmp .ge 7, 3) := by decide +kernel
theorem d_ShakeHands_isThing_10 : decode b_ShakeHands_isThing 10 = .ok (.iconst 1, 1) := by decide +kernel
theorem d_ShakeHands_isThing_11 : decode b_ShakeHands_isThing 11 = .ok (.goto 4, 3) := by decide +kernel
theorem d_ShakeHands_isThing_14 : decode b_ShakeHands_isThing 14 = .ok (.iconst 0, 1) := by decide +kernel
theorem d_ShakeHands_isThing_15 : decode b_ShakeHands_isThing 15 = .ok (.ireturn, 1) := by decide +kernel
def X_ShakeHands_isThing (n : Nat) (p0 : Int32) (M : Mem) : Option (Int32 × Mem) :=
  (if p0 < 0 then
    some (0, M)
    else
    (if 16 ≤ p0 then
      some (0, M)
      else
      some (1, M)))
set_option maxRecDepth 20000 in
set_option maxHeartbeats 4000000 in
theorem C_ShakeHands_isThing (n : Nat)   (p0 : Int32) (M : Mem) : Ct y_ShakeHands_isThing mt_ShakeHands_isThing wI [Value.int p0] M (X_ShakeHands_isThing n p0 M) := by
  refine ct_of (by decide +kernel) rfl (Nat.le_of_ble_eq_true rfl) ?_
  show J _ _ _ [(0, Value.int p0)] _ _ _
  unfold X_ShakeHands_isThing
  refine j_iload_n (pc := 0) (q := 0) d_ShakeHands_isThing_0 rfl rfl ?_
  refine j_if_lt (pc := 1) (tgt := 14) d_ShakeHands_isThing_1 (by decide) (fun _ => ?_) (fun _ => ?_)
  · refine j_iconst (pc := 14) d_ShakeHands_isThing_14 k_i_0 ?_
    exact j_zreturn (pc := 15) d_ShakeHands_isThing_15 rfl rfl
  · refine j_iload_n (pc := 4) (q := 0) d_ShakeHands_isThing_4 rfl rfl ?_
    refine j_bipush (pc := 5) d_ShakeHands_isThing_5 k_b_16 ?_
    refine j_icmp_ge (pc := 7) (tgt := 14) d_ShakeHands_isThing_7 (by decide) (fun _ => ?_) (fun _ => ?_)
    · refine j_iconst (pc := 14) d_ShakeHands_isThing_14 k_i_0 ?_
      exact j_zreturn (pc := 15) d_ShakeHands_isThing_15 rfl rfl
    · refine j_iconst (pc := 10) d_ShakeHands_isThing_10 k_i_1 ?_
      refine j_goto (pc := 11) (tgt := 15) d_ShakeHands_isThing_11 (by decide) ?_
      exact j_zreturn (pc := 15) d_ShakeHands_isThing_15 rfl rfl
-- ShakeHands.who (I)I
def mt_ShakeHands_who : Mt := ("ShakeHands", b_ShakeHands_who, 2, some .int, 3, SHx)
theorem d_ShakeHands_who_0 : decode b_ShakeHands_who 0 = .ok (.iload_n 1, 1) := by decide +kernel
theorem d_ShakeHands_who_1 : decode b_ShakeHands_who 1 = .ok (.invokestatic 158, 3) := by decide +kernel
theorem d_ShakeHands_who_4 : decode b_ShakeHands_who 4 = .ok (.ifCond .eq 17, 3) := by decide +kernel
theorem d_ShakeHands_who_7 : decode b_ShakeHands_who 7 = .ok (.aload_n 0, 1) := by decide +kernel
theorem d_ShakeHands_who_8 : decode b_ShakeHands_who 8 = .ok (.getfield 35, 3) := by decide +kernel
theorem d_ShakeHands_who_11 : decode b_ShakeHands_who 11 = .ok (.getfield 93, 3) := by decide +kernel
theorem d_ShakeHands_who_14 : decode b_ShakeHands_who 14 = .ok (.iload_n 1, 1) := by decide +kernel
theorem d_ShakeHands_who_15 : decode b_ShakeHands_who 15 = .ok (.invokestatic 161, 3) := by decide +kernel
theorem d_ShakeHands_who_18 : decode b_ShakeHands_who 18 = .ok (.goto 4, 3) := by decide +kernel
theorem d_ShakeHands_who_21 : decode b_ShakeHands_who 21 = .ok (.iconst (-1), 1) := by decide +kernel
theorem d_ShakeHands_who_22 : decode b_ShakeHands_who 22 = .ok (.ireturn, 1) := by decide +kernel
def X_ShakeHands_who (n : Nat) (p1 : Int32) (M : Mem) : Option (Int32 × Mem) :=
  bd (X_ShakeHands_isThing n p1 M) fun r1 M2 =>
  (if r1 = 0 then
    some ((-1), M2)
    else
    bd (X_Minds_knowers n 17 p1 M2) fun r3 M4 =>
    some (r3, M4))
set_option maxRecDepth 20000 in
set_option maxHeartbeats 4000000 in
theorem C_ShakeHands_who (n : Nat)   (p1 : Int32) (M : Mem) : Ct y_ShakeHands_who mt_ShakeHands_who wI [Value.ref 0, Value.int p1] M (X_ShakeHands_who n p1 M) := by
  refine ct_of (by decide +kernel) rfl (Nat.le_of_ble_eq_true rfl) ?_
  show J _ _ _ [(0, Value.ref 0), (1, Value.int p1)] _ _ _
  unfold X_ShakeHands_who
  refine j_iload_n (pc := 0) (q := 1) d_ShakeHands_who_0 rfl rfl ?_
  refine j_callS1 (pc := 1) d_ShakeHands_who_1 (C_ShakeHands_isThing n p1 M) cS_ShakeHands_158 cd_ShakeHands_isThing dn_ShakeHands_isThing rfl (by decide) (Nat.le_of_ble_eq_true rfl) (Nat.le_of_ble_eq_true rfl) nr_I (fun r1 M2 => ?_)
  refine j_if_eq (pc := 4) (tgt := 21) d_ShakeHands_who_4 (by decide) (fun _ => ?_) (fun _ => ?_)
  · refine j_iconst (pc := 21) d_ShakeHands_who_21 k_i_m1 ?_
    exact j_ireturn (pc := 22) d_ShakeHands_who_22 rfl
  · refine j_aload_n (pc := 7) (q := 0) d_ShakeHands_who_7 rfl rfl ?_
    refine j_getA (pc := 8) d_ShakeHands_who_8 fl_ShakeHands_35 sx_0 (by decide) rfl ?_
    refine j_getA (pc := 11) d_ShakeHands_who_11 fl_ShakeHands_93 sx_16 (by decide) rfl ?_
    refine j_iload_n (pc := 14) (q := 1) d_ShakeHands_who_14 rfl rfl ?_
    refine j_callS2 (pc := 15) d_ShakeHands_who_15 (C_Minds_knowers n 17 sx_17 p1 M2) cS_ShakeHands_161 cd_Minds_knowers dn_Minds_knowers rfl (by decide) (Nat.le_of_ble_eq_true rfl) (Nat.le_of_ble_eq_true rfl) nr_I (fun r3 M4 => ?_)
    refine j_goto (pc := 18) (tgt := 22) d_ShakeHands_who_18 (by decide) ?_
    exact j_ireturn (pc := 22) d_ShakeHands_who_22 rfl
-- ShakeHands.knowsNow (II)Z
def mt_ShakeHands_knowsNow : Mt := ("ShakeHands", b_ShakeHands_knowsNow, 3, some .boolean, 3, SHx)
theorem d_ShakeHands_knowsNow_0 : decode b_ShakeHands_knowsNow 0 = .ok (.aload_n 0, 1) := by decide +kernel
theorem d_ShakeHands_knowsNow_1 : decode b_ShakeHands_knowsNow 1 = .ok (.getfield 35, 3) := by decide +kernel
theorem d_ShakeHands_knowsNow_4 : decode b_ShakeHands_knowsNow 4 = .ok (.getfield 93, 3) := by decide +kernel
theorem d_ShakeHands_knowsNow_7 : decode b_ShakeHands_knowsNow 7 = .ok (.iload_n 1, 1) := by decide +kernel
theorem d_ShakeHands_knowsNow_8 : decode b_ShakeHands_knowsNow 8 = .ok (.laload, 1) := by decide +kernel
theorem d_ShakeHands_knowsNow_9 : decode b_ShakeHands_knowsNow 9 = .ok (.iload_n 2, 1) := by decide +kernel
theorem d_ShakeHands_knowsNow_10 : decode b_ShakeHands_knowsNow 10 = .ok (.invokestatic 201, 3) := by decide +kernel
theorem d_ShakeHands_knowsNow_13 : decode b_ShakeHands_knowsNow 13 = .ok (.ireturn, 1) := by decide +kernel
def X_ShakeHands_knowsNow (n : Nat) (p1 : Int32) (p2 : Int32) (M : Mem) : Option (Int32 × Mem) :=
  gd p1 6 (
    bd (X_Row_knowsIt n (M.2 17 p1.toNatClampNeg) p2 M) fun r1 M2 =>
    zr r1 M2)
set_option maxRecDepth 20000 in
set_option maxHeartbeats 4000000 in
theorem C_ShakeHands_knowsNow (n : Nat)   (p1 : Int32) (p2 : Int32) (M : Mem) : Ct y_ShakeHands_knowsNow mt_ShakeHands_knowsNow wI [Value.ref 0, Value.int p1, Value.int p2] M (X_ShakeHands_knowsNow n p1 p2 M) := by
  refine ct_of (by decide +kernel) rfl (Nat.le_of_ble_eq_true rfl) ?_
  show J _ _ _ [(0, Value.ref 0), (1, Value.int p1), (2, Value.int p2)] _ _ _
  unfold X_ShakeHands_knowsNow
  refine j_aload_n (pc := 0) (q := 0) d_ShakeHands_knowsNow_0 rfl rfl ?_
  refine j_getA (pc := 1) d_ShakeHands_knowsNow_1 fl_ShakeHands_35 sx_0 (by decide) rfl ?_
  refine j_getA (pc := 4) d_ShakeHands_knowsNow_4 fl_ShakeHands_93 sx_16 (by decide) rfl ?_
  refine j_iload_n (pc := 7) (q := 1) d_ShakeHands_knowsNow_7 rfl rfl ?_
  refine j_lald (pc := 8) d_ShakeHands_knowsNow_8 sx_17 (fun _ => ?_)
  refine j_iload_n (pc := 9) (q := 2) d_ShakeHands_knowsNow_9 rfl rfl ?_
  refine j_callS2 (pc := 10) d_ShakeHands_knowsNow_10 (C_Row_knowsIt n (M.2 17 p1.toNatClampNeg) p2 M) cS_ShakeHands_201 cd_Row_knowsIt dn_Row_knowsIt rfl (by decide) (Nat.le_of_ble_eq_true rfl) (Nat.le_of_ble_eq_true rfl) nr_I (fun r1 M2 => ?_)
  exact j_zr (pc := 13) d_ShakeHands_knowsNow_13 rfl
-- ShakeHands.learn (II)I
def mt_ShakeHands_learn : Mt := ("ShakeHands", b_ShakeHands_learn, 3, some .int, 6, SHx)
theorem d_ShakeHands_learn_0 : decode b_ShakeHands_learn 0 = .ok (.aload_n 0, 1) := by decide +kernel
theorem d_ShakeHands_learn_1 : decode b_ShakeHands_learn 1 = .ok (.iload_n 1, 1) := by decide +kernel
theorem d_ShakeHands_learn_2 : decode b_ShakeHands_learn 2 = .ok (.invokevirtual 141, 3) := by decide +kernel
theorem d_ShakeHands_learn_5 : decode b_ShakeHands_learn 5 = .ok (.ifCond .eq 10, 3) := by decide +kernel
theorem d_ShakeHands_learn_8 : decode b_ShakeHands_learn 8 = .ok (.iload_n 2, 1) := by decide +kernel
theorem d_ShakeHands_learn_9 : decode b_ShakeHands_learn 9 = .ok (.invokestatic 158, 3) := by decide +kernel
theorem d_ShakeHands_learn_12 : decode b_ShakeHands_learn 12 = .ok (.ifCond .ne 5, 3) := by decide +kernel
theorem d_ShakeHands_learn_15 : decode b_ShakeHands_learn 15 = .ok (.iconst (-1), 1) := by decide +kernel
theorem d_ShakeHands_learn_16 : decode b_ShakeHands_learn 16 = .ok (.ireturn, 1) := by decide +kernel
theorem d_ShakeHands_learn_17 : decode b_ShakeHands_learn 17 = .ok (.aload_n 0, 1) := by decide +kernel
theorem d_ShakeHands_learn_18 : decode b_ShakeHands_learn 18 = .ok (.iload_n 1, 1) := by decide +kernel
theorem d_ShakeHands_learn_19 : decode b_ShakeHands_learn 19 = .ok (.iload_n 2, 1) := by decide +kernel
theorem d_ShakeHands_learn_20 : decode b_ShakeHands_learn 20 = .ok (.invokevirtual 165, 3) := by decide +kernel
theorem d_ShakeHands_learn_23 : decode b_ShakeHands_learn 23 = .ok (.ifCond .eq 6, 3) := by decide +kernel
theorem d_ShakeHands_learn_26 : decode b_ShakeHands_learn 26 = .ok (.bipush (-2), 2) := by decide +kernel
theorem d_ShakeHands_learn_28 : decode b_ShakeHands_learn 28 = .ok (.ireturn, 1) := by decide +kernel
theorem d_ShakeHands_learn_29 : decode b_ShakeHands_learn 29 = .ok (.aload_n 0, 1) := by decide +kernel
theorem d_ShakeHands_learn_30 : decode b_ShakeHands_learn 30 = .ok (.getfield 35, 3) := by decide +kernel
theorem d_ShakeHands_learn_33 : decode b_ShakeHands_learn 33 = .ok (.getfield 93, 3) := by decide +kernel
theorem d_ShakeHands_learn_36 : decode b_ShakeHands_learn 36 = .ok (.iload_n 1, 1) := by decide +kernel
theorem d_ShakeHands_learn_37 : decode b_ShakeHands_learn 37 = .ok (.aload_n 0, 1) := by decide +kernel
theorem d_ShakeHands_learn_38 : decode b_ShakeHands_learn 38 = .ok (.getfield 28, 3) := by decide +kernel
theorem d_ShakeHands_learn_41 : decode b_ShakeHands_learn 41 = .ok (.aload_n 0, 1) := by decide +kernel
theorem d_ShakeHands_learn_42 : decode b_ShakeHands_learn 42 = .ok (.getfield 35, 3) := by decide +kernel
theorem d_ShakeHands_learn_45 : decode b_ShakeHands_learn 45 = .ok (.getfield 93, 3) := by decide +kernel
theorem d_ShakeHands_learn_48 : decode b_ShakeHands_learn 48 = .ok (.iload_n 1, 1) := by decide +kernel
theorem d_ShakeHands_learn_49 : decode b_ShakeHands_learn 49 = .ok (.laload, 1) := by decide +kernel
theorem d_ShakeHands_learn_50 : decode b_ShakeHands_learn 50 = .ok (.iload_n 2, 1) := by decide +kernel
theorem d_ShakeHands_learn_51 : decode b_ShakeHands_learn 51 = .ok (.invokevirtual 169, 3) := by decide +kernel
theorem d_ShakeHands_learn_54 : decode b_ShakeHands_learn 54 = .ok (.lastore, 1) := by decide +kernel
theorem d_ShakeHands_learn_55 : decode b_ShakeHands_learn 55 = .ok (.aload_n 0, 1) := by decide +kernel
theorem d_ShakeHands_learn_56 : decode b_ShakeHands_learn 56 = .ok (.getfield 35, 3) := by decide +kernel
theorem d_ShakeHands_learn_59 : decode b_ShakeHands_learn 59 = .ok (.getfield 93, 3) := by decide +kernel
theorem d_ShakeHands_learn_62 : decode b_ShakeHands_learn 62 = .ok (.iload_n 1, 1) := by decide +kernel
theorem d_ShakeHands_learn_63 : decode b_ShakeHands_learn 63 = .ok (.laload, 1) := by decide +kernel
theorem d_ShakeHands_learn_64 : decode b_ShakeHands_learn 64 = .ok (.invokestatic 151, 3) := by decide +kernel
theorem d_ShakeHands_learn_67 : decode b_ShakeHands_learn 67 = .ok (.ireturn, 1) := by decide +kernel
def X_ShakeHands_learn (n : Nat) (p1 : Int32) (p2 : Int32) (M : Mem) : Option (Int32 × Mem) :=
  bd (X_ShakeHands_isOne n p1 M) fun r1 M2 =>
  (if r1 = 0 then
    some ((-1), M2)
    else
    bd (X_ShakeHands_isThing n p2 M2) fun r3 M4 =>
    (if r3 = 0 then
      some ((-1), M4)
      else
      bd (X_ShakeHands_knowsNow n p1 p2 M4) fun r5 M6 =>
      (if r5 = 0 then
        gd p1 6 (
          bd (X_Circle_taught n (M6.2 17 p1.toNatClampNeg) p2 M6) fun r7 M8 =>
          gd p1 6 (
            nm (sl M8 17 (p1.toNatClampNeg) r7) fun N9 =>
            gd p1 6 (
              bd (X_Row_sizeOf n (N9.2 17 p1.toNatClampNeg) N9) fun r10 M11 =>
              some (r10, M11))))
        else
        some ((-2), M6))))
set_option maxRecDepth 20000 in
set_option maxHeartbeats 4000000 in
theorem C_ShakeHands_learn (n : Nat)   (p1 : Int32) (p2 : Int32) (M : Mem) : Ct y_ShakeHands_learn mt_ShakeHands_learn wI [Value.ref 0, Value.int p1, Value.int p2] M (X_ShakeHands_learn n p1 p2 M) := by
  refine ct_of (by decide +kernel) rfl (Nat.le_of_ble_eq_true rfl) ?_
  show J _ _ _ [(0, Value.ref 0), (1, Value.int p1), (2, Value.int p2)] _ _ _
  unfold X_ShakeHands_learn
  refine j_aload_n (pc := 0) (q := 0) d_ShakeHands_learn_0 rfl rfl ?_
  refine j_iload_n (pc := 1) (q := 1) d_ShakeHands_learn_1 rfl rfl ?_
  refine j_callV1 (pc := 2) d_ShakeHands_learn_2 (C_ShakeHands_isOne n p1 M) cV_ShakeHands_141 cd_ShakeHands_isOne dn_ShakeHands_isOne rfl (by decide) (Nat.le_of_ble_eq_true rfl) (Nat.le_of_ble_eq_true rfl) nr_I sx_0 (by decide) rfl (fun r1 M2 => ?_)
  refine j_if_eq (pc := 5) (tgt := 15) d_ShakeHands_learn_5 (by decide) (fun _ => ?_) (fun _ => ?_)
  · refine j_iconst (pc := 15) d_ShakeHands_learn_15 k_i_m1 ?_
    exact j_ireturn (pc := 16) d_ShakeHands_learn_16 rfl
  · refine j_iload_n (pc := 8) (q := 2) d_ShakeHands_learn_8 rfl rfl ?_
    refine j_callS1 (pc := 9) d_ShakeHands_learn_9 (C_ShakeHands_isThing n p2 M2) cS_ShakeHands_158 cd_ShakeHands_isThing dn_ShakeHands_isThing rfl (by decide) (Nat.le_of_ble_eq_true rfl) (Nat.le_of_ble_eq_true rfl) nr_I (fun r3 M4 => ?_)
    refine j_if_ne (pc := 12) (tgt := 17) d_ShakeHands_learn_12 (by decide) (fun _ => ?_) (fun _ => ?_)
    · refine j_aload_n (pc := 17) (q := 0) d_ShakeHands_learn_17 rfl rfl ?_
      refine j_iload_n (pc := 18) (q := 1) d_ShakeHands_learn_18 rfl rfl ?_
      refine j_iload_n (pc := 19) (q := 2) d_ShakeHands_learn_19 rfl rfl ?_
      refine j_callV2 (pc := 20) d_ShakeHands_learn_20 (C_ShakeHands_knowsNow n p1 p2 M4) cV_ShakeHands_165 cd_ShakeHands_knowsNow dn_ShakeHands_knowsNow rfl (by decide) (Nat.le_of_ble_eq_true rfl) (Nat.le_of_ble_eq_true rfl) nr_I sx_0 (by decide) rfl (fun r5 M6 => ?_)
      refine j_if_eq (pc := 23) (tgt := 29) d_ShakeHands_learn_23 (by decide) (fun _ => ?_) (fun _ => ?_)
      · refine j_aload_n (pc := 29) (q := 0) d_ShakeHands_learn_29 rfl rfl ?_
        refine j_getA (pc := 30) d_ShakeHands_learn_30 fl_ShakeHands_35 sx_0 (by decide) rfl ?_
        refine j_getA (pc := 33) d_ShakeHands_learn_33 fl_ShakeHands_93 sx_16 (by decide) rfl ?_
        refine j_iload_n (pc := 36) (q := 1) d_ShakeHands_learn_36 rfl rfl ?_
        refine j_aload_n (pc := 37) (q := 0) d_ShakeHands_learn_37 rfl rfl ?_
        refine j_getA (pc := 38) d_ShakeHands_learn_38 fl_ShakeHands_28 sx_0 (by decide) rfl ?_
        refine j_aload_n (pc := 41) (q := 0) d_ShakeHands_learn_41 rfl rfl ?_
        refine j_getA (pc := 42) d_ShakeHands_learn_42 fl_ShakeHands_35 sx_0 (by decide) rfl ?_
        refine j_getA (pc := 45) d_ShakeHands_learn_45 fl_ShakeHands_93 sx_16 (by decide) rfl ?_
        refine j_iload_n (pc := 48) (q := 1) d_ShakeHands_learn_48 rfl rfl ?_
        refine j_lald (pc := 49) d_ShakeHands_learn_49 sx_17 (fun _ => ?_)
        refine j_iload_n (pc := 50) (q := 2) d_ShakeHands_learn_50 rfl rfl ?_
        refine j_callV2 (pc := 51) d_ShakeHands_learn_51 (C_Circle_taught n (M6.2 17 p1.toNatClampNeg) p2 M6) cV_ShakeHands_169 cd_Circle_taught dn_Circle_taught rfl (by decide) (Nat.le_of_ble_eq_true rfl) (Nat.le_of_ble_eq_true rfl) nr_L sx_11 (by decide) rfl (fun r7 M8 => ?_)
        refine j_last (pc := 54) d_ShakeHands_learn_54 sx_17 (fun _ => ?_)
        refine j_aload_n (pc := 55) (q := 0) d_ShakeHands_learn_55 rfl rfl ?_
        refine j_getA (pc := 56) d_ShakeHands_learn_56 fl_ShakeHands_35 sx_0 (by decide) rfl ?_
        refine j_getA (pc := 59) d_ShakeHands_learn_59 fl_ShakeHands_93 sx_16 (by decide) rfl ?_
        refine j_iload_n (pc := 62) (q := 1) d_ShakeHands_learn_62 rfl rfl ?_
        refine j_nmM (fun N9 => ?_)
        refine j_lald (pc := 63) d_ShakeHands_learn_63 sx_17 (fun _ => ?_)
        refine j_callS1 (pc := 64) d_ShakeHands_learn_64 (C_Row_sizeOf n (N9.2 17 p1.toNatClampNeg) N9) cS_ShakeHands_151 cd_Row_sizeOf dn_Row_sizeOf rfl (by decide) (Nat.le_of_ble_eq_true rfl) (Nat.le_of_ble_eq_true rfl) nr_I (fun r10 M11 => ?_)
        exact j_ireturn (pc := 67) d_ShakeHands_learn_67 rfl
      · refine j_bipush (pc := 26) d_ShakeHands_learn_26 k_b_m2 ?_
        exact j_ireturn (pc := 28) d_ShakeHands_learn_28 rfl
    · refine j_iconst (pc := 15) d_ShakeHands_learn_15 k_i_m1 ?_
      exact j_ireturn (pc := 16) d_ShakeHands_learn_16 rfl
-- ShakeHands.forget (II)I
def mt_ShakeHands_forget : Mt := ("ShakeHands", b_ShakeHands_forget, 3, some .int, 5, SHx)
theorem d_ShakeHands_forget_0 : decode b_ShakeHands_forget 0 = .ok (.aload_n 0, 1) := by decide +kernel
theorem d_ShakeHands_forget_1 : decode b_ShakeHands_forget 1 = .ok (.iload_n 1, 1) := by decide +kernel
theorem d_ShakeHands_forget_2 : decode b_ShakeHands_forget 2 = .ok (.invokevirtual 141, 3) := by decide +kernel
theorem d_ShakeHands_forget_5 : decode b_ShakeHands_forget 5 = .ok (.ifCond .eq 10, 3) := by decide +kernel
theorem d_ShakeHands_forget_8 : decode b_ShakeHands_forget 8 = .ok (.iload_n 2, 1) := by decide +kernel
theorem d_ShakeHands_forget_9 : decode b_ShakeHands_forget 9 = .ok (.invokestatic 158, 3) := by decide +kernel
theorem d_ShakeHands_forget_12 : decode b_ShakeHands_forget 12 = .ok (.ifCond .ne 5, 3) := by decide +kernel
theorem d_ShakeHands_forget_15 : decode b_ShakeHands_forget 15 = .ok (.iconst (-1), 1) := by decide +kernel
theorem d_ShakeHands_forget_16 : decode b_ShakeHands_forget 16 = .ok (.ireturn, 1) := by decide +kernel
theorem d_ShakeHands_forget_17 : decode b_ShakeHands_forget 17 = .ok (.aload_n 0, 1) := by decide +kernel
theorem d_ShakeHands_forget_18 : decode b_ShakeHands_forget 18 = .ok (.iload_n 1, 1) := by decide +kernel
theorem d_ShakeHands_forget_19 : decode b_ShakeHands_forget 19 = .ok (.iload_n 2, 1) := by decide +kernel
theorem d_ShakeHands_forget_20 : decode b_ShakeHands_forget 20 = .ok (.invokevirtual 165, 3) := by decide +kernel
theorem d_ShakeHands_forget_23 : decode b_ShakeHands_forget 23 = .ok (.ifCond .ne 6, 3) := by decide +kernel
theorem d_ShakeHands_forget_26 : decode b_ShakeHands_forget 26 = .ok (.bipush (-4), 2) := by decide +kernel
theorem d_ShakeHands_forget_28 : decode b_ShakeHands_forget 28 = .ok (.ireturn, 1) := by decide +kernel
theorem d_ShakeHands_forget_29 : decode b_ShakeHands_forget 29 = .ok (.aload_n 0, 1) := by decide +kernel
theorem d_ShakeHands_forget_30 : decode b_ShakeHands_forget 30 = .ok (.getfield 35, 3) := by decide +kernel
theorem d_ShakeHands_forget_33 : decode b_ShakeHands_forget 33 = .ok (.getfield 93, 3) := by decide +kernel
theorem d_ShakeHands_forget_36 : decode b_ShakeHands_forget 36 = .ok (.iload_n 1, 1) := by decide +kernel
theorem d_ShakeHands_forget_37 : decode b_ShakeHands_forget 37 = .ok (.aload_n 0, 1) := by decide +kernel
theorem d_ShakeHands_forget_38 : decode b_ShakeHands_forget 38 = .ok (.getfield 28, 3) := by decide +kernel
theorem d_ShakeHands_forget_41 : decode b_ShakeHands_forget 41 = .ok (.aload_n 0, 1) := by decide +kernel
theorem d_ShakeHands_forget_42 : decode b_ShakeHands_forget 42 = .ok (.getfield 35, 3) := by decide +kernel
theorem d_ShakeHands_forget_45 : decode b_ShakeHands_forget 45 = .ok (.getfield 93, 3) := by decide +kernel
theorem d_ShakeHands_forget_48 : decode b_ShakeHands_forget 48 = .ok (.iload_n 1, 1) := by decide +kernel
theorem d_ShakeHands_forget_49 : decode b_ShakeHands_forget 49 = .ok (.laload, 1) := by decide +kernel
theorem d_ShakeHands_forget_50 : decode b_ShakeHands_forget 50 = .ok (.iload_n 2, 1) := by decide +kernel
theorem d_ShakeHands_forget_51 : decode b_ShakeHands_forget 51 = .ok (.invokevirtual 173, 3) := by decide +kernel
theorem d_ShakeHands_forget_54 : decode b_ShakeHands_forget 54 = .ok (.lastore, 1) := by decide +kernel
theorem d_ShakeHands_forget_55 : decode b_ShakeHands_forget 55 = .ok (.aload_n 0, 1) := by decide +kernel
theorem d_ShakeHands_forget_56 : decode b_ShakeHands_forget 56 = .ok (.getfield 35, 3) := by decide +kernel
theorem d_ShakeHands_forget_59 : decode b_ShakeHands_forget 59 = .ok (.getfield 93, 3) := by decide +kernel
theorem d_ShakeHands_forget_62 : decode b_ShakeHands_forget 62 = .ok (.iload_n 1, 1) := by decide +kernel
theorem d_ShakeHands_forget_63 : decode b_ShakeHands_forget 63 = .ok (.laload, 1) := by decide +kernel
theorem d_ShakeHands_forget_64 : decode b_ShakeHands_forget 64 = .ok (.invokestatic 151, 3) := by decide +kernel
theorem d_ShakeHands_forget_67 : decode b_ShakeHands_forget 67 = .ok (.ireturn, 1) := by decide +kernel
def X_ShakeHands_forget (n : Nat) (p1 : Int32) (p2 : Int32) (M : Mem) : Option (Int32 × Mem) :=
  bd (X_ShakeHands_isOne n p1 M) fun r1 M2 =>
  (if r1 = 0 then
    some ((-1), M2)
    else
    bd (X_ShakeHands_isThing n p2 M2) fun r3 M4 =>
    (if r3 = 0 then
      some ((-1), M4)
      else
      bd (X_ShakeHands_knowsNow n p1 p2 M4) fun r5 M6 =>
      (if r5 = 0 then
        some ((-4), M6)
        else
        gd p1 6 (
          bd (X_Circle_without n (M6.2 17 p1.toNatClampNeg) p2 M6) fun r7 M8 =>
          gd p1 6 (
            nm (sl M8 17 (p1.toNatClampNeg) r7) fun N9 =>
            gd p1 6 (
              bd (X_Row_sizeOf n (N9.2 17 p1.toNatClampNeg) N9) fun r10 M11 =>
              some (r10, M11)))))))
set_option maxRecDepth 20000 in
set_option maxHeartbeats 4000000 in
theorem C_ShakeHands_forget (n : Nat)   (p1 : Int32) (p2 : Int32) (M : Mem) : Ct y_ShakeHands_forget mt_ShakeHands_forget wI [Value.ref 0, Value.int p1, Value.int p2] M (X_ShakeHands_forget n p1 p2 M) := by
  refine ct_of (by decide +kernel) rfl (Nat.le_of_ble_eq_true rfl) ?_
  show J _ _ _ [(0, Value.ref 0), (1, Value.int p1), (2, Value.int p2)] _ _ _
  unfold X_ShakeHands_forget
  refine j_aload_n (pc := 0) (q := 0) d_ShakeHands_forget_0 rfl rfl ?_
  refine j_iload_n (pc := 1) (q := 1) d_ShakeHands_forget_1 rfl rfl ?_
  refine j_callV1 (pc := 2) d_ShakeHands_forget_2 (C_ShakeHands_isOne n p1 M) cV_ShakeHands_141 cd_ShakeHands_isOne dn_ShakeHands_isOne rfl (by decide) (Nat.le_of_ble_eq_true rfl) (Nat.le_of_ble_eq_true rfl) nr_I sx_0 (by decide) rfl (fun r1 M2 => ?_)
  refine j_if_eq (pc := 5) (tgt := 15) d_ShakeHands_forget_5 (by decide) (fun _ => ?_) (fun _ => ?_)
  · refine j_iconst (pc := 15) d_ShakeHands_forget_15 k_i_m1 ?_
    exact j_ireturn (pc := 16) d_ShakeHands_forget_16 rfl
  · refine j_iload_n (pc := 8) (q := 2) d_ShakeHands_forget_8 rfl rfl ?_
    refine j_callS1 (pc := 9) d_ShakeHands_forget_9 (C_ShakeHands_isThing n p2 M2) cS_ShakeHands_158 cd_ShakeHands_isThing dn_ShakeHands_isThing rfl (by decide) (Nat.le_of_ble_eq_true rfl) (Nat.le_of_ble_eq_true rfl) nr_I (fun r3 M4 => ?_)
    refine j_if_ne (pc := 12) (tgt := 17) d_ShakeHands_forget_12 (by decide) (fun _ => ?_) (fun _ => ?_)
    · refine j_aload_n (pc := 17) (q := 0) d_ShakeHands_forget_17 rfl rfl ?_
      refine j_iload_n (pc := 18) (q := 1) d_ShakeHands_forget_18 rfl rfl ?_
      refine j_iload_n (pc := 19) (q := 2) d_ShakeHands_forget_19 rfl rfl ?_
      refine j_callV2 (pc := 20) d_ShakeHands_forget_20 (C_ShakeHands_knowsNow n p1 p2 M4) cV_ShakeHands_165 cd_ShakeHands_knowsNow dn_ShakeHands_knowsNow rfl (by decide) (Nat.le_of_ble_eq_true rfl) (Nat.le_of_ble_eq_true rfl) nr_I sx_0 (by decide) rfl (fun r5 M6 => ?_)
      refine j_if_ne (pc := 23) (tgt := 29) d_ShakeHands_forget_23 (by decide) (fun _ => ?_) (fun _ => ?_)
      · refine j_aload_n (pc := 29) (q := 0) d_ShakeHands_forget_29 rfl rfl ?_
        refine j_getA (pc := 30) d_ShakeHands_forget_30 fl_ShakeHands_35 sx_0 (by decide) rfl ?_
        refine j_getA (pc := 33) d_ShakeHands_forget_33 fl_ShakeHands_93 sx_16 (by decide) rfl ?_
        refine j_iload_n (pc := 36) (q := 1) d_ShakeHands_forget_36 rfl rfl ?_
        refine j_aload_n (pc := 37) (q := 0) d_ShakeHands_forget_37 rfl rfl ?_
        refine j_getA (pc := 38) d_ShakeHands_forget_38 fl_ShakeHands_28 sx_0 (by decide) rfl ?_
        refine j_aload_n (pc := 41) (q := 0) d_ShakeHands_forget_41 rfl rfl ?_
        refine j_getA (pc := 42) d_ShakeHands_forget_42 fl_ShakeHands_35 sx_0 (by decide) rfl ?_
        refine j_getA (pc := 45) d_ShakeHands_forget_45 fl_ShakeHands_93 sx_16 (by decide) rfl ?_
        refine j_iload_n (pc := 48) (q := 1) d_ShakeHands_forget_48 rfl rfl ?_
        refine j_lald (pc := 49) d_ShakeHands_forget_49 sx_17 (fun _ => ?_)
        refine j_iload_n (pc := 50) (q := 2) d_ShakeHands_forget_50 rfl rfl ?_
        refine j_callV2 (pc := 51) d_ShakeHands_forget_51 (C_Circle_without n (M6.2 17 p1.toNatClampNeg) p2 M6) cV_ShakeHands_173 cd_Circle_without dn_Circle_without rfl (by decide) (Nat.le_of_ble_eq_true rfl) (Nat.le_of_ble_eq_true rfl) nr_L sx_11 (by decide) rfl (fun r7 M8 => ?_)
        refine j_last (pc := 54) d_ShakeHands_forget_54 sx_17 (fun _ => ?_)
        refine j_aload_n (pc := 55) (q := 0) d_ShakeHands_forget_55 rfl rfl ?_
        refine j_getA (pc := 56) d_ShakeHands_forget_56 fl_ShakeHands_35 sx_0 (by decide) rfl ?_
        refine j_getA (pc := 59) d_ShakeHands_forget_59 fl_ShakeHands_93 sx_16 (by decide) rfl ?_
        refine j_iload_n (pc := 62) (q := 1) d_ShakeHands_forget_62 rfl rfl ?_
        refine j_nmM (fun N9 => ?_)
        refine j_lald (pc := 63) d_ShakeHands_forget_63 sx_17 (fun _ => ?_)
        refine j_callS1 (pc := 64) d_ShakeHands_forget_64 (C_Row_sizeOf n (N9.2 17 p1.toNatClampNeg) N9) cS_ShakeHands_151 cd_Row_sizeOf dn_Row_sizeOf rfl (by decide) (Nat.le_of_ble_eq_true rfl) (Nat.le_of_ble_eq_true rfl) nr_I (fun r10 M11 => ?_)
        exact j_ireturn (pc := 67) d_ShakeHands_forget_67 rfl
      · refine j_bipush (pc := 26) d_ShakeHands_forget_26 k_b_m4 ?_
        exact j_ireturn (pc := 28) d_ShakeHands_forget_28 rfl
    · refine j_iconst (pc := 15) d_ShakeHands_forget_15 k_i_m1 ?_
      exact j_ireturn (pc := 16) d_ShakeHands_forget_16 rfl
-- ShakeHands.glove (IZ)I
def mt_ShakeHands_glove : Mt := ("ShakeHands", b_ShakeHands_glove, 4, some .int, 3, SHx)
theorem d_ShakeHands_glove_0 : decode b_ShakeHands_glove 0 = .ok (.aload_n 0, 1) := by decide +kernel
theorem d_ShakeHands_glove_1 : decode b_ShakeHands_glove 1 = .ok (.iload_n 1, 1) := by decide +kernel
theorem d_ShakeHands_glove_2 : decode b_ShakeHands_glove 2 = .ok (.invokevirtual 141, 3) := by decide +kernel
theorem d_ShakeHands_glove_5 : decode b_ShakeHands_glove 5 = .ok (.ifCond .ne 5, 3) := by decide +kernel
theorem d_ShakeHands_glove_8 : decode b_ShakeHands_glove 8 = .ok (.iconst (-1), 1) := by decide +kernel
theorem d_ShakeHands_glove_9 : decode b_ShakeHands_glove 9 = .ok (.ireturn, 1) := by decide +kernel
theorem d_ShakeHands_glove_10 : decode b_ShakeHands_glove 10 = .ok (.aload_n 0, 1) := by decide +kernel
theorem d_ShakeHands_glove_11 : decode b_ShakeHands_glove 11 = .ok (.getfield 35, 3) := by decide +kernel
theorem d_ShakeHands_glove_14 : decode b_ShakeHands_glove 14 = .ok (.getfield 103, 3) := by decide +kernel
theorem d_ShakeHands_glove_17 : decode b_ShakeHands_glove 17 = .ok (.iload_n 1, 1) := by decide +kernel
theorem d_ShakeHands_glove_18 : decode b_ShakeHands_glove 18 = .ok (.iushr, 1) := by decide +kernel
theorem d_ShakeHands_glove_19 : decode b_ShakeHands_glove 19 = .ok (.iconst 1, 1) := by decide +kernel
theorem d_ShakeHands_glove_20 : decode b_ShakeHands_glove 20 = .ok (.iand, 1) := by decide +kernel
theorem d_ShakeHands_glove_21 : decode b_ShakeHands_glove 21 = .ok (.istore_n 3, 1) := by decide +kernel
theorem d_ShakeHands_glove_22 : decode b_ShakeHands_glove 22 = .ok (.aload_n 0, 1) := by decide +kernel
theorem d_ShakeHands_glove_23 : decode b_ShakeHands_glove 23 = .ok (.getfield 35, 3) := by decide +kernel
theorem d_ShakeHands_glove_26 : decode b_ShakeHands_glove 26 = .ok (.iload_n 2, 1) := by decide +kernel
theorem d_ShakeHands_glove_27 : decode b_ShakeHands_glove 27 = .ok (.ifCond .eq 17, 3) := by decide +kernel
theorem d_ShakeHands_glove_30 : decode b_ShakeHands_glove 30 = .ok (.aload_n 0, 1) := by decide +kernel
theorem d_ShakeHands_glove_31 : decode b_ShakeHands_glove 31 = .ok (.getfield 35, 3) := by decide +kernel
theorem d_ShakeHands_glove_34 : decode b_ShakeHands_glove 34 = .ok (.getfield 103, 3) := by decide +kernel
theorem d_ShakeHands_glove_37 : decode b_ShakeHands_glove 37 = .ok (.iconst 1, 1) := by decide +kernel
theorem d_ShakeHands_glove_38 : decode b_ShakeHands_glove 38 = .ok (.iload_n 1, 1) := by decide +kernel
theorem d_ShakeHands_glove_39 : decode b_ShakeHands_glove 39 = .ok (.ishl, 1) := by decide +kernel
theorem d_ShakeHands_glove_40 : decode b_ShakeHands_glove 40 = .ok (.ior, 1) := by decide +kernel
theorem d_ShakeHands_glove_41 : decode b_ShakeHands_glove 41 = .ok (.goto 16, 3) := by decide +kernel
theorem d_ShakeHands_glove_44 : decode b_ShakeHands_glove 44 = .ok (.aload_n 0, 1) := by decide +kernel
theorem d_ShakeHands_glove_45 : decode b_ShakeHands_glove 45 = .ok (.getfield 35, 3) := by decide +kernel
theorem d_ShakeHands_glove_48 : decode b_ShakeHands_glove 48 = .ok (.getfield 103, 3) := by decide +kernel
theorem d_ShakeHands_glove_51 : decode b_ShakeHands_glove 51 = .ok (.iconst 1, 1) := by decide +kernel
theorem d_ShakeHands_glove_52 : decode b_ShakeHands_glove 52 = .ok (.iload_n 1, 1) := by decide +kernel
theorem d_ShakeHands_glove_53 : decode b_ShakeHands_glove 53 = .ok (.ishl, 1) := by decide +kernel
theorem d_ShakeHands_glove_54 : decode b_ShakeHands_glove 54 = .ok (.iconst (-1), 1) := by decide +kernel
theorem d_ShakeHands_glove_55 : decode b_ShakeHands_glove 55 = .ok (.ixor, 1) := by decide +kernel
theorem d_ShakeHands_glove_56 : decode b_ShakeHands_glove 56 = .ok (.iand, 1) := by decide +kernel
theorem d_ShakeHands_glove_57 : decode b_ShakeHands_glove 57 = .ok (.putfield 103, 3) := by decide +kernel
theorem d_ShakeHands_glove_60 : decode b_ShakeHands_glove 60 = .ok (.iload_n 3, 1) := by decide +kernel
theorem d_ShakeHands_glove_61 : decode b_ShakeHands_glove 61 = .ok (.ireturn, 1) := by decide +kernel
def X_ShakeHands_glove (n : Nat) (p1 : Int32) (p2 : Int32) (M : Mem) : Option (Int32 × Mem) :=
  bd (X_ShakeHands_isOne n p1 M) fun r1 M2 =>
  (if r1 = 0 then
    some ((-1), M2)
    else
    nm ((((M2.1 16 1).toUInt32 >>> (p1.toUInt32 &&& Int32.toUInt32 31)).toInt32) &&& 1) fun x3 =>
    nm (fun (u4 : Int32) => (some (x3, si M2 16 1 u4) : Option (Int32 × Mem))) fun k57 =>
    (if p2 = 0 then
      k57 ((M2.1 16 1) &&& (((1 : Int32) <<< (p1 &&& 31)) ^^^ (-1)))
      else
      k57 ((M2.1 16 1) ||| ((1 : Int32) <<< (p1 &&& 31)))))
set_option maxRecDepth 20000 in
set_option maxHeartbeats 4000000 in
theorem C_ShakeHands_glove (n : Nat)   (p1 : Int32) (p2 : Int32) (M : Mem) : Ct y_ShakeHands_glove mt_ShakeHands_glove wI [Value.ref 0, Value.int p1, Value.int p2] M (X_ShakeHands_glove n p1 p2 M) := by
  refine ct_of (by decide +kernel) rfl (Nat.le_of_ble_eq_true rfl) ?_
  show J _ _ _ [(0, Value.ref 0), (1, Value.int p1), (2, Value.int p2)] _ _ _
  unfold X_ShakeHands_glove
  refine j_aload_n (pc := 0) (q := 0) d_ShakeHands_glove_0 rfl rfl ?_
  refine j_iload_n (pc := 1) (q := 1) d_ShakeHands_glove_1 rfl rfl ?_
  refine j_callV1 (pc := 2) d_ShakeHands_glove_2 (C_ShakeHands_isOne n p1 M) cV_ShakeHands_141 cd_ShakeHands_isOne dn_ShakeHands_isOne rfl (by decide) (Nat.le_of_ble_eq_true rfl) (Nat.le_of_ble_eq_true rfl) nr_I sx_0 (by decide) rfl (fun r1 M2 => ?_)
  refine j_if_ne (pc := 5) (tgt := 10) d_ShakeHands_glove_5 (by decide) (fun _ => ?_) (fun _ => ?_)
  · refine j_aload_n (pc := 10) (q := 0) d_ShakeHands_glove_10 rfl rfl ?_
    refine j_getA (pc := 11) d_ShakeHands_glove_11 fl_ShakeHands_35 sx_0 (by decide) rfl ?_
    refine j_getI (pc := 14) d_ShakeHands_glove_14 fl_ShakeHands_103 sx_16 (by decide) rfl ?_
    refine j_iload_n (pc := 17) (q := 1) d_ShakeHands_glove_17 rfl rfl ?_
    refine j_iushr (pc := 18) d_ShakeHands_glove_18 ?_
    refine j_iconst (pc := 19) d_ShakeHands_glove_19 k_i_1 ?_
    refine j_iand (pc := 20) d_ShakeHands_glove_20 ?_
    refine j_nmi (fun x3 => ?_)
    refine j_istore_n (pc := 21) d_ShakeHands_glove_21 rfl (by decide) rfl ?_
    refine j_aload_n (pc := 22) (q := 1) d_ShakeHands_glove_22 rfl rfl ?_
    refine j_getA (pc := 23) d_ShakeHands_glove_23 fl_ShakeHands_35 sx_0 (by decide) rfl ?_
    refine j_iload_n (pc := 26) (q := 3) d_ShakeHands_glove_26 rfl rfl ?_
    refine j_nmk (fun k => ∀ (u4 : Int32), J (mt_ShakeHands_glove) wI 57 [(3, Value.int x3)] [Value.int u4, Value.ref 16] M2 (k u4)) (fun u4 => ?_) (fun k57 hk57 => ?_)
    · refine j_putI (pc := 57) d_ShakeHands_glove_57 fl_ShakeHands_103 rfl sx_16 (by decide) rfl ?_
      refine j_iload_n (pc := 60) (q := 0) d_ShakeHands_glove_60 rfl rfl ?_
      exact j_ireturn (pc := 61) d_ShakeHands_glove_61 rfl
    · refine j_if_eq (pc := 27) (tgt := 44) d_ShakeHands_glove_27 (by decide) (fun _ => ?_) (fun _ => ?_)
      · refine j_aload_n (pc := 44) (q := 1) d_ShakeHands_glove_44 rfl rfl ?_
        refine j_getA (pc := 45) d_ShakeHands_glove_45 fl_ShakeHands_35 sx_0 (by decide) rfl ?_
        refine j_getI (pc := 48) d_ShakeHands_glove_48 fl_ShakeHands_103 sx_16 (by decide) rfl ?_
        refine j_iconst (pc := 51) d_ShakeHands_glove_51 k_i_1 ?_
        refine j_iload_n (pc := 52) (q := 2) d_ShakeHands_glove_52 rfl rfl ?_
        refine j_ishl (pc := 53) d_ShakeHands_glove_53 ?_
        refine j_iconst (pc := 54) d_ShakeHands_glove_54 k_i_m1 ?_
        refine j_ixor (pc := 55) d_ShakeHands_glove_55 ?_
        refine j_iand (pc := 56) d_ShakeHands_glove_56 ?_
        refine j_lv [0] rfl ?_
        exact hk57 ((M2.1 16 1) &&& (((1 : Int32) <<< (p1 &&& 31)) ^^^ (-1)))
      · refine j_aload_n (pc := 30) (q := 1) d_ShakeHands_glove_30 rfl rfl ?_
        refine j_getA (pc := 31) d_ShakeHands_glove_31 fl_ShakeHands_35 sx_0 (by decide) rfl ?_
        refine j_getI (pc := 34) d_ShakeHands_glove_34 fl_ShakeHands_103 sx_16 (by decide) rfl ?_
        refine j_iconst (pc := 37) d_ShakeHands_glove_37 k_i_1 ?_
        refine j_iload_n (pc := 38) (q := 2) d_ShakeHands_glove_38 rfl rfl ?_
        refine j_ishl (pc := 39) d_ShakeHands_glove_39 ?_
        refine j_ior (pc := 40) d_ShakeHands_glove_40 ?_
        refine j_goto (pc := 41) (tgt := 57) d_ShakeHands_glove_41 (by decide) ?_
        refine j_lv [0] rfl ?_
        exact hk57 ((M2.1 16 1) ||| ((1 : Int32) <<< (p1 &&& 31)))
  · refine j_iconst (pc := 8) d_ShakeHands_glove_8 k_i_m1 ?_
    exact j_ireturn (pc := 9) d_ShakeHands_glove_9 rfl
-- ShakeHands.areTwo (II)Z
def mt_ShakeHands_areTwo : Mt := ("ShakeHands", b_ShakeHands_areTwo, 3, some .boolean, 3, SHx)
theorem d_ShakeHands_areTwo_0 : decode b_ShakeHands_areTwo 0 = .ok (.aload_n 0, 1) := by decide +kernel
theorem d_ShakeHands_areTwo_1 : decode b_ShakeHands_areTwo 1 = .ok (.iload_n 1, 1) := by decide +kernel
theorem d_ShakeHands_areTwo_2 : decode b_ShakeHands_areTwo 2 = .ok (.invokevirtual 141, 3) := by decide +kernel
theorem d_ShakeHands_areTwo_5 : decode b_ShakeHands_areTwo 5 = .ok (.ifCond .eq 20, 3) := by decide +kernel
theorem d_ShakeHands_areTwo_8 : decode b_ShakeHands_areTwo 8 = .ok (.aload_n 0, 1) := by decide +kernel
theorem d_ShakeHands_areTwo_9 : decode b_ShakeHands_areTwo 9 = .ok (.iload_n 2, 1) := by decide +kernel
theorem d_ShakeHands_areTwo_10 : decode b_ShakeHands_areTwo 10 = .ok (.invokevirtual 141, 3) := by decide +kernel
theorem d_ShakeHands_areTwo_13 : decode b_ShakeHands_areTwo 13 = .ok (.ifCond .eq 12, 3) := by decide +kernel
theorem d_ShakeHands_areTwo_16 : decode b_ShakeHands_areTwo 16 = .ok (.iload_n 1, 1) := by decide +kernel
theorem d_ShakeHands_areTwo_17 : decode b_ShakeHands_areTwo 17 = .ok (.iload_n 2, 1) := by decide +kernel
theorem d_ShakeHands_areTwo_18 : decode b_ShakeHands_areTwo 18 = .ok (.if_icmp .eq 7, 3) := by decide +kernel
theorem d_ShakeHands_areTwo_21 : decode b_ShakeHands_areTwo 21 = .ok (.iconst 1, 1) := by decide +kernel
theorem d_ShakeHands_areTwo_22 : decode b_ShakeHands_areTwo 22 = .ok (.goto 4, 3) := by decide +kernel
theorem d_ShakeHands_areTwo_25 : decode b_ShakeHands_areTwo 25 = .ok (.iconst 0, 1) := by decide +kernel
theorem d_ShakeHands_areTwo_26 : decode b_ShakeHands_areTwo 26 = .ok (.ireturn, 1) := by decide +kernel
def X_ShakeHands_areTwo (n : Nat) (p1 : Int32) (p2 : Int32) (M : Mem) : Option (Int32 × Mem) :=
  bd (X_ShakeHands_isOne n p1 M) fun r1 M2 =>
  (if r1 = 0 then
    some (0, M2)
    else
    bd (X_ShakeHands_isOne n p2 M2) fun r3 M4 =>
    (if r3 = 0 then
      some (0, M4)
      else
      (if p1 = p2 then
        some (0, M4)
        else
        some (1, M4))))
set_option maxRecDepth 20000 in
set_option maxHeartbeats 4000000 in
theorem C_ShakeHands_areTwo (n : Nat)   (p1 : Int32) (p2 : Int32) (M : Mem) : Ct y_ShakeHands_areTwo mt_ShakeHands_areTwo wI [Value.ref 0, Value.int p1, Value.int p2] M (X_ShakeHands_areTwo n p1 p2 M) := by
  refine ct_of (by decide +kernel) rfl (Nat.le_of_ble_eq_true rfl) ?_
  show J _ _ _ [(0, Value.ref 0), (1, Value.int p1), (2, Value.int p2)] _ _ _
  unfold X_ShakeHands_areTwo
  refine j_aload_n (pc := 0) (q := 0) d_ShakeHands_areTwo_0 rfl rfl ?_
  refine j_iload_n (pc := 1) (q := 1) d_ShakeHands_areTwo_1 rfl rfl ?_
  refine j_callV1 (pc := 2) d_ShakeHands_areTwo_2 (C_ShakeHands_isOne n p1 M) cV_ShakeHands_141 cd_ShakeHands_isOne dn_ShakeHands_isOne rfl (by decide) (Nat.le_of_ble_eq_true rfl) (Nat.le_of_ble_eq_true rfl) nr_I sx_0 (by decide) rfl (fun r1 M2 => ?_)
  refine j_if_eq (pc := 5) (tgt := 25) d_ShakeHands_areTwo_5 (by decide) (fun _ => ?_) (fun _ => ?_)
  · refine j_iconst (pc := 25) d_ShakeHands_areTwo_25 k_i_0 ?_
    exact j_zreturn (pc := 26) d_ShakeHands_areTwo_26 rfl rfl
  · refine j_aload_n (pc := 8) (q := 0) d_ShakeHands_areTwo_8 rfl rfl ?_
    refine j_iload_n (pc := 9) (q := 2) d_ShakeHands_areTwo_9 rfl rfl ?_
    refine j_callV1 (pc := 10) d_ShakeHands_areTwo_10 (C_ShakeHands_isOne n p2 M2) cV_ShakeHands_141 cd_ShakeHands_isOne dn_ShakeHands_isOne rfl (by decide) (Nat.le_of_ble_eq_true rfl) (Nat.le_of_ble_eq_true rfl) nr_I sx_0 (by decide) rfl (fun r3 M4 => ?_)
    refine j_if_eq (pc := 13) (tgt := 25) d_ShakeHands_areTwo_13 (by decide) (fun _ => ?_) (fun _ => ?_)
    · refine j_iconst (pc := 25) d_ShakeHands_areTwo_25 k_i_0 ?_
      exact j_zreturn (pc := 26) d_ShakeHands_areTwo_26 rfl rfl
    · refine j_iload_n (pc := 16) (q := 1) d_ShakeHands_areTwo_16 rfl rfl ?_
      refine j_iload_n (pc := 17) (q := 2) d_ShakeHands_areTwo_17 rfl rfl ?_
      refine j_icmp_eq (pc := 18) (tgt := 25) d_ShakeHands_areTwo_18 (by decide) (fun _ => ?_) (fun _ => ?_)
      · refine j_iconst (pc := 25) d_ShakeHands_areTwo_25 k_i_0 ?_
        exact j_zreturn (pc := 26) d_ShakeHands_areTwo_26 rfl rfl
      · refine j_iconst (pc := 21) d_ShakeHands_areTwo_21 k_i_1 ?_
        refine j_goto (pc := 22) (tgt := 26) d_ShakeHands_areTwo_22 (by decide) ?_
        exact j_zreturn (pc := 26) d_ShakeHands_areTwo_26 rfl rfl
-- ShakeHands.shake (II)I
def mt_ShakeHands_shake : Mt := ("ShakeHands", b_ShakeHands_shake, 3, some .int, 6, SHx)
theorem d_ShakeHands_shake_0 : decode b_ShakeHands_shake 0 = .ok (.aload_n 0, 1) := by decide +kernel
theorem d_ShakeHands_shake_1 : decode b_ShakeHands_shake 1 = .ok (.iload_n 1, 1) := by decide +kernel
theorem d_ShakeHands_shake_2 : decode b_ShakeHands_shake 2 = .ok (.iload_n 2, 1) := by decide +kernel
theorem d_ShakeHands_shake_3 : decode b_ShakeHands_shake 3 = .ok (.invokevirtual 176, 3) := by decide +kernel
theorem d_ShakeHands_shake_6 : decode b_ShakeHands_shake 6 = .ok (.ifCond .ne 5, 3) := by decide +kernel
theorem d_ShakeHands_shake_9 : decode b_ShakeHands_shake 9 = .ok (.iconst (-1), 1) := by decide +kernel
theorem d_ShakeHands_shake_10 : decode b_ShakeHands_shake 10 = .ok (.ireturn, 1) := by decide +kernel
theorem d_ShakeHands_shake_11 : decode b_ShakeHands_shake 11 = .ok (.aload_n 0, 1) := by decide +kernel
theorem d_ShakeHands_shake_12 : decode b_ShakeHands_shake 12 = .ok (.getfield 35, 3) := by decide +kernel
theorem d_ShakeHands_shake_15 : decode b_ShakeHands_shake 15 = .ok (.getfield 103, 3) := by decide +kernel
theorem d_ShakeHands_shake_18 : decode b_ShakeHands_shake 18 = .ok (.iload_n 1, 1) := by decide +kernel
theorem d_ShakeHands_shake_19 : decode b_ShakeHands_shake 19 = .ok (.iushr, 1) := by decide +kernel
theorem d_ShakeHands_shake_20 : decode b_ShakeHands_shake 20 = .ok (.aload_n 0, 1) := by decide +kernel
theorem d_ShakeHands_shake_21 : decode b_ShakeHands_shake 21 = .ok (.getfield 35, 3) := by decide +kernel
theorem d_ShakeHands_shake_24 : decode b_ShakeHands_shake 24 = .ok (.getfield 103, 3) := by decide +kernel
theorem d_ShakeHands_shake_27 : decode b_ShakeHands_shake 27 = .ok (.iload_n 2, 1) := by decide +kernel
theorem d_ShakeHands_shake_28 : decode b_ShakeHands_shake 28 = .ok (.iushr, 1) := by decide +kernel
theorem d_ShakeHands_shake_29 : decode b_ShakeHands_shake 29 = .ok (.ior, 1) := by decide +kernel
theorem d_ShakeHands_shake_30 : decode b_ShakeHands_shake 30 = .ok (.iconst 1, 1) := by decide +kernel
theorem d_ShakeHands_shake_31 : decode b_ShakeHands_shake 31 = .ok (.iand, 1) := by decide +kernel
theorem d_ShakeHands_shake_32 : decode b_ShakeHands_shake 32 = .ok (.ifCond .eq 6, 3) := by decide +kernel
theorem d_ShakeHands_shake_35 : decode b_ShakeHands_shake 35 = .ok (.bipush (-4), 2) := by decide +kernel
theorem d_ShakeHands_shake_37 : decode b_ShakeHands_shake 37 = .ok (.ireturn, 1) := by decide +kernel
theorem d_ShakeHands_shake_38 : decode b_ShakeHands_shake 38 = .ok (.aload_n 0, 1) := by decide +kernel
theorem d_ShakeHands_shake_39 : decode b_ShakeHands_shake 39 = .ok (.getfield 28, 3) := by decide +kernel
theorem d_ShakeHands_shake_42 : decode b_ShakeHands_shake 42 = .ok (.aload_n 0, 1) := by decide +kernel
theorem d_ShakeHands_shake_43 : decode b_ShakeHands_shake 43 = .ok (.getfield 35, 3) := by decide +kernel
theorem d_ShakeHands_shake_46 : decode b_ShakeHands_shake 46 = .ok (.getfield 93, 3) := by decide +kernel
theorem d_ShakeHands_shake_49 : decode b_ShakeHands_shake 49 = .ok (.aload_n 0, 1) := by decide +kernel
theorem d_ShakeHands_shake_50 : decode b_ShakeHands_shake 50 = .ok (.getfield 35, 3) := by decide +kernel
theorem d_ShakeHands_shake_53 : decode b_ShakeHands_shake 53 = .ok (.getfield 103, 3) := by decide +kernel
theorem d_ShakeHands_shake_56 : decode b_ShakeHands_shake 56 = .ok (.iload_n 1, 1) := by decide +kernel
theorem d_ShakeHands_shake_57 : decode b_ShakeHands_shake 57 = .ok (.iload_n 2, 1) := by decide +kernel
theorem d_ShakeHands_shake_58 : decode b_ShakeHands_shake 58 = .ok (.invokestatic 179, 3) := by decide +kernel
theorem d_ShakeHands_shake_61 : decode b_ShakeHands_shake 61 = .ok (.invokevirtual 183, 3) := by decide +kernel
theorem d_ShakeHands_shake_64 : decode b_ShakeHands_shake 64 = .ok (.pop, 1) := by decide +kernel
theorem d_ShakeHands_shake_65 : decode b_ShakeHands_shake 65 = .ok (.aload_n 0, 1) := by decide +kernel
theorem d_ShakeHands_shake_66 : decode b_ShakeHands_shake 66 = .ok (.getfield 35, 3) := by decide +kernel
theorem d_ShakeHands_shake_69 : decode b_ShakeHands_shake 69 = .ok (.getfield 93, 3) := by decide +kernel
theorem d_ShakeHands_shake_72 : decode b_ShakeHands_shake 72 = .ok (.iload_n 1, 1) := by decide +kernel
theorem d_ShakeHands_shake_73 : decode b_ShakeHands_shake 73 = .ok (.laload, 1) := by decide +kernel
theorem d_ShakeHands_shake_74 : decode b_ShakeHands_shake 74 = .ok (.invokestatic 151, 3) := by decide +kernel
theorem d_ShakeHands_shake_77 : decode b_ShakeHands_shake 77 = .ok (.ireturn, 1) := by decide +kernel
def X_ShakeHands_shake (n : Nat) (p1 : Int32) (p2 : Int32) (M : Mem) : Option (Int32 × Mem) :=
  bd (X_ShakeHands_areTwo n p1 p2 M) fun r1 M2 =>
  (if r1 = 0 then
    some ((-1), M2)
    else
    (if (((((M2.1 16 1).toUInt32 >>> (p1.toUInt32 &&& Int32.toUInt32 31)).toInt32) ||| (((M2.1 16 1).toUInt32 >>> (p2.toUInt32 &&& Int32.toUInt32 31)).toInt32)) &&& 1) = 0 then
      bd (X_ShakeHands_pairOf n p1 p2 M2) fun r3 M4 =>
      bd (X_Circle_meet n 17 (M2.1 16 1) r3 M4) fun r5 M6 =>
      gd p1 6 (
        bd (X_Row_sizeOf n (M6.2 17 p1.toNatClampNeg) M6) fun r7 M8 =>
        some (r7, M8))
      else
      some ((-4), M2)))
set_option maxRecDepth 20000 in
set_option maxHeartbeats 4000000 in
theorem C_ShakeHands_shake (n : Nat)   (p1 : Int32) (p2 : Int32) (M : Mem) : Ct y_ShakeHands_shake mt_ShakeHands_shake wI [Value.ref 0, Value.int p1, Value.int p2] M (X_ShakeHands_shake n p1 p2 M) := by
  refine ct_of (by decide +kernel) rfl (Nat.le_of_ble_eq_true rfl) ?_
  show J _ _ _ [(0, Value.ref 0), (1, Value.int p1), (2, Value.int p2)] _ _ _
  unfold X_ShakeHands_shake
  refine j_aload_n (pc := 0) (q := 0) d_ShakeHands_shake_0 rfl rfl ?_
  refine j_iload_n (pc := 1) (q := 1) d_ShakeHands_shake_1 rfl rfl ?_
  refine j_iload_n (pc := 2) (q := 2) d_ShakeHands_shake_2 rfl rfl ?_
  refine j_callV2 (pc := 3) d_ShakeHands_shake_3 (C_ShakeHands_areTwo n p1 p2 M) cV_ShakeHands_176 cd_ShakeHands_areTwo dn_ShakeHands_areTwo rfl (by decide) (Nat.le_of_ble_eq_true rfl) (Nat.le_of_ble_eq_true rfl) nr_I sx_0 (by decide) rfl (fun r1 M2 => ?_)
  refine j_if_ne (pc := 6) (tgt := 11) d_ShakeHands_shake_6 (by decide) (fun _ => ?_) (fun _ => ?_)
  · refine j_aload_n (pc := 11) (q := 0) d_ShakeHands_shake_11 rfl rfl ?_
    refine j_getA (pc := 12) d_ShakeHands_shake_12 fl_ShakeHands_35 sx_0 (by decide) rfl ?_
    refine j_getI (pc := 15) d_ShakeHands_shake_15 fl_ShakeHands_103 sx_16 (by decide) rfl ?_
    refine j_iload_n (pc := 18) (q := 1) d_ShakeHands_shake_18 rfl rfl ?_
    refine j_iushr (pc := 19) d_ShakeHands_shake_19 ?_
    refine j_aload_n (pc := 20) (q := 0) d_ShakeHands_shake_20 rfl rfl ?_
    refine j_getA (pc := 21) d_ShakeHands_shake_21 fl_ShakeHands_35 sx_0 (by decide) rfl ?_
    refine j_getI (pc := 24) d_ShakeHands_shake_24 fl_ShakeHands_103 sx_16 (by decide) rfl ?_
    refine j_iload_n (pc := 27) (q := 2) d_ShakeHands_shake_27 rfl rfl ?_
    refine j_iushr (pc := 28) d_ShakeHands_shake_28 ?_
    refine j_ior (pc := 29) d_ShakeHands_shake_29 ?_
    refine j_iconst (pc := 30) d_ShakeHands_shake_30 k_i_1 ?_
    refine j_iand (pc := 31) d_ShakeHands_shake_31 ?_
    refine j_if_eq (pc := 32) (tgt := 38) d_ShakeHands_shake_32 (by decide) (fun _ => ?_) (fun _ => ?_)
    · refine j_aload_n (pc := 38) (q := 0) d_ShakeHands_shake_38 rfl rfl ?_
      refine j_getA (pc := 39) d_ShakeHands_shake_39 fl_ShakeHands_28 sx_0 (by decide) rfl ?_
      refine j_aload_n (pc := 42) (q := 0) d_ShakeHands_shake_42 rfl rfl ?_
      refine j_getA (pc := 43) d_ShakeHands_shake_43 fl_ShakeHands_35 sx_0 (by decide) rfl ?_
      refine j_getA (pc := 46) d_ShakeHands_shake_46 fl_ShakeHands_93 sx_16 (by decide) rfl ?_
      refine j_aload_n (pc := 49) (q := 0) d_ShakeHands_shake_49 rfl rfl ?_
      refine j_getA (pc := 50) d_ShakeHands_shake_50 fl_ShakeHands_35 sx_0 (by decide) rfl ?_
      refine j_getI (pc := 53) d_ShakeHands_shake_53 fl_ShakeHands_103 sx_16 (by decide) rfl ?_
      refine j_iload_n (pc := 56) (q := 1) d_ShakeHands_shake_56 rfl rfl ?_
      refine j_iload_n (pc := 57) (q := 2) d_ShakeHands_shake_57 rfl rfl ?_
      refine j_callS2 (pc := 58) d_ShakeHands_shake_58 (C_ShakeHands_pairOf n p1 p2 M2) cS_ShakeHands_179 cd_ShakeHands_pairOf dn_ShakeHands_pairOf rfl (by decide) (Nat.le_of_ble_eq_true rfl) (Nat.le_of_ble_eq_true rfl) nr_I (fun r3 M4 => ?_)
      refine j_callV3 (pc := 61) d_ShakeHands_shake_61 (C_Circle_meet n 17 sx_17 (M2.1 16 1) r3 M4) cV_ShakeHands_183 cd_Circle_meet dn_Circle_meet rfl (by decide) (Nat.le_of_ble_eq_true rfl) (Nat.le_of_ble_eq_true rfl) nr_I sx_11 (by decide) rfl (fun r5 M6 => ?_)
      refine j_pop (pc := 64) d_ShakeHands_shake_64 rfl ?_
      refine j_aload_n (pc := 65) (q := 0) d_ShakeHands_shake_65 rfl rfl ?_
      refine j_getA (pc := 66) d_ShakeHands_shake_66 fl_ShakeHands_35 sx_0 (by decide) rfl ?_
      refine j_getA (pc := 69) d_ShakeHands_shake_69 fl_ShakeHands_93 sx_16 (by decide) rfl ?_
      refine j_iload_n (pc := 72) (q := 1) d_ShakeHands_shake_72 rfl rfl ?_
      refine j_lald (pc := 73) d_ShakeHands_shake_73 sx_17 (fun _ => ?_)
      refine j_callS1 (pc := 74) d_ShakeHands_shake_74 (C_Row_sizeOf n (M6.2 17 p1.toNatClampNeg) M6) cS_ShakeHands_151 cd_Row_sizeOf dn_Row_sizeOf rfl (by decide) (Nat.le_of_ble_eq_true rfl) (Nat.le_of_ble_eq_true rfl) nr_I (fun r7 M8 => ?_)
      exact j_ireturn (pc := 77) d_ShakeHands_shake_77 rfl
    · refine j_bipush (pc := 35) d_ShakeHands_shake_35 k_b_m4 ?_
      exact j_ireturn (pc := 37) d_ShakeHands_shake_37 rfl
  · refine j_iconst (pc := 9) d_ShakeHands_shake_9 k_i_m1 ?_
    exact j_ireturn (pc := 10) d_ShakeHands_shake_10 rfl
-- ShakeHands.isFeastPart (I)Z
def mt_ShakeHands_isFeastPart : Mt := ("ShakeHands", b_ShakeHands_isFeastPart, 2, some .boolean, 2, SHx)
theorem d_ShakeHands_isFeastPart_0 : decode b_ShakeHands_isFeastPart 0 = .ok (.iload_n 1, 1) := by decide +kernel
theorem d_ShakeHands_isFeastPart_1 : decode b_ShakeHands_isFeastPart 1 = .ok (.ifCond .lt 18, 3) := by decide +kernel
theorem d_ShakeHands_isFeastPart_4 : decode b_ShakeHands_isFeastPart 4 = .ok (.iload_n 1, 1) := by decide +kernel
theorem d_ShakeHands_isFeastPart_5 : decode b_ShakeHands_isFeastPart 5 = .ok (.aload_n 0, 1) := by decide +kernel
theorem d_ShakeHands_isFeastPart_6 : decode b_ShakeHands_isFeastPart 6 = .ok (.getfield 28, 3) := by decide +kernel
theorem d_ShakeHands_isFeastPart_9 : decode b_ShakeHands_isFeastPart 9 = .ok (.getfield 119, 3) := by decide +kernel
theorem d_ShakeHands_isFeastPart_12 : decode b_ShakeHands_isFeastPart 12 = .ok (.if_icmp .gt 7, 3) := by decide +kernel
theorem d_ShakeHands_isFeastPart_15 : decode b_ShakeHands_isFeastPart 15 = .ok (.iconst 1, 1) := by decide +kernel
theorem d_ShakeHands_isFeastPart_16 : decode b_ShakeHands_isFeastPart 16 = .ok (.goto 4, 3) := by decide +kernel
theorem d_ShakeHands_isFeastPart_19 : decode b_ShakeHands_isFeastPart 19 = .ok (.iconst 0, 1) := by decide +kernel
theorem d_ShakeHands_isFeastPart_20 : decode b_ShakeHands_isFeastPart 20 = .ok (.ireturn, 1) := by decide +kernel
def X_ShakeHands_isFeastPart (n : Nat) (p1 : Int32) (M : Mem) : Option (Int32 × Mem) :=
  (if p1 < 0 then
    some (0, M)
    else
    (if (M.1 11 5) < p1 then
      some (0, M)
      else
      some (1, M)))
set_option maxRecDepth 20000 in
set_option maxHeartbeats 4000000 in
theorem C_ShakeHands_isFeastPart (n : Nat)   (p1 : Int32) (M : Mem) : Ct y_ShakeHands_isFeastPart mt_ShakeHands_isFeastPart wI [Value.ref 0, Value.int p1] M (X_ShakeHands_isFeastPart n p1 M) := by
  refine ct_of (by decide +kernel) rfl (Nat.le_of_ble_eq_true rfl) ?_
  show J _ _ _ [(0, Value.ref 0), (1, Value.int p1)] _ _ _
  unfold X_ShakeHands_isFeastPart
  refine j_iload_n (pc := 0) (q := 1) d_ShakeHands_isFeastPart_0 rfl rfl ?_
  refine j_if_lt (pc := 1) (tgt := 19) d_ShakeHands_isFeastPart_1 (by decide) (fun _ => ?_) (fun _ => ?_)
  · refine j_iconst (pc := 19) d_ShakeHands_isFeastPart_19 k_i_0 ?_
    exact j_zreturn (pc := 20) d_ShakeHands_isFeastPart_20 rfl rfl
  · refine j_iload_n (pc := 4) (q := 1) d_ShakeHands_isFeastPart_4 rfl rfl ?_
    refine j_aload_n (pc := 5) (q := 0) d_ShakeHands_isFeastPart_5 rfl rfl ?_
    refine j_getA (pc := 6) d_ShakeHands_isFeastPart_6 fl_ShakeHands_28 sx_0 (by decide) rfl ?_
    refine j_getI (pc := 9) d_ShakeHands_isFeastPart_9 fl_ShakeHands_119 sx_11 (by decide) rfl ?_
    refine j_icmp_gt (pc := 12) (tgt := 19) d_ShakeHands_isFeastPart_12 (by decide) (fun _ => ?_) (fun _ => ?_)
    · refine j_iconst (pc := 19) d_ShakeHands_isFeastPart_19 k_i_0 ?_
      exact j_zreturn (pc := 20) d_ShakeHands_isFeastPart_20 rfl rfl
    · refine j_iconst (pc := 15) d_ShakeHands_isFeastPart_15 k_i_1 ?_
      refine j_goto (pc := 16) (tgt := 20) d_ShakeHands_isFeastPart_16 (by decide) ?_
      exact j_zreturn (pc := 20) d_ShakeHands_isFeastPart_20 rfl rfl
-- ShakeHands.feast (I)I
def mt_ShakeHands_feast : Mt := ("ShakeHands", b_ShakeHands_feast, 3, some .int, 7, SHx)
theorem d_ShakeHands_feast_0 : decode b_ShakeHands_feast 0 = .ok (.aload_n 0, 1) := by decide +kernel
theorem d_ShakeHands_feast_1 : decode b_ShakeHands_feast 1 = .ok (.iload_n 1, 1) := by decide +kernel
theorem d_ShakeHands_feast_2 : decode b_ShakeHands_feast 2 = .ok (.invokevirtual 187, 3) := by decide +kernel
theorem d_ShakeHands_feast_5 : decode b_ShakeHands_feast 5 = .ok (.ifCond .ne 5, 3) := by decide +kernel
theorem d_ShakeHands_feast_8 : decode b_ShakeHands_feast 8 = .ok (.iconst (-1), 1) := by decide +kernel
theorem d_ShakeHands_feast_9 : decode b_ShakeHands_feast 9 = .ok (.ireturn, 1) := by decide +kernel
theorem d_ShakeHands_feast_10 : decode b_ShakeHands_feast 10 = .ok (.aload_n 0, 1) := by decide +kernel
theorem d_ShakeHands_feast_11 : decode b_ShakeHands_feast 11 = .ok (.getfield 35, 3) := by decide +kernel
theorem d_ShakeHands_feast_14 : decode b_ShakeHands_feast 14 = .ok (.getfield 93, 3) := by decide +kernel
theorem d_ShakeHands_feast_17 : decode b_ShakeHands_feast 17 = .ok (.invokestatic 190, 3) := by decide +kernel
theorem d_ShakeHands_feast_20 : decode b_ShakeHands_feast 20 = .ok (.istore_n 2, 1) := by decide +kernel
theorem d_ShakeHands_feast_21 : decode b_ShakeHands_feast 21 = .ok (.aload_n 0, 1) := by decide +kernel
theorem d_ShakeHands_feast_22 : decode b_ShakeHands_feast 22 = .ok (.getfield 28, 3) := by decide +kernel
theorem d_ShakeHands_feast_25 : decode b_ShakeHands_feast 25 = .ok (.aload_n 0, 1) := by decide +kernel
theorem d_ShakeHands_feast_26 : decode b_ShakeHands_feast 26 = .ok (.getfield 35, 3) := by decide +kernel
theorem d_ShakeHands_feast_29 : decode b_ShakeHands_feast 29 = .ok (.getfield 93, 3) := by decide +kernel
theorem d_ShakeHands_feast_32 : decode b_ShakeHands_feast 32 = .ok (.aload_n 0, 1) := by decide +kernel
theorem d_ShakeHands_feast_33 : decode b_ShakeHands_feast 33 = .ok (.getfield 35, 3) := by decide +kernel
theorem d_ShakeHands_feast_36 : decode b_ShakeHands_feast 36 = .ok (.getfield 103, 3) := by decide +kernel
theorem d_ShakeHands_feast_39 : decode b_ShakeHands_feast 39 = .ok (.iload_n 1, 1) := by decide +kernel
theorem d_ShakeHands_feast_40 : decode b_ShakeHands_feast 40 = .ok (.invokevirtual 194, 3) := by decide +kernel
theorem d_ShakeHands_feast_43 : decode b_ShakeHands_feast 43 = .ok (.iload_n 2, 1) := by decide +kernel
theorem d_ShakeHands_feast_44 : decode b_ShakeHands_feast 44 = .ok (.aload_n 0, 1) := by decide +kernel
theorem d_ShakeHands_feast_45 : decode b_ShakeHands_feast 45 = .ok (.getfield 35, 3) := by decide +kernel
theorem d_ShakeHands_feast_48 : decode b_ShakeHands_feast 48 = .ok (.getfield 93, 3) := by decide +kernel
theorem d_ShakeHands_feast_51 : decode b_ShakeHands_feast 51 = .ok (.invokestatic 190, 3) := by decide +kernel
theorem d_ShakeHands_feast_54 : decode b_ShakeHands_feast 54 = .ok (.iconst (-1), 1) := by decide +kernel
theorem d_ShakeHands_feast_55 : decode b_ShakeHands_feast 55 = .ok (.ixor, 1) := by decide +kernel
theorem d_ShakeHands_feast_56 : decode b_ShakeHands_feast 56 = .ok (.iand, 1) := by decide +kernel
theorem d_ShakeHands_feast_57 : decode b_ShakeHands_feast 57 = .ok (.ireturn, 1) := by decide +kernel
def X_ShakeHands_feast (n : Nat) (p1 : Int32) (M : Mem) : Option (Int32 × Mem) :=
  bd (X_ShakeHands_isFeastPart n p1 M) fun r1 M2 =>
  (if r1 = 0 then
    some ((-1), M2)
    else
    bd (X_Minds_known n 17 M2) fun r3 M4 =>
    bd (X_Circle_celebrate n 17 (M4.1 16 1) p1 M4) fun _ M6 =>
    bd (X_Minds_known n 17 M6) fun r7 M8 =>
    some ((r3 &&& (r7 ^^^ (-1))), M8))
set_option maxRecDepth 20000 in
set_option maxHeartbeats 4000000 in
theorem C_ShakeHands_feast (n : Nat)   (p1 : Int32) (M : Mem) : Ct y_ShakeHands_feast mt_ShakeHands_feast wI [Value.ref 0, Value.int p1] M (X_ShakeHands_feast n p1 M) := by
  refine ct_of (by decide +kernel) rfl (Nat.le_of_ble_eq_true rfl) ?_
  show J _ _ _ [(0, Value.ref 0), (1, Value.int p1)] _ _ _
  unfold X_ShakeHands_feast
  refine j_aload_n (pc := 0) (q := 0) d_ShakeHands_feast_0 rfl rfl ?_
  refine j_iload_n (pc := 1) (q := 1) d_ShakeHands_feast_1 rfl rfl ?_
  refine j_callV1 (pc := 2) d_ShakeHands_feast_2 (C_ShakeHands_isFeastPart n p1 M) cV_ShakeHands_187 cd_ShakeHands_isFeastPart dn_ShakeHands_isFeastPart rfl (by decide) (Nat.le_of_ble_eq_true rfl) (Nat.le_of_ble_eq_true rfl) nr_I sx_0 (by decide) rfl (fun r1 M2 => ?_)
  refine j_if_ne (pc := 5) (tgt := 10) d_ShakeHands_feast_5 (by decide) (fun _ => ?_) (fun _ => ?_)
  · refine j_aload_n (pc := 10) (q := 0) d_ShakeHands_feast_10 rfl rfl ?_
    refine j_getA (pc := 11) d_ShakeHands_feast_11 fl_ShakeHands_35 sx_0 (by decide) rfl ?_
    refine j_getA (pc := 14) d_ShakeHands_feast_14 fl_ShakeHands_93 sx_16 (by decide) rfl ?_
    refine j_callS1 (pc := 17) d_ShakeHands_feast_17 (C_Minds_known n 17 sx_17 M2) cS_ShakeHands_190 cd_Minds_known dn_Minds_known rfl (by decide) (Nat.le_of_ble_eq_true rfl) (Nat.le_of_ble_eq_true rfl) nr_I (fun r3 M4 => ?_)
    refine j_istore_n (pc := 20) d_ShakeHands_feast_20 rfl (by decide) rfl ?_
    refine j_aload_n (pc := 21) (q := 1) d_ShakeHands_feast_21 rfl rfl ?_
    refine j_getA (pc := 22) d_ShakeHands_feast_22 fl_ShakeHands_28 sx_0 (by decide) rfl ?_
    refine j_aload_n (pc := 25) (q := 1) d_ShakeHands_feast_25 rfl rfl ?_
    refine j_getA (pc := 26) d_ShakeHands_feast_26 fl_ShakeHands_35 sx_0 (by decide) rfl ?_
    refine j_getA (pc := 29) d_ShakeHands_feast_29 fl_ShakeHands_93 sx_16 (by decide) rfl ?_
    refine j_aload_n (pc := 32) (q := 1) d_ShakeHands_feast_32 rfl rfl ?_
    refine j_getA (pc := 33) d_ShakeHands_feast_33 fl_ShakeHands_35 sx_0 (by decide) rfl ?_
    refine j_getI (pc := 36) d_ShakeHands_feast_36 fl_ShakeHands_103 sx_16 (by decide) rfl ?_
    refine j_iload_n (pc := 39) (q := 2) d_ShakeHands_feast_39 rfl rfl ?_
    refine j_callV3 (pc := 40) d_ShakeHands_feast_40 (C_Circle_celebrate n 17 sx_17 (M4.1 16 1) p1 M4) cV_ShakeHands_194 cd_Circle_celebrate dn_Circle_celebrate rfl (by decide) (Nat.le_of_ble_eq_true rfl) (Nat.le_of_ble_eq_true rfl) nr_U sx_11 (by decide) rfl (fun r5 M6 => ?_)
    refine j_iload_n (pc := 43) (q := 0) d_ShakeHands_feast_43 rfl rfl ?_
    refine j_aload_n (pc := 44) (q := 1) d_ShakeHands_feast_44 rfl rfl ?_
    refine j_getA (pc := 45) d_ShakeHands_feast_45 fl_ShakeHands_35 sx_0 (by decide) rfl ?_
    refine j_getA (pc := 48) d_ShakeHands_feast_48 fl_ShakeHands_93 sx_16 (by decide) rfl ?_
    refine j_callS1 (pc := 51) d_ShakeHands_feast_51 (C_Minds_known n 17 sx_17 M6) cS_ShakeHands_190 cd_Minds_known dn_Minds_known rfl (by decide) (Nat.le_of_ble_eq_true rfl) (Nat.le_of_ble_eq_true rfl) nr_I (fun r7 M8 => ?_)
    refine j_iconst (pc := 54) d_ShakeHands_feast_54 k_i_m1 ?_
    refine j_ixor (pc := 55) d_ShakeHands_feast_55 ?_
    refine j_iand (pc := 56) d_ShakeHands_feast_56 ?_
    exact j_ireturn (pc := 57) d_ShakeHands_feast_57 rfl
  · refine j_iconst (pc := 8) d_ShakeHands_feast_8 k_i_m1 ?_
    exact j_ireturn (pc := 9) d_ShakeHands_feast_9 rfl
-- ShakeHands.takeTrial ()V
def mt_ShakeHands_takeTrial : Mt := ("ShakeHands", b_ShakeHands_takeTrial, 1, none, 2, SHx)
theorem d_ShakeHands_takeTrial_0 : decode b_ShakeHands_takeTrial 0 = .ok (.aload_n 0, 1) := by decide +kernel
theorem d_ShakeHands_takeTrial_1 : decode b_ShakeHands_takeTrial 1 = .ok (.getfield 35, 3) := by decide +kernel
theorem d_ShakeHands_takeTrial_4 : decode b_ShakeHands_takeTrial 4 = .ok (.getfield 93, 3) := by decide +kernel
theorem d_ShakeHands_takeTrial_7 : decode b_ShakeHands_takeTrial 7 = .ok (.iconst 0, 1) := by decide +kernel
theorem d_ShakeHands_takeTrial_8 : decode b_ShakeHands_takeTrial 8 = .ok (.aload_n 0, 1) := by decide +kernel
theorem d_ShakeHands_takeTrial_9 : decode b_ShakeHands_takeTrial 9 = .ok (.getfield 66, 3) := by decide +kernel
theorem d_ShakeHands_takeTrial_12 : decode b_ShakeHands_takeTrial 12 = .ok (.iconst 0, 1) := by decide +kernel
theorem d_ShakeHands_takeTrial_13 : decode b_ShakeHands_takeTrial 13 = .ok (.bipush 6, 2) := by decide +kernel
theorem d_ShakeHands_takeTrial_15 : decode b_ShakeHands_takeTrial 15 = .ok (.invokestatic 94, 3) := by decide +kernel
theorem d_ShakeHands_takeTrial_18 : decode b_ShakeHands_takeTrial 18 = .ok (.return_, 1) := by decide +kernel
def X_ShakeHands_takeTrial (n : Nat) (M : Mem) : Option (Unit × Mem) :=
  gc (0 : Int32) (0 : Int32) (6 : Int32) 6 6 (
    some ((), cpL M 17 ((0 : Int32).toNatClampNeg) 49 ((0 : Int32).toNatClampNeg) ((6 : Int32).toNatClampNeg)))
set_option maxRecDepth 20000 in
set_option maxHeartbeats 4000000 in
theorem C_ShakeHands_takeTrial (n : Nat)    (M : Mem) : Ct y_ShakeHands_takeTrial mt_ShakeHands_takeTrial wU [Value.ref 0] M (X_ShakeHands_takeTrial n M) := by
  refine ct_of (by decide +kernel) rfl (Nat.le_of_ble_eq_true rfl) ?_
  show J _ _ _ [(0, Value.ref 0)] _ _ _
  unfold X_ShakeHands_takeTrial
  refine j_aload_n (pc := 0) (q := 0) d_ShakeHands_takeTrial_0 rfl rfl ?_
  refine j_getA (pc := 1) d_ShakeHands_takeTrial_1 fl_ShakeHands_35 sx_0 (by decide) rfl ?_
  refine j_getA (pc := 4) d_ShakeHands_takeTrial_4 fl_ShakeHands_93 sx_16 (by decide) rfl ?_
  refine j_iconst (pc := 7) d_ShakeHands_takeTrial_7 k_i_0 ?_
  refine j_aload_n (pc := 8) (q := 0) d_ShakeHands_takeTrial_8 rfl rfl ?_
  refine j_getA (pc := 9) d_ShakeHands_takeTrial_9 fl_ShakeHands_66 sx_0 (by decide) rfl ?_
  refine j_iconst (pc := 12) d_ShakeHands_takeTrial_12 k_i_0 ?_
  refine j_bipush (pc := 13) d_ShakeHands_takeTrial_13 k_b_6 ?_
  refine j_copyL (pc := 15) d_ShakeHands_takeTrial_15 cw_ShakeHands_94 cw_nat cw_st sx_17 sx_49 (by decide) (Nat.le_of_ble_eq_true rfl) ?_
  exact j_return (pc := 18) d_ShakeHands_takeTrial_18 rfl
-- ShakeHands.after (II)I
def mt_ShakeHands_after : Mt := ("ShakeHands", b_ShakeHands_after, 3, some .int, 7, SHx)
theorem d_ShakeHands_after_0 : decode b_ShakeHands_after 0 = .ok (.aload_n 0, 1) := by decide +kernel
theorem d_ShakeHands_after_1 : decode b_ShakeHands_after 1 = .ok (.iload_n 1, 1) := by decide +kernel
theorem d_ShakeHands_after_2 : decode b_ShakeHands_after 2 = .ok (.invokevirtual 187, 3) := by decide +kernel
theorem d_ShakeHands_after_5 : decode b_ShakeHands_after 5 = .ok (.ifCond .eq 11, 3) := by decide +kernel
theorem d_ShakeHands_after_8 : decode b_ShakeHands_after 8 = .ok (.aload_n 0, 1) := by decide +kernel
theorem d_ShakeHands_after_9 : decode b_ShakeHands_after 9 = .ok (.iload_n 2, 1) := by decide +kernel
theorem d_ShakeHands_after_10 : decode b_ShakeHands_after 10 = .ok (.invokevirtual 141, 3) := by decide +kernel
theorem d_ShakeHands_after_13 : decode b_ShakeHands_after 13 = .ok (.ifCond .ne 5, 3) := by decide +kernel
theorem d_ShakeHands_after_16 : decode b_ShakeHands_after 16 = .ok (.iconst (-1), 1) := by decide +kernel
theorem d_ShakeHands_after_17 : decode b_ShakeHands_after 17 = .ok (.ireturn, 1) := by decide +kernel
theorem d_ShakeHands_after_18 : decode b_ShakeHands_after 18 = .ok (.aload_n 0, 1) := by decide +kernel
theorem d_ShakeHands_after_19 : decode b_ShakeHands_after 19 = .ok (.invokevirtual 198, 3) := by decide +kernel
theorem d_ShakeHands_after_22 : decode b_ShakeHands_after 22 = .ok (.aload_n 0, 1) := by decide +kernel
theorem d_ShakeHands_after_23 : decode b_ShakeHands_after 23 = .ok (.getfield 28, 3) := by decide +kernel
theorem d_ShakeHands_after_26 : decode b_ShakeHands_after 26 = .ok (.aload_n 0, 1) := by decide +kernel
theorem d_ShakeHands_after_27 : decode b_ShakeHands_after 27 = .ok (.getfield 66, 3) := by decide +kernel
theorem d_ShakeHands_after_30 : decode b_ShakeHands_after 30 = .ok (.aload_n 0, 1) := by decide +kernel
theorem d_ShakeHands_after_31 : decode b_ShakeHands_after 31 = .ok (.getfield 35, 3) := by decide +kernel
theorem d_ShakeHands_after_34 : decode b_ShakeHands_after 34 = .ok (.getfield 103, 3) := by decide +kernel
theorem d_ShakeHands_after_37 : decode b_ShakeHands_after 37 = .ok (.iload_n 1, 1) := by decide +kernel
theorem d_ShakeHands_after_38 : decode b_ShakeHands_after 38 = .ok (.invokevirtual 194, 3) := by decide +kernel
theorem d_ShakeHands_after_41 : decode b_ShakeHands_after 41 = .ok (.aload_n 0, 1) := by decide +kernel
theorem d_ShakeHands_after_42 : decode b_ShakeHands_after 42 = .ok (.getfield 66, 3) := by decide +kernel
theorem d_ShakeHands_after_45 : decode b_ShakeHands_after 45 = .ok (.iload_n 2, 1) := by decide +kernel
theorem d_ShakeHands_after_46 : decode b_ShakeHands_after 46 = .ok (.laload, 1) := by decide +kernel
theorem d_ShakeHands_after_47 : decode b_ShakeHands_after 47 = .ok (.invokestatic 145, 3) := by decide +kernel
theorem d_ShakeHands_after_50 : decode b_ShakeHands_after 50 = .ok (.ireturn, 1) := by decide +kernel
def X_ShakeHands_after (n : Nat) (p1 : Int32) (p2 : Int32) (M : Mem) : Option (Int32 × Mem) :=
  bd (X_ShakeHands_isFeastPart n p1 M) fun r1 M2 =>
  (if r1 = 0 then
    some ((-1), M2)
    else
    bd (X_ShakeHands_isOne n p2 M2) fun r3 M4 =>
    (if r3 = 0 then
      some ((-1), M4)
      else
      bd (X_ShakeHands_takeTrial n M4) fun _ M6 =>
      bd (X_Circle_celebrate n 49 (M6.1 16 1) p1 M6) fun _ M8 =>
      gd p2 6 (
        bd (X_Row_knownOf n (M8.2 49 p2.toNatClampNeg) M8) fun r9 M10 =>
        some (r9, M10))))
set_option maxRecDepth 20000 in
set_option maxHeartbeats 4000000 in
theorem C_ShakeHands_after (n : Nat)   (p1 : Int32) (p2 : Int32) (M : Mem) : Ct y_ShakeHands_after mt_ShakeHands_after wI [Value.ref 0, Value.int p1, Value.int p2] M (X_ShakeHands_after n p1 p2 M) := by
  refine ct_of (by decide +kernel) rfl (Nat.le_of_ble_eq_true rfl) ?_
  show J _ _ _ [(0, Value.ref 0), (1, Value.int p1), (2, Value.int p2)] _ _ _
  unfold X_ShakeHands_after
  refine j_aload_n (pc := 0) (q := 0) d_ShakeHands_after_0 rfl rfl ?_
  refine j_iload_n (pc := 1) (q := 1) d_ShakeHands_after_1 rfl rfl ?_
  refine j_callV1 (pc := 2) d_ShakeHands_after_2 (C_ShakeHands_isFeastPart n p1 M) cV_ShakeHands_187 cd_ShakeHands_isFeastPart dn_ShakeHands_isFeastPart rfl (by decide) (Nat.le_of_ble_eq_true rfl) (Nat.le_of_ble_eq_true rfl) nr_I sx_0 (by decide) rfl (fun r1 M2 => ?_)
  refine j_if_eq (pc := 5) (tgt := 16) d_ShakeHands_after_5 (by decide) (fun _ => ?_) (fun _ => ?_)
  · refine j_iconst (pc := 16) d_ShakeHands_after_16 k_i_m1 ?_
    exact j_ireturn (pc := 17) d_ShakeHands_after_17 rfl
  · refine j_aload_n (pc := 8) (q := 0) d_ShakeHands_after_8 rfl rfl ?_
    refine j_iload_n (pc := 9) (q := 2) d_ShakeHands_after_9 rfl rfl ?_
    refine j_callV1 (pc := 10) d_ShakeHands_after_10 (C_ShakeHands_isOne n p2 M2) cV_ShakeHands_141 cd_ShakeHands_isOne dn_ShakeHands_isOne rfl (by decide) (Nat.le_of_ble_eq_true rfl) (Nat.le_of_ble_eq_true rfl) nr_I sx_0 (by decide) rfl (fun r3 M4 => ?_)
    refine j_if_ne (pc := 13) (tgt := 18) d_ShakeHands_after_13 (by decide) (fun _ => ?_) (fun _ => ?_)
    · refine j_aload_n (pc := 18) (q := 0) d_ShakeHands_after_18 rfl rfl ?_
      refine j_callV0 (pc := 19) d_ShakeHands_after_19 (C_ShakeHands_takeTrial n M4) cV_ShakeHands_198 cd_ShakeHands_takeTrial dn_ShakeHands_takeTrial rfl (by decide) (Nat.le_of_ble_eq_true rfl) (Nat.le_of_ble_eq_true rfl) nr_U sx_0 (by decide) rfl (fun r5 M6 => ?_)
      refine j_aload_n (pc := 22) (q := 0) d_ShakeHands_after_22 rfl rfl ?_
      refine j_getA (pc := 23) d_ShakeHands_after_23 fl_ShakeHands_28 sx_0 (by decide) rfl ?_
      refine j_aload_n (pc := 26) (q := 0) d_ShakeHands_after_26 rfl rfl ?_
      refine j_getA (pc := 27) d_ShakeHands_after_27 fl_ShakeHands_66 sx_0 (by decide) rfl ?_
      refine j_aload_n (pc := 30) (q := 0) d_ShakeHands_after_30 rfl rfl ?_
      refine j_getA (pc := 31) d_ShakeHands_after_31 fl_ShakeHands_35 sx_0 (by decide) rfl ?_
      refine j_getI (pc := 34) d_ShakeHands_after_34 fl_ShakeHands_103 sx_16 (by decide) rfl ?_
      refine j_iload_n (pc := 37) (q := 1) d_ShakeHands_after_37 rfl rfl ?_
      refine j_callV3 (pc := 38) d_ShakeHands_after_38 (C_Circle_celebrate n 49 sx_49 (M6.1 16 1) p1 M6) cV_ShakeHands_194 cd_Circle_celebrate dn_Circle_celebrate rfl (by decide) (Nat.le_of_ble_eq_true rfl) (Nat.le_of_ble_eq_true rfl) nr_U sx_11 (by decide) rfl (fun r7 M8 => ?_)
      refine j_aload_n (pc := 41) (q := 0) d_ShakeHands_after_41 rfl rfl ?_
      refine j_getA (pc := 42) d_ShakeHands_after_42 fl_ShakeHands_66 sx_0 (by decide) rfl ?_
      refine j_iload_n (pc := 45) (q := 2) d_ShakeHands_after_45 rfl rfl ?_
      refine j_lald (pc := 46) d_ShakeHands_after_46 sx_49 (fun _ => ?_)
      refine j_callS1 (pc := 47) d_ShakeHands_after_47 (C_Row_knownOf n (M8.2 49 p2.toNatClampNeg) M8) cS_ShakeHands_145 cd_Row_knownOf dn_Row_knownOf rfl (by decide) (Nat.le_of_ble_eq_true rfl) (Nat.le_of_ble_eq_true rfl) nr_I (fun r9 M10 => ?_)
      exact j_ireturn (pc := 50) d_ShakeHands_after_50 rfl
    · refine j_iconst (pc := 16) d_ShakeHands_after_16 k_i_m1 ?_
      exact j_ireturn (pc := 17) d_ShakeHands_after_17 rfl
-- ShakeHands.lost (I)I
def mt_ShakeHands_lost : Mt := ("ShakeHands", b_ShakeHands_lost, 3, some .int, 6, SHx)
theorem d_ShakeHands_lost_0 : decode b_ShakeHands_lost 0 = .ok (.iload_n 1, 1) := by decide +kernel
theorem d_ShakeHands_lost_1 : decode b_ShakeHands_lost 1 = .ok (.invokestatic 158, 3) := by decide +kernel
theorem d_ShakeHands_lost_4 : decode b_ShakeHands_lost 4 = .ok (.ifCond .ne 5, 3) := by decide +kernel
theorem d_ShakeHands_lost_7 : decode b_ShakeHands_lost 7 = .ok (.iconst (-1), 1) := by decide +kernel
theorem d_ShakeHands_lost_8 : decode b_ShakeHands_lost 8 = .ok (.ireturn, 1) := by decide +kernel
theorem d_ShakeHands_lost_9 : decode b_ShakeHands_lost 9 = .ok (.aload_n 0, 1) := by decide +kernel
theorem d_ShakeHands_lost_10 : decode b_ShakeHands_lost 10 = .ok (.getfield 35, 3) := by decide +kernel
theorem d_ShakeHands_lost_13 : decode b_ShakeHands_lost 13 = .ok (.getfield 93, 3) := by decide +kernel
theorem d_ShakeHands_lost_16 : decode b_ShakeHands_lost 16 = .ok (.iload_n 1, 1) := by decide +kernel
theorem d_ShakeHands_lost_17 : decode b_ShakeHands_lost 17 = .ok (.invokestatic 161, 3) := by decide +kernel
theorem d_ShakeHands_lost_20 : decode b_ShakeHands_lost 20 = .ok (.ifCond .ne 6, 3) := by decide +kernel
theorem d_ShakeHands_lost_23 : decode b_ShakeHands_lost 23 = .ok (.bipush (-2), 2) := by decide +kernel
theorem d_ShakeHands_lost_25 : decode b_ShakeHands_lost 25 = .ok (.ireturn, 1) := by decide +kernel
theorem d_ShakeHands_lost_26 : decode b_ShakeHands_lost 26 = .ok (.aload_n 0, 1) := by decide +kernel
theorem d_ShakeHands_lost_27 : decode b_ShakeHands_lost 27 = .ok (.invokevirtual 198, 3) := by decide +kernel
theorem d_ShakeHands_lost_30 : decode b_ShakeHands_lost 30 = .ok (.iconst 0, 1) := by decide +kernel
theorem d_ShakeHands_lost_31 : decode b_ShakeHands_lost 31 = .ok (.istore_n 2, 1) := by decide +kernel
theorem d_ShakeHands_lost_32 : decode b_ShakeHands_lost 32 = .ok (.iload_n 2, 1) := by decide +kernel
theorem d_ShakeHands_lost_33 : decode b_ShakeHands_lost 33 = .ok (.aload_n 0, 1) := by decide +kernel
theorem d_ShakeHands_lost_34 : decode b_ShakeHands_lost 34 = .ok (.getfield 28, 3) := by decide +kernel
theorem d_ShakeHands_lost_37 : decode b_ShakeHands_lost 37 = .ok (.getfield 119, 3) := by decide +kernel
theorem d_ShakeHands_lost_40 : decode b_ShakeHands_lost 40 = .ok (.if_icmp .ge 50, 3) := by decide +kernel
theorem d_ShakeHands_lost_43 : decode b_ShakeHands_lost 43 = .ok (.aload_n 0, 1) := by decide +kernel
theorem d_ShakeHands_lost_44 : decode b_ShakeHands_lost 44 = .ok (.getfield 28, 3) := by decide +kernel
theorem d_ShakeHands_lost_47 : decode b_ShakeHands_lost 47 = .ok (.aload_n 0, 1) := by decide +kernel
theorem d_ShakeHands_lost_48 : decode b_ShakeHands_lost 48 = .ok (.getfield 66, 3) := by decide +kernel
theorem d_ShakeHands_lost_51 : decode b_ShakeHands_lost 51 = .ok (.aload_n 0, 1) := by decide +kernel
theorem d_ShakeHands_lost_52 : decode b_ShakeHands_lost 52 = .ok (.getfield 35, 3) := by decide +kernel
theorem d_ShakeHands_lost_55 : decode b_ShakeHands_lost 55 = .ok (.getfield 103, 3) := by decide +kernel
theorem d_ShakeHands_lost_58 : decode b_ShakeHands_lost 58 = .ok (.aload_n 0, 1) := by decide +kernel
theorem d_ShakeHands_lost_59 : decode b_ShakeHands_lost 59 = .ok (.getfield 28, 3) := by decide +kernel
theorem d_ShakeHands_lost_62 : decode b_ShakeHands_lost 62 = .ok (.getfield 135, 3) := by decide +kernel
theorem d_ShakeHands_lost_65 : decode b_ShakeHands_lost 65 = .ok (.iload_n 2, 1) := by decide +kernel
theorem d_ShakeHands_lost_66 : decode b_ShakeHands_lost 66 = .ok (.iaload, 1) := by decide +kernel
theorem d_ShakeHands_lost_67 : decode b_ShakeHands_lost 67 = .ok (.invokevirtual 183, 3) := by decide +kernel
theorem d_ShakeHands_lost_70 : decode b_ShakeHands_lost 70 = .ok (.pop, 1) := by decide +kernel
theorem d_ShakeHands_lost_71 : decode b_ShakeHands_lost 71 = .ok (.aload_n 0, 1) := by decide +kernel
theorem d_ShakeHands_lost_72 : decode b_ShakeHands_lost 72 = .ok (.getfield 66, 3) := by decide +kernel
theorem d_ShakeHands_lost_75 : decode b_ShakeHands_lost 75 = .ok (.iload_n 1, 1) := by decide +kernel
theorem d_ShakeHands_lost_76 : decode b_ShakeHands_lost 76 = .ok (.invokestatic 161, 3) := by decide +kernel
theorem d_ShakeHands_lost_79 : decode b_ShakeHands_lost 79 = .ok (.ifCond .ne 5, 3) := by decide +kernel
theorem d_ShakeHands_lost_82 : decode b_ShakeHands_lost 82 = .ok (.iload_n 2, 1) := by decide +kernel
theorem d_ShakeHands_lost_83 : decode b_ShakeHands_lost 83 = .ok (.ireturn, 1) := by decide +kernel
theorem d_ShakeHands_lost_84 : decode b_ShakeHands_lost 84 = .ok (.iinc 2 1, 3) := by decide +kernel
theorem d_ShakeHands_lost_87 : decode b_ShakeHands_lost 87 = .ok (.goto (-55), 3) := by decide +kernel
theorem d_ShakeHands_lost_90 : decode b_ShakeHands_lost 90 = .ok (.bipush (-4), 2) := by decide +kernel
theorem d_ShakeHands_lost_92 : decode b_ShakeHands_lost 92 = .ok (.ireturn, 1) := by decide +kernel
def X_ShakeHands_lost_L32 (n : Nat) (a1 : Int32) : Nat → Int32 → Mem → Option (Int32 × Mem)
    | 0, _, _ => none
    | m + 1, v2, M => (if (M.1 11 5) ≤ v2 then
    some ((-4), M)
    else
    gd v2 16 (
      bd (X_Circle_meet n 49 (M.1 16 1) (M.1 13 v2.toNatClampNeg) M) fun r7 M8 =>
      bd (X_Minds_knowers n 49 a1 M8) fun r9 M10 =>
      (if r9 = 0 then
        some (v2, M10)
        else
        X_ShakeHands_lost_L32 n a1 m (v2 + 1) M10)))
def X_ShakeHands_lost (n : Nat) (p1 : Int32) (M : Mem) : Option (Int32 × Mem) :=
  bd (X_ShakeHands_isThing n p1 M) fun r1 M2 =>
  (if r1 = 0 then
    some ((-1), M2)
    else
    bd (X_Minds_knowers n 17 p1 M2) fun r3 M4 =>
    (if r3 = 0 then
      some ((-2), M4)
      else
      bd (X_ShakeHands_takeTrial n M4) fun _ M6 =>
      X_ShakeHands_lost_L32 n p1 n 0 M6))
set_option maxRecDepth 20000 in
set_option maxHeartbeats 4000000 in
theorem X_ShakeHands_lost_L32_ok {n : Nat} {a1 : Int32} : ∀ (m : Nat) (v2 : Int32) (M : Mem), J (mt_ShakeHands_lost) wI 32 [(0, Value.ref 0), (1, Value.int a1), (2, Value.int v2)] [] M (X_ShakeHands_lost_L32 n a1 m v2 M) := by
  intro m
  induction m with
  | zero => intro _ _; exact j_none
  | succ m ih =>
    intro v2 M
    show J _ _ _ _ _ _ ((if (M.1 11 5) ≤ v2 then
some ((-4), M)
else
gd v2 16 (
bd (X_Circle_meet n 49 (M.1 16 1) (M.1 13 v2.toNatClampNeg) M) fun r7 M8 =>
bd (X_Minds_knowers n 49 a1 M8) fun r9 M10 =>
(if r9 = 0 then
some (v2, M10)
else
X_ShakeHands_lost_L32 n a1 m (v2 + 1) M10))))
    refine j_iload_n (pc := 32) (q := 2) d_ShakeHands_lost_32 rfl rfl ?_
    refine j_aload_n (pc := 33) (q := 0) d_ShakeHands_lost_33 rfl rfl ?_
    refine j_getA (pc := 34) d_ShakeHands_lost_34 fl_ShakeHands_28 sx_0 (by decide) rfl ?_
    refine j_getI (pc := 37) d_ShakeHands_lost_37 fl_ShakeHands_119 sx_11 (by decide) rfl ?_
    refine j_icmp_ge (pc := 40) (tgt := 90) d_ShakeHands_lost_40 (by decide) (fun _ => ?_) (fun _ => ?_)
    · refine j_bipush (pc := 90) d_ShakeHands_lost_90 k_b_m4 ?_
      exact j_ireturn (pc := 92) d_ShakeHands_lost_92 rfl
    · refine j_aload_n (pc := 43) (q := 0) d_ShakeHands_lost_43 rfl rfl ?_
      refine j_getA (pc := 44) d_ShakeHands_lost_44 fl_ShakeHands_28 sx_0 (by decide) rfl ?_
      refine j_aload_n (pc := 47) (q := 0) d_ShakeHands_lost_47 rfl rfl ?_
      refine j_getA (pc := 48) d_ShakeHands_lost_48 fl_ShakeHands_66 sx_0 (by decide) rfl ?_
      refine j_aload_n (pc := 51) (q := 0) d_ShakeHands_lost_51 rfl rfl ?_
      refine j_getA (pc := 52) d_ShakeHands_lost_52 fl_ShakeHands_35 sx_0 (by decide) rfl ?_
      refine j_getI (pc := 55) d_ShakeHands_lost_55 fl_ShakeHands_103 sx_16 (by decide) rfl ?_
      refine j_aload_n (pc := 58) (q := 0) d_ShakeHands_lost_58 rfl rfl ?_
      refine j_getA (pc := 59) d_ShakeHands_lost_59 fl_ShakeHands_28 sx_0 (by decide) rfl ?_
      refine j_getA (pc := 62) d_ShakeHands_lost_62 fl_ShakeHands_135 sx_11 (by decide) rfl ?_
      refine j_iload_n (pc := 65) (q := 2) d_ShakeHands_lost_65 rfl rfl ?_
      refine j_iald (pc := 66) d_ShakeHands_lost_66 sx_13 (fun _ => ?_)
      refine j_callV3 (pc := 67) d_ShakeHands_lost_67 (C_Circle_meet n 49 sx_49 (M.1 16 1) (M.1 13 v2.toNatClampNeg) M) cV_ShakeHands_183 cd_Circle_meet dn_Circle_meet rfl (by decide) (Nat.le_of_ble_eq_true rfl) (Nat.le_of_ble_eq_true rfl) nr_I sx_11 (by decide) rfl (fun r7 M8 => ?_)
      refine j_pop (pc := 70) d_ShakeHands_lost_70 rfl ?_
      refine j_aload_n (pc := 71) (q := 0) d_ShakeHands_lost_71 rfl rfl ?_
      refine j_getA (pc := 72) d_ShakeHands_lost_72 fl_ShakeHands_66 sx_0 (by decide) rfl ?_
      refine j_iload_n (pc := 75) (q := 1) d_ShakeHands_lost_75 rfl rfl ?_
      refine j_callS2 (pc := 76) d_ShakeHands_lost_76 (C_Minds_knowers n 49 sx_49 a1 M8) cS_ShakeHands_161 cd_Minds_knowers dn_Minds_knowers rfl (by decide) (Nat.le_of_ble_eq_true rfl) (Nat.le_of_ble_eq_true rfl) nr_I (fun r9 M10 => ?_)
      refine j_if_ne (pc := 79) (tgt := 84) d_ShakeHands_lost_79 (by decide) (fun _ => ?_) (fun _ => ?_)
      · refine j_iinc (pc := 84) (q := 2) d_ShakeHands_lost_84 rfl (congrArg (v2 + ·) k_i_1) (by decide) rfl ?_
        refine j_goto (pc := 87) (tgt := 32) d_ShakeHands_lost_87 (by decide) ?_
        refine j_lv [1, 2, 0] rfl ?_
        exact ih (v2 + 1) M10
      · refine j_iload_n (pc := 82) (q := 2) d_ShakeHands_lost_82 rfl rfl ?_
        exact j_ireturn (pc := 83) d_ShakeHands_lost_83 rfl
set_option maxRecDepth 20000 in
set_option maxHeartbeats 4000000 in
theorem C_ShakeHands_lost (n : Nat)   (p1 : Int32) (M : Mem) : Ct y_ShakeHands_lost mt_ShakeHands_lost wI [Value.ref 0, Value.int p1] M (X_ShakeHands_lost n p1 M) := by
  refine ct_of (by decide +kernel) rfl (Nat.le_of_ble_eq_true rfl) ?_
  show J _ _ _ [(0, Value.ref 0), (1, Value.int p1)] _ _ _
  unfold X_ShakeHands_lost
  refine j_iload_n (pc := 0) (q := 1) d_ShakeHands_lost_0 rfl rfl ?_
  refine j_callS1 (pc := 1) d_ShakeHands_lost_1 (C_ShakeHands_isThing n p1 M) cS_ShakeHands_158 cd_ShakeHands_isThing dn_ShakeHands_isThing rfl (by decide) (Nat.le_of_ble_eq_true rfl) (Nat.le_of_ble_eq_true rfl) nr_I (fun r1 M2 => ?_)
  refine j_if_ne (pc := 4) (tgt := 9) d_ShakeHands_lost_4 (by decide) (fun _ => ?_) (fun _ => ?_)
  · refine j_aload_n (pc := 9) (q := 0) d_ShakeHands_lost_9 rfl rfl ?_
    refine j_getA (pc := 10) d_ShakeHands_lost_10 fl_ShakeHands_35 sx_0 (by decide) rfl ?_
    refine j_getA (pc := 13) d_ShakeHands_lost_13 fl_ShakeHands_93 sx_16 (by decide) rfl ?_
    refine j_iload_n (pc := 16) (q := 1) d_ShakeHands_lost_16 rfl rfl ?_
    refine j_callS2 (pc := 17) d_ShakeHands_lost_17 (C_Minds_knowers n 17 sx_17 p1 M2) cS_ShakeHands_161 cd_Minds_knowers dn_Minds_knowers rfl (by decide) (Nat.le_of_ble_eq_true rfl) (Nat.le_of_ble_eq_true rfl) nr_I (fun r3 M4 => ?_)
    refine j_if_ne (pc := 20) (tgt := 26) d_ShakeHands_lost_20 (by decide) (fun _ => ?_) (fun _ => ?_)
    · refine j_aload_n (pc := 26) (q := 0) d_ShakeHands_lost_26 rfl rfl ?_
      refine j_callV0 (pc := 27) d_ShakeHands_lost_27 (C_ShakeHands_takeTrial n M4) cV_ShakeHands_198 cd_ShakeHands_takeTrial dn_ShakeHands_takeTrial rfl (by decide) (Nat.le_of_ble_eq_true rfl) (Nat.le_of_ble_eq_true rfl) nr_U sx_0 (by decide) rfl (fun r5 M6 => ?_)
      refine j_iconst (pc := 30) d_ShakeHands_lost_30 k_i_0 ?_
      refine j_istore_n (pc := 31) d_ShakeHands_lost_31 rfl (by decide) rfl ?_
      refine j_lv [1, 2, 0] rfl ?_
      exact X_ShakeHands_lost_L32_ok   n 0 M6
    · refine j_bipush (pc := 23) d_ShakeHands_lost_23 k_b_m2 ?_
      exact j_ireturn (pc := 25) d_ShakeHands_lost_25 rfl
  · refine j_iconst (pc := 7) d_ShakeHands_lost_7 k_i_m1 ?_
    exact j_ireturn (pc := 8) d_ShakeHands_lost_8 rfl
-- ShakeHands.told (II)I
def mt_ShakeHands_told : Mt := ("ShakeHands", b_ShakeHands_told, 4, some .int, 6, SHx)
theorem d_ShakeHands_told_0 : decode b_ShakeHands_told 0 = .ok (.aload_n 0, 1) := by decide +kernel
theorem d_ShakeHands_told_1 : decode b_ShakeHands_told 1 = .ok (.iload_n 1, 1) := by decide +kernel
theorem d_ShakeHands_told_2 : decode b_ShakeHands_told 2 = .ok (.invokevirtual 141, 3) := by decide +kernel
theorem d_ShakeHands_told_5 : decode b_ShakeHands_told 5 = .ok (.ifCond .eq 10, 3) := by decide +kernel
theorem d_ShakeHands_told_8 : decode b_ShakeHands_told 8 = .ok (.iload_n 2, 1) := by decide +kernel
theorem d_ShakeHands_told_9 : decode b_ShakeHands_told 9 = .ok (.invokestatic 158, 3) := by decide +kernel
theorem d_ShakeHands_told_12 : decode b_ShakeHands_told 12 = .ok (.ifCond .ne 5, 3) := by decide +kernel
theorem d_ShakeHands_told_15 : decode b_ShakeHands_told 15 = .ok (.iconst (-1), 1) := by decide +kernel
theorem d_ShakeHands_told_16 : decode b_ShakeHands_told 16 = .ok (.ireturn, 1) := by decide +kernel
theorem d_ShakeHands_told_17 : decode b_ShakeHands_told 17 = .ok (.aload_n 0, 1) := by decide +kernel
theorem d_ShakeHands_told_18 : decode b_ShakeHands_told 18 = .ok (.iload_n 1, 1) := by decide +kernel
theorem d_ShakeHands_told_19 : decode b_ShakeHands_told 19 = .ok (.iload_n 2, 1) := by decide +kernel
theorem d_ShakeHands_told_20 : decode b_ShakeHands_told 20 = .ok (.invokevirtual 165, 3) := by decide +kernel
theorem d_ShakeHands_told_23 : decode b_ShakeHands_told 23 = .ok (.ifCond .eq 6, 3) := by decide +kernel
theorem d_ShakeHands_told_26 : decode b_ShakeHands_told 26 = .ok (.bipush (-2), 2) := by decide +kernel
theorem d_ShakeHands_told_28 : decode b_ShakeHands_told 28 = .ok (.ireturn, 1) := by decide +kernel
theorem d_ShakeHands_told_29 : decode b_ShakeHands_told 29 = .ok (.aload_n 0, 1) := by decide +kernel
theorem d_ShakeHands_told_30 : decode b_ShakeHands_told 30 = .ok (.invokevirtual 198, 3) := by decide +kernel
theorem d_ShakeHands_told_33 : decode b_ShakeHands_told 33 = .ok (.iconst 0, 1) := by decide +kernel
theorem d_ShakeHands_told_34 : decode b_ShakeHands_told 34 = .ok (.istore_n 3, 1) := by decide +kernel
theorem d_ShakeHands_told_35 : decode b_ShakeHands_told 35 = .ok (.iload_n 3, 1) := by decide +kernel
theorem d_ShakeHands_told_36 : decode b_ShakeHands_told 36 = .ok (.aload_n 0, 1) := by decide +kernel
theorem d_ShakeHands_told_37 : decode b_ShakeHands_told 37 = .ok (.getfield 28, 3) := by decide +kernel
theorem d_ShakeHands_told_40 : decode b_ShakeHands_told 40 = .ok (.getfield 119, 3) := by decide +kernel
theorem d_ShakeHands_told_43 : decode b_ShakeHands_told 43 = .ok (.if_icmp .ge 52, 3) := by decide +kernel
theorem d_ShakeHands_told_46 : decode b_ShakeHands_told 46 = .ok (.aload_n 0, 1) := by decide +kernel
theorem d_ShakeHands_told_47 : decode b_ShakeHands_told 47 = .ok (.getfield 28, 3) := by decide +kernel
theorem d_ShakeHands_told_50 : decode b_ShakeHands_told 50 = .ok (.aload_n 0, 1) := by decide +kernel
theorem d_ShakeHands_told_51 : decode b_ShakeHands_told 51 = .ok (.getfield 66, 3) := by decide +kernel
theorem d_ShakeHands_told_54 : decode b_ShakeHands_told 54 = .ok (.aload_n 0, 1) := by decide +kernel
theorem d_ShakeHands_told_55 : decode b_ShakeHands_told 55 = .ok (.getfield 35, 3) := by decide +kernel
theorem d_ShakeHands_told_58 : decode b_ShakeHands_told 58 = .ok (.getfield 103, 3) := by decide +kernel
theorem d_ShakeHands_told_61 : decode b_ShakeHands_told 61 = .ok (.aload_n 0, 1) := by decide +kernel
theorem d_ShakeHands_told_62 : decode b_ShakeHands_told 62 = .ok (.getfield 28, 3) := by decide +kernel
theorem d_ShakeHands_told_65 : decode b_ShakeHands_told 65 = .ok (.getfield 135, 3) := by decide +kernel
theorem d_ShakeHands_told_68 : decode b_ShakeHands_told 68 = .ok (.iload_n 3, 1) := by decide +kernel
theorem d_ShakeHands_told_69 : decode b_ShakeHands_told 69 = .ok (.iaload, 1) := by decide +kernel
theorem d_ShakeHands_told_70 : decode b_ShakeHands_told 70 = .ok (.invokevirtual 183, 3) := by decide +kernel
theorem d_ShakeHands_told_73 : decode b_ShakeHands_told 73 = .ok (.pop, 1) := by decide +kernel
theorem d_ShakeHands_told_74 : decode b_ShakeHands_told 74 = .ok (.aload_n 0, 1) := by decide +kernel
theorem d_ShakeHands_told_75 : decode b_ShakeHands_told 75 = .ok (.getfield 66, 3) := by decide +kernel
theorem d_ShakeHands_told_78 : decode b_ShakeHands_told 78 = .ok (.iload_n 1, 1) := by decide +kernel
theorem d_ShakeHands_told_79 : decode b_ShakeHands_told 79 = .ok (.laload, 1) := by decide +kernel
theorem d_ShakeHands_told_80 : decode b_ShakeHands_told 80 = .ok (.iload_n 2, 1) := by decide +kernel
theorem d_ShakeHands_told_81 : decode b_ShakeHands_told 81 = .ok (.invokestatic 201, 3) := by decide +kernel
theorem d_ShakeHands_told_84 : decode b_ShakeHands_told 84 = .ok (.ifCond .eq 5, 3) := by decide +kernel
theorem d_ShakeHands_told_87 : decode b_ShakeHands_told 87 = .ok (.iload_n 3, 1) := by decide +kernel
theorem d_ShakeHands_told_88 : decode b_ShakeHands_told 88 = .ok (.ireturn, 1) := by decide +kernel
theorem d_ShakeHands_told_89 : decode b_ShakeHands_told 89 = .ok (.iinc 3 1, 3) := by decide +kernel
theorem d_ShakeHands_told_92 : decode b_ShakeHands_told 92 = .ok (.goto (-57), 3) := by decide +kernel
theorem d_ShakeHands_told_95 : decode b_ShakeHands_told 95 = .ok (.bipush (-4), 2) := by decide +kernel
theorem d_ShakeHands_told_97 : decode b_ShakeHands_told 97 = .ok (.ireturn, 1) := by decide +kernel
def X_ShakeHands_told_L35 (n : Nat) (a1 : Int32) (a2 : Int32) : Nat → Int32 → Mem → Option (Int32 × Mem)
    | 0, _, _ => none
    | m + 1, v3, M => (if (M.1 11 5) ≤ v3 then
    some ((-4), M)
    else
    gd v3 16 (
      bd (X_Circle_meet n 49 (M.1 16 1) (M.1 13 v3.toNatClampNeg) M) fun r9 M10 =>
      gd a1 6 (
        bd (X_Row_knowsIt n (M10.2 49 a1.toNatClampNeg) a2 M10) fun r11 M12 =>
        (if r11 = 0 then
          X_ShakeHands_told_L35 n a1 a2 m (v3 + 1) M12
          else
          some (v3, M12)))))
def X_ShakeHands_told (n : Nat) (p1 : Int32) (p2 : Int32) (M : Mem) : Option (Int32 × Mem) :=
  bd (X_ShakeHands_isOne n p1 M) fun r1 M2 =>
  (if r1 = 0 then
    some ((-1), M2)
    else
    bd (X_ShakeHands_isThing n p2 M2) fun r3 M4 =>
    (if r3 = 0 then
      some ((-1), M4)
      else
      bd (X_ShakeHands_knowsNow n p1 p2 M4) fun r5 M6 =>
      (if r5 = 0 then
        bd (X_ShakeHands_takeTrial n M6) fun _ M8 =>
        X_ShakeHands_told_L35 n p1 p2 n 0 M8
        else
        some ((-2), M6))))
set_option maxRecDepth 20000 in
set_option maxHeartbeats 4000000 in
theorem X_ShakeHands_told_L35_ok {n : Nat} {a1 : Int32} {a2 : Int32} : ∀ (m : Nat) (v3 : Int32) (M : Mem), J (mt_ShakeHands_told) wI 35 [(0, Value.ref 0), (1, Value.int a1), (2, Value.int a2), (3, Value.int v3)] [] M (X_ShakeHands_told_L35 n a1 a2 m v3 M) := by
  intro m
  induction m with
  | zero => intro _ _; exact j_none
  | succ m ih =>
    intro v3 M
    show J _ _ _ _ _ _ ((if (M.1 11 5) ≤ v3 then
some ((-4), M)
else
gd v3 16 (
bd (X_Circle_meet n 49 (M.1 16 1) (M.1 13 v3.toNatClampNeg) M) fun r9 M10 =>
gd a1 6 (
bd (X_Row_knowsIt n (M10.2 49 a1.toNatClampNeg) a2 M10) fun r11 M12 =>
(if r11 = 0 then
X_ShakeHands_told_L35 n a1 a2 m (v3 + 1) M12
else
some (v3, M12))))))
    refine j_iload_n (pc := 35) (q := 3) d_ShakeHands_told_35 rfl rfl ?_
    refine j_aload_n (pc := 36) (q := 0) d_ShakeHands_told_36 rfl rfl ?_
    refine j_getA (pc := 37) d_ShakeHands_told_37 fl_ShakeHands_28 sx_0 (by decide) rfl ?_
    refine j_getI (pc := 40) d_ShakeHands_told_40 fl_ShakeHands_119 sx_11 (by decide) rfl ?_
    refine j_icmp_ge (pc := 43) (tgt := 95) d_ShakeHands_told_43 (by decide) (fun _ => ?_) (fun _ => ?_)
    · refine j_bipush (pc := 95) d_ShakeHands_told_95 k_b_m4 ?_
      exact j_ireturn (pc := 97) d_ShakeHands_told_97 rfl
    · refine j_aload_n (pc := 46) (q := 0) d_ShakeHands_told_46 rfl rfl ?_
      refine j_getA (pc := 47) d_ShakeHands_told_47 fl_ShakeHands_28 sx_0 (by decide) rfl ?_
      refine j_aload_n (pc := 50) (q := 0) d_ShakeHands_told_50 rfl rfl ?_
      refine j_getA (pc := 51) d_ShakeHands_told_51 fl_ShakeHands_66 sx_0 (by decide) rfl ?_
      refine j_aload_n (pc := 54) (q := 0) d_ShakeHands_told_54 rfl rfl ?_
      refine j_getA (pc := 55) d_ShakeHands_told_55 fl_ShakeHands_35 sx_0 (by decide) rfl ?_
      refine j_getI (pc := 58) d_ShakeHands_told_58 fl_ShakeHands_103 sx_16 (by decide) rfl ?_
      refine j_aload_n (pc := 61) (q := 0) d_ShakeHands_told_61 rfl rfl ?_
      refine j_getA (pc := 62) d_ShakeHands_told_62 fl_ShakeHands_28 sx_0 (by decide) rfl ?_
      refine j_getA (pc := 65) d_ShakeHands_told_65 fl_ShakeHands_135 sx_11 (by decide) rfl ?_
      refine j_iload_n (pc := 68) (q := 3) d_ShakeHands_told_68 rfl rfl ?_
      refine j_iald (pc := 69) d_ShakeHands_told_69 sx_13 (fun _ => ?_)
      refine j_callV3 (pc := 70) d_ShakeHands_told_70 (C_Circle_meet n 49 sx_49 (M.1 16 1) (M.1 13 v3.toNatClampNeg) M) cV_ShakeHands_183 cd_Circle_meet dn_Circle_meet rfl (by decide) (Nat.le_of_ble_eq_true rfl) (Nat.le_of_ble_eq_true rfl) nr_I sx_11 (by decide) rfl (fun r9 M10 => ?_)
      refine j_pop (pc := 73) d_ShakeHands_told_73 rfl ?_
      refine j_aload_n (pc := 74) (q := 0) d_ShakeHands_told_74 rfl rfl ?_
      refine j_getA (pc := 75) d_ShakeHands_told_75 fl_ShakeHands_66 sx_0 (by decide) rfl ?_
      refine j_iload_n (pc := 78) (q := 1) d_ShakeHands_told_78 rfl rfl ?_
      refine j_lald (pc := 79) d_ShakeHands_told_79 sx_49 (fun _ => ?_)
      refine j_iload_n (pc := 80) (q := 2) d_ShakeHands_told_80 rfl rfl ?_
      refine j_callS2 (pc := 81) d_ShakeHands_told_81 (C_Row_knowsIt n (M10.2 49 a1.toNatClampNeg) a2 M10) cS_ShakeHands_201 cd_Row_knowsIt dn_Row_knowsIt rfl (by decide) (Nat.le_of_ble_eq_true rfl) (Nat.le_of_ble_eq_true rfl) nr_I (fun r11 M12 => ?_)
      refine j_if_eq (pc := 84) (tgt := 89) d_ShakeHands_told_84 (by decide) (fun _ => ?_) (fun _ => ?_)
      · refine j_iinc (pc := 89) (q := 3) d_ShakeHands_told_89 rfl (congrArg (v3 + ·) k_i_1) (by decide) rfl ?_
        refine j_goto (pc := 92) (tgt := 35) d_ShakeHands_told_92 (by decide) ?_
        refine j_lv [1, 2, 3, 0] rfl ?_
        exact ih (v3 + 1) M12
      · refine j_iload_n (pc := 87) (q := 3) d_ShakeHands_told_87 rfl rfl ?_
        exact j_ireturn (pc := 88) d_ShakeHands_told_88 rfl
set_option maxRecDepth 20000 in
set_option maxHeartbeats 4000000 in
theorem C_ShakeHands_told (n : Nat)   (p1 : Int32) (p2 : Int32) (M : Mem) : Ct y_ShakeHands_told mt_ShakeHands_told wI [Value.ref 0, Value.int p1, Value.int p2] M (X_ShakeHands_told n p1 p2 M) := by
  refine ct_of (by decide +kernel) rfl (Nat.le_of_ble_eq_true rfl) ?_
  show J _ _ _ [(0, Value.ref 0), (1, Value.int p1), (2, Value.int p2)] _ _ _
  unfold X_ShakeHands_told
  refine j_aload_n (pc := 0) (q := 0) d_ShakeHands_told_0 rfl rfl ?_
  refine j_iload_n (pc := 1) (q := 1) d_ShakeHands_told_1 rfl rfl ?_
  refine j_callV1 (pc := 2) d_ShakeHands_told_2 (C_ShakeHands_isOne n p1 M) cV_ShakeHands_141 cd_ShakeHands_isOne dn_ShakeHands_isOne rfl (by decide) (Nat.le_of_ble_eq_true rfl) (Nat.le_of_ble_eq_true rfl) nr_I sx_0 (by decide) rfl (fun r1 M2 => ?_)
  refine j_if_eq (pc := 5) (tgt := 15) d_ShakeHands_told_5 (by decide) (fun _ => ?_) (fun _ => ?_)
  · refine j_iconst (pc := 15) d_ShakeHands_told_15 k_i_m1 ?_
    exact j_ireturn (pc := 16) d_ShakeHands_told_16 rfl
  · refine j_iload_n (pc := 8) (q := 2) d_ShakeHands_told_8 rfl rfl ?_
    refine j_callS1 (pc := 9) d_ShakeHands_told_9 (C_ShakeHands_isThing n p2 M2) cS_ShakeHands_158 cd_ShakeHands_isThing dn_ShakeHands_isThing rfl (by decide) (Nat.le_of_ble_eq_true rfl) (Nat.le_of_ble_eq_true rfl) nr_I (fun r3 M4 => ?_)
    refine j_if_ne (pc := 12) (tgt := 17) d_ShakeHands_told_12 (by decide) (fun _ => ?_) (fun _ => ?_)
    · refine j_aload_n (pc := 17) (q := 0) d_ShakeHands_told_17 rfl rfl ?_
      refine j_iload_n (pc := 18) (q := 1) d_ShakeHands_told_18 rfl rfl ?_
      refine j_iload_n (pc := 19) (q := 2) d_ShakeHands_told_19 rfl rfl ?_
      refine j_callV2 (pc := 20) d_ShakeHands_told_20 (C_ShakeHands_knowsNow n p1 p2 M4) cV_ShakeHands_165 cd_ShakeHands_knowsNow dn_ShakeHands_knowsNow rfl (by decide) (Nat.le_of_ble_eq_true rfl) (Nat.le_of_ble_eq_true rfl) nr_I sx_0 (by decide) rfl (fun r5 M6 => ?_)
      refine j_if_eq (pc := 23) (tgt := 29) d_ShakeHands_told_23 (by decide) (fun _ => ?_) (fun _ => ?_)
      · refine j_aload_n (pc := 29) (q := 0) d_ShakeHands_told_29 rfl rfl ?_
        refine j_callV0 (pc := 30) d_ShakeHands_told_30 (C_ShakeHands_takeTrial n M6) cV_ShakeHands_198 cd_ShakeHands_takeTrial dn_ShakeHands_takeTrial rfl (by decide) (Nat.le_of_ble_eq_true rfl) (Nat.le_of_ble_eq_true rfl) nr_U sx_0 (by decide) rfl (fun r7 M8 => ?_)
        refine j_iconst (pc := 33) d_ShakeHands_told_33 k_i_0 ?_
        refine j_istore_n (pc := 34) d_ShakeHands_told_34 rfl (by decide) rfl ?_
        refine j_lv [1, 2, 3, 0] rfl ?_
        exact X_ShakeHands_told_L35_ok   n 0 M8
      · refine j_bipush (pc := 26) d_ShakeHands_told_26 k_b_m2 ?_
        exact j_ireturn (pc := 28) d_ShakeHands_told_28 rfl
    · refine j_iconst (pc := 15) d_ShakeHands_told_15 k_i_m1 ?_
      exact j_ireturn (pc := 16) d_ShakeHands_told_16 rfl
-- ShakeHands.everybody ()I
def mt_ShakeHands_everybody : Mt := ("ShakeHands", b_ShakeHands_everybody, 1, some .int, 2, SHx)
theorem d_ShakeHands_everybody_0 : decode b_ShakeHands_everybody 0 = .ok (.iconst 1, 1) := by decide +kernel
theorem d_ShakeHands_everybody_1 : decode b_ShakeHands_everybody 1 = .ok (.aload_n 0, 1) := by decide +kernel
theorem d_ShakeHands_everybody_2 : decode b_ShakeHands_everybody 2 = .ok (.getfield 28, 3) := by decide +kernel
theorem d_ShakeHands_everybody_5 : decode b_ShakeHands_everybody 5 = .ok (.getfield 110, 3) := by decide +kernel
theorem d_ShakeHands_everybody_8 : decode b_ShakeHands_everybody 8 = .ok (.ishl, 1) := by decide +kernel
theorem d_ShakeHands_everybody_9 : decode b_ShakeHands_everybody 9 = .ok (.iconst 1, 1) := by decide +kernel
theorem d_ShakeHands_everybody_10 : decode b_ShakeHands_everybody 10 = .ok (.isub, 1) := by decide +kernel
theorem d_ShakeHands_everybody_11 : decode b_ShakeHands_everybody 11 = .ok (.ireturn, 1) := by decide +kernel
def X_ShakeHands_everybody (n : Nat) (M : Mem) : Option (Int32 × Mem) :=
  some ((((1 : Int32) <<< ((M.1 11 0) &&& 31)) - 1), M)
set_option maxRecDepth 20000 in
set_option maxHeartbeats 4000000 in
theorem C_ShakeHands_everybody (n : Nat)    (M : Mem) : Ct y_ShakeHands_everybody mt_ShakeHands_everybody wI [Value.ref 0] M (X_ShakeHands_everybody n M) := by
  refine ct_of (by decide +kernel) rfl (Nat.le_of_ble_eq_true rfl) ?_
  show J _ _ _ [(0, Value.ref 0)] _ _ _
  unfold X_ShakeHands_everybody
  refine j_iconst (pc := 0) d_ShakeHands_everybody_0 k_i_1 ?_
  refine j_aload_n (pc := 1) (q := 0) d_ShakeHands_everybody_1 rfl rfl ?_
  refine j_getA (pc := 2) d_ShakeHands_everybody_2 fl_ShakeHands_28 sx_0 (by decide) rfl ?_
  refine j_getI (pc := 5) d_ShakeHands_everybody_5 fl_ShakeHands_110 sx_11 (by decide) rfl ?_
  refine j_ishl (pc := 8) d_ShakeHands_everybody_8 ?_
  refine j_iconst (pc := 9) d_ShakeHands_everybody_9 k_i_1 ?_
  refine j_isub (pc := 10) d_ShakeHands_everybody_10 ?_
  exact j_ireturn (pc := 11) d_ShakeHands_everybody_11 rfl
-- ShakeHands.arePeople (I)Z
def mt_ShakeHands_arePeople : Mt := ("ShakeHands", b_ShakeHands_arePeople, 2, some .boolean, 3, SHx)
theorem d_ShakeHands_arePeople_0 : decode b_ShakeHands_arePeople 0 = .ok (.iload_n 1, 1) := by decide +kernel
theorem d_ShakeHands_arePeople_1 : decode b_ShakeHands_arePeople 1 = .ok (.ifCond .lt 15, 3) := by decide +kernel
theorem d_ShakeHands_arePeople_4 : decode b_ShakeHands_arePeople 4 = .ok (.iload_n 1, 1) := by decide +kernel
theorem d_ShakeHands_arePeople_5 : decode b_ShakeHands_arePeople 5 = .ok (.aload_n 0, 1) := by decide +kernel
theorem d_ShakeHands_arePeople_6 : decode b_ShakeHands_arePeople 6 = .ok (.invokevirtual 224, 3) := by decide +kernel
theorem d_ShakeHands_arePeople_9 : decode b_ShakeHands_arePeople 9 = .ok (.if_icmp .gt 7, 3) := by decide +kernel
theorem d_ShakeHands_arePeople_12 : decode b_ShakeHands_arePeople 12 = .ok (.iconst 1, 1) := by decide +kernel
theorem d_ShakeHands_arePeople_13 : decode b_ShakeHands_arePeople 13 = .ok (.goto 4, 3) := by decide +kernel
theorem d_ShakeHands_arePeople_16 : decode b_ShakeHands_arePeople 16 = .ok (.iconst 0, 1) := by decide +kernel
theorem d_ShakeHands_arePeople_17 : decode b_ShakeHands_arePeople 17 = .ok (.ireturn, 1) := by decide +kernel
def X_ShakeHands_arePeople (n : Nat) (p1 : Int32) (M : Mem) : Option (Int32 × Mem) :=
  (if p1 < 0 then
    some (0, M)
    else
    bd (X_ShakeHands_everybody n M) fun r1 M2 =>
    (if r1 < p1 then
      some (0, M2)
      else
      some (1, M2)))
set_option maxRecDepth 20000 in
set_option maxHeartbeats 4000000 in
theorem C_ShakeHands_arePeople (n : Nat)   (p1 : Int32) (M : Mem) : Ct y_ShakeHands_arePeople mt_ShakeHands_arePeople wI [Value.ref 0, Value.int p1] M (X_ShakeHands_arePeople n p1 M) := by
  refine ct_of (by decide +kernel) rfl (Nat.le_of_ble_eq_true rfl) ?_
  show J _ _ _ [(0, Value.ref 0), (1, Value.int p1)] _ _ _
  unfold X_ShakeHands_arePeople
  refine j_iload_n (pc := 0) (q := 1) d_ShakeHands_arePeople_0 rfl rfl ?_
  refine j_if_lt (pc := 1) (tgt := 16) d_ShakeHands_arePeople_1 (by decide) (fun _ => ?_) (fun _ => ?_)
  · refine j_iconst (pc := 16) d_ShakeHands_arePeople_16 k_i_0 ?_
    exact j_zreturn (pc := 17) d_ShakeHands_arePeople_17 rfl rfl
  · refine j_iload_n (pc := 4) (q := 1) d_ShakeHands_arePeople_4 rfl rfl ?_
    refine j_aload_n (pc := 5) (q := 0) d_ShakeHands_arePeople_5 rfl rfl ?_
    refine j_callV0 (pc := 6) d_ShakeHands_arePeople_6 (C_ShakeHands_everybody n M) cV_ShakeHands_224 cd_ShakeHands_everybody dn_ShakeHands_everybody rfl (by decide) (Nat.le_of_ble_eq_true rfl) (Nat.le_of_ble_eq_true rfl) nr_I sx_0 (by decide) rfl (fun r1 M2 => ?_)
    refine j_icmp_gt (pc := 9) (tgt := 16) d_ShakeHands_arePeople_9 (by decide) (fun _ => ?_) (fun _ => ?_)
    · refine j_iconst (pc := 16) d_ShakeHands_arePeople_16 k_i_0 ?_
      exact j_zreturn (pc := 17) d_ShakeHands_arePeople_17 rfl rfl
    · refine j_iconst (pc := 12) d_ShakeHands_arePeople_12 k_i_1 ?_
      refine j_goto (pc := 13) (tgt := 17) d_ShakeHands_arePeople_13 (by decide) ?_
      exact j_zreturn (pc := 17) d_ShakeHands_arePeople_17 rfl rfl
-- ShakeHands.fewest (IIII)I
def mt_ShakeHands_fewest : Mt := ("ShakeHands", b_ShakeHands_fewest, 7, some .int, 21, SHx)
theorem d_ShakeHands_fewest_0 : decode b_ShakeHands_fewest 0 = .ok (.iload 4, 2) := by decide +kernel
theorem d_ShakeHands_fewest_2 : decode b_ShakeHands_fewest 2 = .ok (.bipush 10, 2) := by decide +kernel
theorem d_ShakeHands_fewest_4 : decode b_ShakeHands_fewest 4 = .ok (.if_icmp .lt 14, 3) := by decide +kernel
theorem d_ShakeHands_fewest_7 : decode b_ShakeHands_fewest 7 = .ok (.iload 4, 2) := by decide +kernel
theorem d_ShakeHands_fewest_9 : decode b_ShakeHands_fewest 9 = .ok (.bipush 14, 2) := by decide +kernel
theorem d_ShakeHands_fewest_11 : decode b_ShakeHands_fewest 11 = .ok (.if_icmp .ge 7, 3) := by decide +kernel
theorem d_ShakeHands_fewest_14 : decode b_ShakeHands_fewest 14 = .ok (.iconst 1, 1) := by decide +kernel
theorem d_ShakeHands_fewest_15 : decode b_ShakeHands_fewest 15 = .ok (.goto 4, 3) := by decide +kernel
theorem d_ShakeHands_fewest_18 : decode b_ShakeHands_fewest 18 = .ok (.iconst 0, 1) := by decide +kernel
theorem d_ShakeHands_fewest_19 : decode b_ShakeHands_fewest 19 = .ok (.istore 5, 2) := by decide +kernel
theorem d_ShakeHands_fewest_21 : decode b_ShakeHands_fewest 21 = .ok (.iload_n 1, 1) := by decide +kernel
theorem d_ShakeHands_fewest_22 : decode b_ShakeHands_fewest 22 = .ok (.invokestatic 158, 3) := by decide +kernel
theorem d_ShakeHands_fewest_25 : decode b_ShakeHands_fewest 25 = .ok (.ifCond .eq 29, 3) := by decide +kernel
theorem d_ShakeHands_fewest_28 : decode b_ShakeHands_fewest 28 = .ok (.aload_n 0, 1) := by decide +kernel
theorem d_ShakeHands_fewest_29 : decode b_ShakeHands_fewest 29 = .ok (.iload_n 2, 1) := by decide +kernel
theorem d_ShakeHands_fewest_30 : decode b_ShakeHands_fewest 30 = .ok (.invokevirtual 205, 3) := by decide +kernel
theorem d_ShakeHands_fewest_33 : decode b_ShakeHands_fewest 33 = .ok (.ifCond .eq 21, 3) := by decide +kernel
theorem d_ShakeHands_fewest_36 : decode b_ShakeHands_fewest 36 = .ok (.aload_n 0, 1) := by decide +kernel
theorem d_ShakeHands_fewest_37 : decode b_ShakeHands_fewest 37 = .ok (.iload_n 3, 1) := by decide +kernel
theorem d_ShakeHands_fewest_38 : decode b_ShakeHands_fewest 38 = .ok (.invokevirtual 205, 3) := by decide +kernel
theorem d_ShakeHands_fewest_41 : decode b_ShakeHands_fewest 41 = .ok (.ifCond .eq 13, 3) := by decide +kernel
theorem d_ShakeHands_fewest_44 : decode b_ShakeHands_fewest 44 = .ok (.iload 4, 2) := by decide +kernel
theorem d_ShakeHands_fewest_46 : decode b_ShakeHands_fewest 46 = .ok (.ifCond .eq 10, 3) := by decide +kernel
theorem d_ShakeHands_fewest_49 : decode b_ShakeHands_fewest 49 = .ok (.iload 5, 2) := by decide +kernel
theorem d_ShakeHands_fewest_51 : decode b_ShakeHands_fewest 51 = .ok (.ifCond .ne 5, 3) := by decide +kernel
theorem d_ShakeHands_fewest_54 : decode b_ShakeHands_fewest 54 = .ok (.iconst (-1), 1) := by decide +kernel
theorem d_ShakeHands_fewest_55 : decode b_ShakeHands_fewest 55 = .ok (.ireturn, 1) := by decide +kernel
theorem d_ShakeHands_fewest_56 : decode b_ShakeHands_fewest 56 = .ok (.aload_n 0, 1) := by decide +kernel
theorem d_ShakeHands_fewest_57 : decode b_ShakeHands_fewest 57 = .ok (.getfield 48, 3) := by decide +kernel
theorem d_ShakeHands_fewest_60 : decode b_ShakeHands_fewest 60 = .ok (.invokevirtual 208, 3) := by decide +kernel
theorem d_ShakeHands_fewest_63 : decode b_ShakeHands_fewest 63 = .ok (.aload_n 0, 1) := by decide +kernel
theorem d_ShakeHands_fewest_64 : decode b_ShakeHands_fewest 64 = .ok (.getfield 48, 3) := by decide +kernel
theorem d_ShakeHands_fewest_67 : decode b_ShakeHands_fewest 67 = .ok (.iload_n 1, 1) := by decide +kernel
theorem d_ShakeHands_fewest_68 : decode b_ShakeHands_fewest 68 = .ok (.iload_n 2, 1) := by decide +kernel
theorem d_ShakeHands_fewest_69 : decode b_ShakeHands_fewest 69 = .ok (.iconst 0, 1) := by decide +kernel
theorem d_ShakeHands_fewest_70 : decode b_ShakeHands_fewest 70 = .ok (.iload_n 3, 1) := by decide +kernel
theorem d_ShakeHands_fewest_71 : decode b_ShakeHands_fewest 71 = .ok (.invokevirtual 211, 3) := by decide +kernel
theorem d_ShakeHands_fewest_74 : decode b_ShakeHands_fewest 74 = .ok (.aload_n 0, 1) := by decide +kernel
theorem d_ShakeHands_fewest_75 : decode b_ShakeHands_fewest 75 = .ok (.getfield 48, 3) := by decide +kernel
theorem d_ShakeHands_fewest_78 : decode b_ShakeHands_fewest 78 = .ok (.invokevirtual 215, 3) := by decide +kernel
theorem d_ShakeHands_fewest_81 : decode b_ShakeHands_fewest 81 = .ok (.istore 6, 2) := by decide +kernel
theorem d_ShakeHands_fewest_83 : decode b_ShakeHands_fewest 83 = .ok (.iload 5, 2) := by decide +kernel
theorem d_ShakeHands_fewest_85 : decode b_ShakeHands_fewest 85 = .ok (.ifCond .eq 10, 3) := by decide +kernel
theorem d_ShakeHands_fewest_88 : decode b_ShakeHands_fewest 88 = .ok (.iload 6, 2) := by decide +kernel
theorem d_ShakeHands_fewest_90 : decode b_ShakeHands_fewest 90 = .ok (.bipush (-4), 2) := by decide +kernel
theorem d_ShakeHands_fewest_92 : decode b_ShakeHands_fewest 92 = .ok (.if_icmp .ne 6, 3) := by decide +kernel
theorem d_ShakeHands_fewest_95 : decode b_ShakeHands_fewest 95 = .ok (.iload 6, 2) := by decide +kernel
theorem d_ShakeHands_fewest_97 : decode b_ShakeHands_fewest 97 = .ok (.ireturn, 1) := by decide +kernel
theorem d_ShakeHands_fewest_98 : decode b_ShakeHands_fewest 98 = .ok (.iload 4, 2) := by decide +kernel
theorem d_ShakeHands_fewest_100 : decode b_ShakeHands_fewest 100 = .ok (.bipush 10, 2) := by decide +kernel
theorem d_ShakeHands_fewest_102 : decode b_ShakeHands_fewest 102 = .ok (.isub, 1) := by decide +kernel
theorem d_ShakeHands_fewest_103 : decode b_ShakeHands_fewest 103 = .ok (.iload 6, 2) := by decide +kernel
theorem d_ShakeHands_fewest_105 : decode b_ShakeHands_fewest 105 = .ok (.if_icmp .ge 19, 3) := by decide +kernel
theorem d_ShakeHands_fewest_108 : decode b_ShakeHands_fewest 108 = .ok (.aload_n 0, 1) := by decide +kernel
theorem d_ShakeHands_fewest_109 : decode b_ShakeHands_fewest 109 = .ok (.getfield 48, 3) := by decide +kernel
theorem d_ShakeHands_fewest_112 : decode b_ShakeHands_fewest 112 = .ok (.getfield 218, 3) := by decide +kernel
theorem d_ShakeHands_fewest_115 : decode b_ShakeHands_fewest 115 = .ok (.iload 4, 2) := by decide +kernel
theorem d_ShakeHands_fewest_117 : decode b_ShakeHands_fewest 117 = .ok (.bipush 10, 2) := by decide +kernel
theorem d_ShakeHands_fewest_119 : decode b_ShakeHands_fewest 119 = .ok (.isub, 1) := by decide +kernel
theorem d_ShakeHands_fewest_120 : decode b_ShakeHands_fewest 120 = .ok (.iaload, 1) := by decide +kernel
theorem d_ShakeHands_fewest_121 : decode b_ShakeHands_fewest 121 = .ok (.goto 5, 3) := by decide +kernel
theorem d_ShakeHands_fewest_124 : decode b_ShakeHands_fewest 124 = .ok (.bipush (-4), 2) := by decide +kernel
theorem d_ShakeHands_fewest_126 : decode b_ShakeHands_fewest 126 = .ok (.ireturn, 1) := by decide +kernel
def X_ShakeHands_fewest (n : Nat) (p1 : Int32) (p2 : Int32) (p3 : Int32) (p4 : Int32) (M : Mem) : Option (Int32 × Mem) :=
  nm (fun (u1 : Int32) => (bd (X_ShakeHands_isThing n p1 M) fun r2 M3 =>
      (if r2 = 0 then
        some ((-1), M3)
        else
        bd (X_ShakeHands_arePeople n p2 M3) fun r4 M5 =>
        (if r4 = 0 then
          some ((-1), M5)
          else
          bd (X_ShakeHands_arePeople n p3 M5) fun r6 M7 =>
          (if r6 = 0 then
            some ((-1), M7)
            else
            nm (bd (X_Search_begin n M7) fun _ M9 =>
              bd (X_Search_aim n p1 p2 0 p3 M9) fun _ M11 =>
              bd (X_Search_fewestHands n M11) fun r12 M13 =>
              (if u1 = 0 then
                some (r12, M13)
                else
                (if r12 = (-4) then
                  some (r12, M13)
                  else
                  (if r12 ≤ (p4 - 10) then
                    some ((-4), M13)
                    else
                    gd (p4 - 10) 6 (
                      some ((M13.1 27 (p4 - 10).toNatClampNeg), M13))))) : Option (Int32 × Mem)) fun k56 =>
            (if p4 = 0 then
              k56
              else
              (if u1 = 0 then
                some ((-1), M7)
                else
                k56))))) : Option (Int32 × Mem))) fun k19 =>
  (if p4 < 10 then
    k19 0
    else
    (if 14 ≤ p4 then
      k19 0
      else
      k19 1))
set_option maxRecDepth 20000 in
set_option maxHeartbeats 4000000 in
theorem C_ShakeHands_fewest (n : Nat)   (p1 : Int32) (p2 : Int32) (p3 : Int32) (p4 : Int32) (M : Mem) : Ct y_ShakeHands_fewest mt_ShakeHands_fewest wI [Value.ref 0, Value.int p1, Value.int p2, Value.int p3, Value.int p4] M (X_ShakeHands_fewest n p1 p2 p3 p4 M) := by
  refine ct_of (by decide +kernel) rfl (Nat.le_of_ble_eq_true rfl) ?_
  show J _ _ _ [(0, Value.ref 0), (1, Value.int p1), (2, Value.int p2), (3, Value.int p3), (4, Value.int p4)] _ _ _
  unfold X_ShakeHands_fewest
  refine j_iload (pc := 0) (q := 4) d_ShakeHands_fewest_0 rfl ?_
  refine j_bipush (pc := 2) d_ShakeHands_fewest_2 k_b_10 ?_
  refine j_nmk (fun k => ∀ (u1 : Int32), J (mt_ShakeHands_fewest) wI 19 [(0, Value.ref 0), (1, Value.int p1), (2, Value.int p2), (3, Value.int p3), (4, Value.int p4)] [Value.int u1] M (k u1)) (fun u1 => ?_) (fun k19 hk19 => ?_)
  · refine j_istore (pc := 19) d_ShakeHands_fewest_19 (by decide) rfl ?_
    refine j_iload_n (pc := 21) (q := 2) d_ShakeHands_fewest_21 rfl rfl ?_
    refine j_callS1 (pc := 22) d_ShakeHands_fewest_22 (C_ShakeHands_isThing n p1 M) cS_ShakeHands_158 cd_ShakeHands_isThing dn_ShakeHands_isThing rfl (by decide) (Nat.le_of_ble_eq_true rfl) (Nat.le_of_ble_eq_true rfl) nr_I (fun r2 M3 => ?_)
    refine j_if_eq (pc := 25) (tgt := 54) d_ShakeHands_fewest_25 (by decide) (fun _ => ?_) (fun _ => ?_)
    · refine j_iconst (pc := 54) d_ShakeHands_fewest_54 k_i_m1 ?_
      exact j_ireturn (pc := 55) d_ShakeHands_fewest_55 rfl
    · refine j_aload_n (pc := 28) (q := 1) d_ShakeHands_fewest_28 rfl rfl ?_
      refine j_iload_n (pc := 29) (q := 3) d_ShakeHands_fewest_29 rfl rfl ?_
      refine j_callV1 (pc := 30) d_ShakeHands_fewest_30 (C_ShakeHands_arePeople n p2 M3) cV_ShakeHands_205 cd_ShakeHands_arePeople dn_ShakeHands_arePeople rfl (by decide) (Nat.le_of_ble_eq_true rfl) (Nat.le_of_ble_eq_true rfl) nr_I sx_0 (by decide) rfl (fun r4 M5 => ?_)
      refine j_if_eq (pc := 33) (tgt := 54) d_ShakeHands_fewest_33 (by decide) (fun _ => ?_) (fun _ => ?_)
      · refine j_iconst (pc := 54) d_ShakeHands_fewest_54 k_i_m1 ?_
        exact j_ireturn (pc := 55) d_ShakeHands_fewest_55 rfl
      · refine j_aload_n (pc := 36) (q := 1) d_ShakeHands_fewest_36 rfl rfl ?_
        refine j_iload_n (pc := 37) (q := 4) d_ShakeHands_fewest_37 rfl rfl ?_
        refine j_callV1 (pc := 38) d_ShakeHands_fewest_38 (C_ShakeHands_arePeople n p3 M5) cV_ShakeHands_205 cd_ShakeHands_arePeople dn_ShakeHands_arePeople rfl (by decide) (Nat.le_of_ble_eq_true rfl) (Nat.le_of_ble_eq_true rfl) nr_I sx_0 (by decide) rfl (fun r6 M7 => ?_)
        refine j_if_eq (pc := 41) (tgt := 54) d_ShakeHands_fewest_41 (by decide) (fun _ => ?_) (fun _ => ?_)
        · refine j_iconst (pc := 54) d_ShakeHands_fewest_54 k_i_m1 ?_
          exact j_ireturn (pc := 55) d_ShakeHands_fewest_55 rfl
        · refine j_iload (pc := 44) (q := 5) d_ShakeHands_fewest_44 rfl ?_
          refine j_nmk (fun k => J (mt_ShakeHands_fewest) wI 56 [(0, Value.ref 0), (1, Value.int p1), (2, Value.int p2), (3, Value.int p3), (4, Value.int p4), (5, Value.int u1)] [] M7 k) (?_) (fun k56 hk56 => ?_)
          · refine j_aload_n (pc := 56) (q := 0) d_ShakeHands_fewest_56 rfl rfl ?_
            refine j_getA (pc := 57) d_ShakeHands_fewest_57 fl_ShakeHands_48 sx_0 (by decide) rfl ?_
            refine j_callV0 (pc := 60) d_ShakeHands_fewest_60 (C_Search_begin n M7) cV_ShakeHands_208 cd_Search_begin dn_Search_begin rfl (by decide) (Nat.le_of_ble_eq_true rfl) (Nat.le_of_ble_eq_true rfl) nr_U sx_26 (by decide) rfl (fun r8 M9 => ?_)
            refine j_aload_n (pc := 63) (q := 0) d_ShakeHands_fewest_63 rfl rfl ?_
            refine j_getA (pc := 64) d_ShakeHands_fewest_64 fl_ShakeHands_48 sx_0 (by decide) rfl ?_
            refine j_iload_n (pc := 67) (q := 1) d_ShakeHands_fewest_67 rfl rfl ?_
            refine j_iload_n (pc := 68) (q := 2) d_ShakeHands_fewest_68 rfl rfl ?_
            refine j_iconst (pc := 69) d_ShakeHands_fewest_69 k_i_0 ?_
            refine j_iload_n (pc := 70) (q := 3) d_ShakeHands_fewest_70 rfl rfl ?_
            refine j_callV4 (pc := 71) d_ShakeHands_fewest_71 (C_Search_aim n p1 p2 0 p3 M9) cV_ShakeHands_211 cd_Search_aim dn_Search_aim rfl (by decide) (Nat.le_of_ble_eq_true rfl) (Nat.le_of_ble_eq_true rfl) nr_U sx_26 (by decide) rfl (fun r10 M11 => ?_)
            refine j_aload_n (pc := 74) (q := 0) d_ShakeHands_fewest_74 rfl rfl ?_
            refine j_getA (pc := 75) d_ShakeHands_fewest_75 fl_ShakeHands_48 sx_0 (by decide) rfl ?_
            refine j_callV0 (pc := 78) d_ShakeHands_fewest_78 (C_Search_fewestHands n M11) cV_ShakeHands_215 cd_Search_fewestHands dn_Search_fewestHands rfl (by decide) (Nat.le_of_ble_eq_true rfl) (Nat.le_of_ble_eq_true rfl) nr_I sx_26 (by decide) rfl (fun r12 M13 => ?_)
            refine j_istore (pc := 81) d_ShakeHands_fewest_81 (by decide) rfl ?_
            refine j_iload (pc := 83) (q := 6) d_ShakeHands_fewest_83 rfl ?_
            refine j_if_eq (pc := 85) (tgt := 95) d_ShakeHands_fewest_85 (by decide) (fun _ => ?_) (fun _ => ?_)
            · refine j_iload (pc := 95) (q := 0) d_ShakeHands_fewest_95 rfl ?_
              exact j_ireturn (pc := 97) d_ShakeHands_fewest_97 rfl
            · refine j_iload (pc := 88) (q := 0) d_ShakeHands_fewest_88 rfl ?_
              refine j_bipush (pc := 90) d_ShakeHands_fewest_90 k_b_m4 ?_
              refine j_icmp_ne (pc := 92) (tgt := 98) d_ShakeHands_fewest_92 (by decide) (fun _ => ?_) (fun _ => ?_)
              · refine j_iload (pc := 98) (q := 5) d_ShakeHands_fewest_98 rfl ?_
                refine j_bipush (pc := 100) d_ShakeHands_fewest_100 k_b_10 ?_
                refine j_isub (pc := 102) d_ShakeHands_fewest_102 ?_
                refine j_iload (pc := 103) (q := 0) d_ShakeHands_fewest_103 rfl ?_
                refine j_icmp_ge (pc := 105) (tgt := 124) d_ShakeHands_fewest_105 (by decide) (fun _ => ?_) (fun _ => ?_)
                · refine j_bipush (pc := 124) d_ShakeHands_fewest_124 k_b_m4 ?_
                  exact j_ireturn (pc := 126) d_ShakeHands_fewest_126 rfl
                · refine j_aload_n (pc := 108) (q := 1) d_ShakeHands_fewest_108 rfl rfl ?_
                  refine j_getA (pc := 109) d_ShakeHands_fewest_109 fl_ShakeHands_48 sx_0 (by decide) rfl ?_
                  refine j_getA (pc := 112) d_ShakeHands_fewest_112 fl_ShakeHands_218 sx_26 (by decide) rfl ?_
                  refine j_iload (pc := 115) (q := 5) d_ShakeHands_fewest_115 rfl ?_
                  refine j_bipush (pc := 117) d_ShakeHands_fewest_117 k_b_10 ?_
                  refine j_isub (pc := 119) d_ShakeHands_fewest_119 ?_
                  refine j_iald (pc := 120) d_ShakeHands_fewest_120 sx_27 (fun _ => ?_)
                  refine j_goto (pc := 121) (tgt := 126) d_ShakeHands_fewest_121 (by decide) ?_
                  exact j_ireturn (pc := 126) d_ShakeHands_fewest_126 rfl
              · refine j_iload (pc := 95) (q := 0) d_ShakeHands_fewest_95 rfl ?_
                exact j_ireturn (pc := 97) d_ShakeHands_fewest_97 rfl
          · refine j_if_eq (pc := 46) (tgt := 56) d_ShakeHands_fewest_46 (by decide) (fun _ => ?_) (fun _ => ?_)
            · refine j_lv [1, 2, 3, 4, 5, 0] rfl ?_
              exact hk56
            · refine j_iload (pc := 49) (q := 0) d_ShakeHands_fewest_49 rfl ?_
              refine j_if_ne (pc := 51) (tgt := 56) d_ShakeHands_fewest_51 (by decide) (fun _ => ?_) (fun _ => ?_)
              · refine j_lv [1, 2, 3, 4, 5, 0] rfl ?_
                exact hk56
              · refine j_iconst (pc := 54) d_ShakeHands_fewest_54 k_i_m1 ?_
                exact j_ireturn (pc := 55) d_ShakeHands_fewest_55 rfl
  · refine j_icmp_lt (pc := 4) (tgt := 18) d_ShakeHands_fewest_4 (by decide) (fun _ => ?_) (fun _ => ?_)
    · refine j_iconst (pc := 18) d_ShakeHands_fewest_18 k_i_0 ?_
      exact hk19 0
    · refine j_iload (pc := 7) (q := 4) d_ShakeHands_fewest_7 rfl ?_
      refine j_bipush (pc := 9) d_ShakeHands_fewest_9 k_b_14 ?_
      refine j_icmp_ge (pc := 11) (tgt := 18) d_ShakeHands_fewest_11 (by decide) (fun _ => ?_) (fun _ => ?_)
      · refine j_iconst (pc := 18) d_ShakeHands_fewest_18 k_i_0 ?_
        exact hk19 0
      · refine j_iconst (pc := 14) d_ShakeHands_fewest_14 k_i_1 ?_
        refine j_goto (pc := 15) (tgt := 19) d_ShakeHands_fewest_15 (by decide) ?_
        exact hk19 1
-- ShakeHands.rounds (III)I
def mt_ShakeHands_rounds : Mt := ("ShakeHands", b_ShakeHands_rounds, 4, some .int, 21, SHx)
theorem d_ShakeHands_rounds_0 : decode b_ShakeHands_rounds 0 = .ok (.iload_n 1, 1) := by decide +kernel
theorem d_ShakeHands_rounds_1 : decode b_ShakeHands_rounds 1 = .ok (.invokestatic 158, 3) := by decide +kernel
theorem d_ShakeHands_rounds_4 : decode b_ShakeHands_rounds 4 = .ok (.ifCond .eq 19, 3) := by decide +kernel
theorem d_ShakeHands_rounds_7 : decode b_ShakeHands_rounds 7 = .ok (.aload_n 0, 1) := by decide +kernel
theorem d_ShakeHands_rounds_8 : decode b_ShakeHands_rounds 8 = .ok (.iload_n 2, 1) := by decide +kernel
theorem d_ShakeHands_rounds_9 : decode b_ShakeHands_rounds 9 = .ok (.invokevirtual 205, 3) := by decide +kernel
theorem d_ShakeHands_rounds_12 : decode b_ShakeHands_rounds 12 = .ok (.ifCond .eq 11, 3) := by decide +kernel
theorem d_ShakeHands_rounds_15 : decode b_ShakeHands_rounds 15 = .ok (.aload_n 0, 1) := by decide +kernel
theorem d_ShakeHands_rounds_16 : decode b_ShakeHands_rounds 16 = .ok (.iload_n 3, 1) := by decide +kernel
theorem d_ShakeHands_rounds_17 : decode b_ShakeHands_rounds 17 = .ok (.invokevirtual 205, 3) := by decide +kernel
theorem d_ShakeHands_rounds_20 : decode b_ShakeHands_rounds 20 = .ok (.ifCond .ne 5, 3) := by decide +kernel
theorem d_ShakeHands_rounds_23 : decode b_ShakeHands_rounds 23 = .ok (.iconst (-1), 1) := by decide +kernel
theorem d_ShakeHands_rounds_24 : decode b_ShakeHands_rounds 24 = .ok (.ireturn, 1) := by decide +kernel
theorem d_ShakeHands_rounds_25 : decode b_ShakeHands_rounds 25 = .ok (.aload_n 0, 1) := by decide +kernel
theorem d_ShakeHands_rounds_26 : decode b_ShakeHands_rounds 26 = .ok (.getfield 48, 3) := by decide +kernel
theorem d_ShakeHands_rounds_29 : decode b_ShakeHands_rounds 29 = .ok (.invokevirtual 208, 3) := by decide +kernel
theorem d_ShakeHands_rounds_32 : decode b_ShakeHands_rounds 32 = .ok (.aload_n 0, 1) := by decide +kernel
theorem d_ShakeHands_rounds_33 : decode b_ShakeHands_rounds 33 = .ok (.getfield 48, 3) := by decide +kernel
theorem d_ShakeHands_rounds_36 : decode b_ShakeHands_rounds 36 = .ok (.iload_n 1, 1) := by decide +kernel
theorem d_ShakeHands_rounds_37 : decode b_ShakeHands_rounds 37 = .ok (.iload_n 2, 1) := by decide +kernel
theorem d_ShakeHands_rounds_38 : decode b_ShakeHands_rounds 38 = .ok (.iconst 0, 1) := by decide +kernel
theorem d_ShakeHands_rounds_39 : decode b_ShakeHands_rounds 39 = .ok (.iload_n 3, 1) := by decide +kernel
theorem d_ShakeHands_rounds_40 : decode b_ShakeHands_rounds 40 = .ok (.invokevirtual 211, 3) := by decide +kernel
theorem d_ShakeHands_rounds_43 : decode b_ShakeHands_rounds 43 = .ok (.aload_n 0, 1) := by decide +kernel
theorem d_ShakeHands_rounds_44 : decode b_ShakeHands_rounds 44 = .ok (.getfield 48, 3) := by decide +kernel
theorem d_ShakeHands_rounds_47 : decode b_ShakeHands_rounds 47 = .ok (.invokevirtual 221, 3) := by decide +kernel
theorem d_ShakeHands_rounds_50 : decode b_ShakeHands_rounds 50 = .ok (.ireturn, 1) := by decide +kernel
def X_ShakeHands_rounds (n : Nat) (p1 : Int32) (p2 : Int32) (p3 : Int32) (M : Mem) : Option (Int32 × Mem) :=
  bd (X_ShakeHands_isThing n p1 M) fun r1 M2 =>
  (if r1 = 0 then
    some ((-1), M2)
    else
    bd (X_ShakeHands_arePeople n p2 M2) fun r3 M4 =>
    (if r3 = 0 then
      some ((-1), M4)
      else
      bd (X_ShakeHands_arePeople n p3 M4) fun r5 M6 =>
      (if r5 = 0 then
        some ((-1), M6)
        else
        bd (X_Search_begin n M6) fun _ M8 =>
        bd (X_Search_aim n p1 p2 0 p3 M8) fun _ M10 =>
        bd (X_Search_fewestRounds n M10) fun r11 M12 =>
        some (r11, M12))))
set_option maxRecDepth 20000 in
set_option maxHeartbeats 4000000 in
theorem C_ShakeHands_rounds (n : Nat)   (p1 : Int32) (p2 : Int32) (p3 : Int32) (M : Mem) : Ct y_ShakeHands_rounds mt_ShakeHands_rounds wI [Value.ref 0, Value.int p1, Value.int p2, Value.int p3] M (X_ShakeHands_rounds n p1 p2 p3 M) := by
  refine ct_of (by decide +kernel) rfl (Nat.le_of_ble_eq_true rfl) ?_
  show J _ _ _ [(0, Value.ref 0), (1, Value.int p1), (2, Value.int p2), (3, Value.int p3)] _ _ _
  unfold X_ShakeHands_rounds
  refine j_iload_n (pc := 0) (q := 1) d_ShakeHands_rounds_0 rfl rfl ?_
  refine j_callS1 (pc := 1) d_ShakeHands_rounds_1 (C_ShakeHands_isThing n p1 M) cS_ShakeHands_158 cd_ShakeHands_isThing dn_ShakeHands_isThing rfl (by decide) (Nat.le_of_ble_eq_true rfl) (Nat.le_of_ble_eq_true rfl) nr_I (fun r1 M2 => ?_)
  refine j_if_eq (pc := 4) (tgt := 23) d_ShakeHands_rounds_4 (by decide) (fun _ => ?_) (fun _ => ?_)
  · refine j_iconst (pc := 23) d_ShakeHands_rounds_23 k_i_m1 ?_
    exact j_ireturn (pc := 24) d_ShakeHands_rounds_24 rfl
  · refine j_aload_n (pc := 7) (q := 0) d_ShakeHands_rounds_7 rfl rfl ?_
    refine j_iload_n (pc := 8) (q := 2) d_ShakeHands_rounds_8 rfl rfl ?_
    refine j_callV1 (pc := 9) d_ShakeHands_rounds_9 (C_ShakeHands_arePeople n p2 M2) cV_ShakeHands_205 cd_ShakeHands_arePeople dn_ShakeHands_arePeople rfl (by decide) (Nat.le_of_ble_eq_true rfl) (Nat.le_of_ble_eq_true rfl) nr_I sx_0 (by decide) rfl (fun r3 M4 => ?_)
    refine j_if_eq (pc := 12) (tgt := 23) d_ShakeHands_rounds_12 (by decide) (fun _ => ?_) (fun _ => ?_)
    · refine j_iconst (pc := 23) d_ShakeHands_rounds_23 k_i_m1 ?_
      exact j_ireturn (pc := 24) d_ShakeHands_rounds_24 rfl
    · refine j_aload_n (pc := 15) (q := 0) d_ShakeHands_rounds_15 rfl rfl ?_
      refine j_iload_n (pc := 16) (q := 3) d_ShakeHands_rounds_16 rfl rfl ?_
      refine j_callV1 (pc := 17) d_ShakeHands_rounds_17 (C_ShakeHands_arePeople n p3 M4) cV_ShakeHands_205 cd_ShakeHands_arePeople dn_ShakeHands_arePeople rfl (by decide) (Nat.le_of_ble_eq_true rfl) (Nat.le_of_ble_eq_true rfl) nr_I sx_0 (by decide) rfl (fun r5 M6 => ?_)
      refine j_if_ne (pc := 20) (tgt := 25) d_ShakeHands_rounds_20 (by decide) (fun _ => ?_) (fun _ => ?_)
      · refine j_aload_n (pc := 25) (q := 0) d_ShakeHands_rounds_25 rfl rfl ?_
        refine j_getA (pc := 26) d_ShakeHands_rounds_26 fl_ShakeHands_48 sx_0 (by decide) rfl ?_
        refine j_callV0 (pc := 29) d_ShakeHands_rounds_29 (C_Search_begin n M6) cV_ShakeHands_208 cd_Search_begin dn_Search_begin rfl (by decide) (Nat.le_of_ble_eq_true rfl) (Nat.le_of_ble_eq_true rfl) nr_U sx_26 (by decide) rfl (fun r7 M8 => ?_)
        refine j_aload_n (pc := 32) (q := 0) d_ShakeHands_rounds_32 rfl rfl ?_
        refine j_getA (pc := 33) d_ShakeHands_rounds_33 fl_ShakeHands_48 sx_0 (by decide) rfl ?_
        refine j_iload_n (pc := 36) (q := 1) d_ShakeHands_rounds_36 rfl rfl ?_
        refine j_iload_n (pc := 37) (q := 2) d_ShakeHands_rounds_37 rfl rfl ?_
        refine j_iconst (pc := 38) d_ShakeHands_rounds_38 k_i_0 ?_
        refine j_iload_n (pc := 39) (q := 3) d_ShakeHands_rounds_39 rfl rfl ?_
        refine j_callV4 (pc := 40) d_ShakeHands_rounds_40 (C_Search_aim n p1 p2 0 p3 M8) cV_ShakeHands_211 cd_Search_aim dn_Search_aim rfl (by decide) (Nat.le_of_ble_eq_true rfl) (Nat.le_of_ble_eq_true rfl) nr_U sx_26 (by decide) rfl (fun r9 M10 => ?_)
        refine j_aload_n (pc := 43) (q := 0) d_ShakeHands_rounds_43 rfl rfl ?_
        refine j_getA (pc := 44) d_ShakeHands_rounds_44 fl_ShakeHands_48 sx_0 (by decide) rfl ?_
        refine j_callV0 (pc := 47) d_ShakeHands_rounds_47 (C_Search_fewestRounds n M10) cV_ShakeHands_221 cd_Search_fewestRounds dn_Search_fewestRounds rfl (by decide) (Nat.le_of_ble_eq_true rfl) (Nat.le_of_ble_eq_true rfl) nr_I sx_26 (by decide) rfl (fun r11 M12 => ?_)
        exact j_ireturn (pc := 50) d_ShakeHands_rounds_50 rfl
      · refine j_iconst (pc := 23) d_ShakeHands_rounds_23 k_i_m1 ?_
        exact j_ireturn (pc := 24) d_ShakeHands_rounds_24 rfl
-- ShakeHands.lose (I)I
def mt_ShakeHands_lose : Mt := ("ShakeHands", b_ShakeHands_lose, 2, some .int, 21, SHx)
theorem d_ShakeHands_lose_0 : decode b_ShakeHands_lose 0 = .ok (.iload_n 1, 1) := by decide +kernel
theorem d_ShakeHands_lose_1 : decode b_ShakeHands_lose 1 = .ok (.invokestatic 158, 3) := by decide +kernel
theorem d_ShakeHands_lose_4 : decode b_ShakeHands_lose 4 = .ok (.ifCond .ne 5, 3) := by decide +kernel
theorem d_ShakeHands_lose_7 : decode b_ShakeHands_lose 7 = .ok (.iconst (-1), 1) := by decide +kernel
theorem d_ShakeHands_lose_8 : decode b_ShakeHands_lose 8 = .ok (.ireturn, 1) := by decide +kernel
theorem d_ShakeHands_lose_9 : decode b_ShakeHands_lose 9 = .ok (.aload_n 0, 1) := by decide +kernel
theorem d_ShakeHands_lose_10 : decode b_ShakeHands_lose 10 = .ok (.getfield 48, 3) := by decide +kernel
theorem d_ShakeHands_lose_13 : decode b_ShakeHands_lose 13 = .ok (.invokevirtual 208, 3) := by decide +kernel
theorem d_ShakeHands_lose_16 : decode b_ShakeHands_lose 16 = .ok (.aload_n 0, 1) := by decide +kernel
theorem d_ShakeHands_lose_17 : decode b_ShakeHands_lose 17 = .ok (.getfield 48, 3) := by decide +kernel
theorem d_ShakeHands_lose_20 : decode b_ShakeHands_lose 20 = .ok (.iload_n 1, 1) := by decide +kernel
theorem d_ShakeHands_lose_21 : decode b_ShakeHands_lose 21 = .ok (.iconst 0, 1) := by decide +kernel
theorem d_ShakeHands_lose_22 : decode b_ShakeHands_lose 22 = .ok (.aload_n 0, 1) := by decide +kernel
theorem d_ShakeHands_lose_23 : decode b_ShakeHands_lose 23 = .ok (.invokevirtual 224, 3) := by decide +kernel
theorem d_ShakeHands_lose_26 : decode b_ShakeHands_lose 26 = .ok (.iconst 0, 1) := by decide +kernel
theorem d_ShakeHands_lose_27 : decode b_ShakeHands_lose 27 = .ok (.invokevirtual 211, 3) := by decide +kernel
theorem d_ShakeHands_lose_30 : decode b_ShakeHands_lose 30 = .ok (.aload_n 0, 1) := by decide +kernel
theorem d_ShakeHands_lose_31 : decode b_ShakeHands_lose 31 = .ok (.getfield 48, 3) := by decide +kernel
theorem d_ShakeHands_lose_34 : decode b_ShakeHands_lose 34 = .ok (.invokevirtual 215, 3) := by decide +kernel
theorem d_ShakeHands_lose_37 : decode b_ShakeHands_lose 37 = .ok (.ireturn, 1) := by decide +kernel
def X_ShakeHands_lose (n : Nat) (p1 : Int32) (M : Mem) : Option (Int32 × Mem) :=
  bd (X_ShakeHands_isThing n p1 M) fun r1 M2 =>
  (if r1 = 0 then
    some ((-1), M2)
    else
    bd (X_Search_begin n M2) fun _ M4 =>
    bd (X_ShakeHands_everybody n M4) fun r5 M6 =>
    bd (X_Search_aim n p1 0 r5 0 M6) fun _ M8 =>
    bd (X_Search_fewestHands n M8) fun r9 M10 =>
    some (r9, M10))
set_option maxRecDepth 20000 in
set_option maxHeartbeats 4000000 in
theorem C_ShakeHands_lose (n : Nat)   (p1 : Int32) (M : Mem) : Ct y_ShakeHands_lose mt_ShakeHands_lose wI [Value.ref 0, Value.int p1] M (X_ShakeHands_lose n p1 M) := by
  refine ct_of (by decide +kernel) rfl (Nat.le_of_ble_eq_true rfl) ?_
  show J _ _ _ [(0, Value.ref 0), (1, Value.int p1)] _ _ _
  unfold X_ShakeHands_lose
  refine j_iload_n (pc := 0) (q := 1) d_ShakeHands_lose_0 rfl rfl ?_
  refine j_callS1 (pc := 1) d_ShakeHands_lose_1 (C_ShakeHands_isThing n p1 M) cS_ShakeHands_158 cd_ShakeHands_isThing dn_ShakeHands_isThing rfl (by decide) (Nat.le_of_ble_eq_true rfl) (Nat.le_of_ble_eq_true rfl) nr_I (fun r1 M2 => ?_)
  refine j_if_ne (pc := 4) (tgt := 9) d_ShakeHands_lose_4 (by decide) (fun _ => ?_) (fun _ => ?_)
  · refine j_aload_n (pc := 9) (q := 0) d_ShakeHands_lose_9 rfl rfl ?_
    refine j_getA (pc := 10) d_ShakeHands_lose_10 fl_ShakeHands_48 sx_0 (by decide) rfl ?_
    refine j_callV0 (pc := 13) d_ShakeHands_lose_13 (C_Search_begin n M2) cV_ShakeHands_208 cd_Search_begin dn_Search_begin rfl (by decide) (Nat.le_of_ble_eq_true rfl) (Nat.le_of_ble_eq_true rfl) nr_U sx_26 (by decide) rfl (fun r3 M4 => ?_)
    refine j_aload_n (pc := 16) (q := 0) d_ShakeHands_lose_16 rfl rfl ?_
    refine j_getA (pc := 17) d_ShakeHands_lose_17 fl_ShakeHands_48 sx_0 (by decide) rfl ?_
    refine j_iload_n (pc := 20) (q := 1) d_ShakeHands_lose_20 rfl rfl ?_
    refine j_iconst (pc := 21) d_ShakeHands_lose_21 k_i_0 ?_
    refine j_aload_n (pc := 22) (q := 0) d_ShakeHands_lose_22 rfl rfl ?_
    refine j_callV0 (pc := 23) d_ShakeHands_lose_23 (C_ShakeHands_everybody n M4) cV_ShakeHands_224 cd_ShakeHands_everybody dn_ShakeHands_everybody rfl (by decide) (Nat.le_of_ble_eq_true rfl) (Nat.le_of_ble_eq_true rfl) nr_I sx_0 (by decide) rfl (fun r5 M6 => ?_)
    refine j_iconst (pc := 26) d_ShakeHands_lose_26 k_i_0 ?_
    refine j_callV4 (pc := 27) d_ShakeHands_lose_27 (C_Search_aim n p1 0 r5 0 M6) cV_ShakeHands_211 cd_Search_aim dn_Search_aim rfl (by decide) (Nat.le_of_ble_eq_true rfl) (Nat.le_of_ble_eq_true rfl) nr_U sx_26 (by decide) rfl (fun r7 M8 => ?_)
    refine j_aload_n (pc := 30) (q := 0) d_ShakeHands_lose_30 rfl rfl ?_
    refine j_getA (pc := 31) d_ShakeHands_lose_31 fl_ShakeHands_48 sx_0 (by decide) rfl ?_
    refine j_callV0 (pc := 34) d_ShakeHands_lose_34 (C_Search_fewestHands n M8) cV_ShakeHands_215 cd_Search_fewestHands dn_Search_fewestHands rfl (by decide) (Nat.le_of_ble_eq_true rfl) (Nat.le_of_ble_eq_true rfl) nr_I sx_26 (by decide) rfl (fun r9 M10 => ?_)
    exact j_ireturn (pc := 37) d_ShakeHands_lose_37 rfl
  · refine j_iconst (pc := 7) d_ShakeHands_lose_7 k_i_m1 ?_
    exact j_ireturn (pc := 8) d_ShakeHands_lose_8 rfl
-- ShakeHands.lives (I)I
def mt_ShakeHands_lives : Mt := ("ShakeHands", b_ShakeHands_lives, 2, some .int, 8, SHx)
theorem d_ShakeHands_lives_0 : decode b_ShakeHands_lives 0 = .ok (.iload_n 1, 1) := by decide +kernel
theorem d_ShakeHands_lives_1 : decode b_ShakeHands_lives 1 = .ok (.invokestatic 158, 3) := by decide +kernel
theorem d_ShakeHands_lives_4 : decode b_ShakeHands_lives 4 = .ok (.ifCond .eq 14, 3) := by decide +kernel
theorem d_ShakeHands_lives_7 : decode b_ShakeHands_lives 7 = .ok (.aload_n 0, 1) := by decide +kernel
theorem d_ShakeHands_lives_8 : decode b_ShakeHands_lives 8 = .ok (.getfield 55, 3) := by decide +kernel
theorem d_ShakeHands_lives_11 : decode b_ShakeHands_lives 11 = .ok (.iload_n 1, 1) := by decide +kernel
theorem d_ShakeHands_lives_12 : decode b_ShakeHands_lives 12 = .ok (.invokevirtual 227, 3) := by decide +kernel
theorem d_ShakeHands_lives_15 : decode b_ShakeHands_lives 15 = .ok (.goto 4, 3) := by decide +kernel
theorem d_ShakeHands_lives_18 : decode b_ShakeHands_lives 18 = .ok (.iconst (-1), 1) := by decide +kernel
theorem d_ShakeHands_lives_19 : decode b_ShakeHands_lives 19 = .ok (.ireturn, 1) := by decide +kernel
def X_ShakeHands_lives (n : Nat) (p1 : Int32) (M : Mem) : Option (Int32 × Mem) :=
  bd (X_ShakeHands_isThing n p1 M) fun r1 M2 =>
  (if r1 = 0 then
    some ((-1), M2)
    else
    bd (X_Habit_lastDay n p1 M2) fun r3 M4 =>
    some (r3, M4))
set_option maxRecDepth 20000 in
set_option maxHeartbeats 4000000 in
theorem C_ShakeHands_lives (n : Nat)   (p1 : Int32) (M : Mem) : Ct y_ShakeHands_lives mt_ShakeHands_lives wI [Value.ref 0, Value.int p1] M (X_ShakeHands_lives n p1 M) := by
  refine ct_of (by decide +kernel) rfl (Nat.le_of_ble_eq_true rfl) ?_
  show J _ _ _ [(0, Value.ref 0), (1, Value.int p1)] _ _ _
  unfold X_ShakeHands_lives
  refine j_iload_n (pc := 0) (q := 1) d_ShakeHands_lives_0 rfl rfl ?_
  refine j_callS1 (pc := 1) d_ShakeHands_lives_1 (C_ShakeHands_isThing n p1 M) cS_ShakeHands_158 cd_ShakeHands_isThing dn_ShakeHands_isThing rfl (by decide) (Nat.le_of_ble_eq_true rfl) (Nat.le_of_ble_eq_true rfl) nr_I (fun r1 M2 => ?_)
  refine j_if_eq (pc := 4) (tgt := 18) d_ShakeHands_lives_4 (by decide) (fun _ => ?_) (fun _ => ?_)
  · refine j_iconst (pc := 18) d_ShakeHands_lives_18 k_i_m1 ?_
    exact j_ireturn (pc := 19) d_ShakeHands_lives_19 rfl
  · refine j_aload_n (pc := 7) (q := 0) d_ShakeHands_lives_7 rfl rfl ?_
    refine j_getA (pc := 8) d_ShakeHands_lives_8 fl_ShakeHands_55 sx_0 (by decide) rfl ?_
    refine j_iload_n (pc := 11) (q := 1) d_ShakeHands_lives_11 rfl rfl ?_
    refine j_callV1 (pc := 12) d_ShakeHands_lives_12 (C_Habit_lastDay n p1 M2) cV_ShakeHands_227 cd_Habit_lastDay dn_Habit_lastDay rfl (by decide) (Nat.le_of_ble_eq_true rfl) (Nat.le_of_ble_eq_true rfl) nr_I sx_37 (by decide) rfl (fun r3 M4 => ?_)
    refine j_goto (pc := 15) (tgt := 19) d_ShakeHands_lives_15 (by decide) ?_
    exact j_ireturn (pc := 19) d_ShakeHands_lives_19 rfl
-- ShakeHands.comes (I)I
def mt_ShakeHands_comes : Mt := ("ShakeHands", b_ShakeHands_comes, 2, some .int, 8, SHx)
theorem d_ShakeHands_comes_0 : decode b_ShakeHands_comes 0 = .ok (.iload_n 1, 1) := by decide +kernel
theorem d_ShakeHands_comes_1 : decode b_ShakeHands_comes 1 = .ok (.ifCond .lt 8, 3) := by decide +kernel
theorem d_ShakeHands_comes_4 : decode b_ShakeHands_comes 4 = .ok (.iload_n 1, 1) := by decide +kernel
theorem d_ShakeHands_comes_5 : decode b_ShakeHands_comes 5 = .ok (.iconst 1, 1) := by decide +kernel
theorem d_ShakeHands_comes_6 : decode b_ShakeHands_comes 6 = .ok (.if_icmp .le 5, 3) := by decide +kernel
theorem d_ShakeHands_comes_9 : decode b_ShakeHands_comes 9 = .ok (.iconst (-1), 1) := by decide +kernel
theorem d_ShakeHands_comes_10 : decode b_ShakeHands_comes 10 = .ok (.ireturn, 1) := by decide +kernel
theorem d_ShakeHands_comes_11 : decode b_ShakeHands_comes 11 = .ok (.aload_n 0, 1) := by decide +kernel
theorem d_ShakeHands_comes_12 : decode b_ShakeHands_comes 12 = .ok (.getfield 55, 3) := by decide +kernel
theorem d_ShakeHands_comes_15 : decode b_ShakeHands_comes 15 = .ok (.iload_n 1, 1) := by decide +kernel
theorem d_ShakeHands_comes_16 : decode b_ShakeHands_comes 16 = .ok (.iconst 1, 1) := by decide +kernel
theorem d_ShakeHands_comes_17 : decode b_ShakeHands_comes 17 = .ok (.if_icmp .ne 7, 3) := by decide +kernel
theorem d_ShakeHands_comes_20 : decode b_ShakeHands_comes 20 = .ok (.iconst 1, 1) := by decide +kernel
theorem d_ShakeHands_comes_21 : decode b_ShakeHands_comes 21 = .ok (.goto 4, 3) := by decide +kernel
theorem d_ShakeHands_comes_24 : decode b_ShakeHands_comes 24 = .ok (.iconst 0, 1) := by decide +kernel
theorem d_ShakeHands_comes_25 : decode b_ShakeHands_comes 25 = .ok (.invokevirtual 230, 3) := by decide +kernel
theorem d_ShakeHands_comes_28 : decode b_ShakeHands_comes 28 = .ok (.ireturn, 1) := by decide +kernel
def X_ShakeHands_comes (n : Nat) (p1 : Int32) (M : Mem) : Option (Int32 × Mem) :=
  (if p1 < 0 then
    some ((-1), M)
    else
    (if p1 ≤ 1 then
      nm (fun (u1 : Int32) => (bd (X_Habit_comesBack n u1 M) fun r2 M3 =>
          some (r2, M3) : Option (Int32 × Mem))) fun k25 =>
      (if p1 = 1 then
        k25 1
        else
        k25 0)
      else
      some ((-1), M)))
set_option maxRecDepth 20000 in
set_option maxHeartbeats 4000000 in
theorem C_ShakeHands_comes (n : Nat)   (p1 : Int32) (M : Mem) : Ct y_ShakeHands_comes mt_ShakeHands_comes wI [Value.ref 0, Value.int p1] M (X_ShakeHands_comes n p1 M) := by
  refine ct_of (by decide +kernel) rfl (Nat.le_of_ble_eq_true rfl) ?_
  show J _ _ _ [(0, Value.ref 0), (1, Value.int p1)] _ _ _
  unfold X_ShakeHands_comes
  refine j_iload_n (pc := 0) (q := 1) d_ShakeHands_comes_0 rfl rfl ?_
  refine j_if_lt (pc := 1) (tgt := 9) d_ShakeHands_comes_1 (by decide) (fun _ => ?_) (fun _ => ?_)
  · refine j_iconst (pc := 9) d_ShakeHands_comes_9 k_i_m1 ?_
    exact j_ireturn (pc := 10) d_ShakeHands_comes_10 rfl
  · refine j_iload_n (pc := 4) (q := 1) d_ShakeHands_comes_4 rfl rfl ?_
    refine j_iconst (pc := 5) d_ShakeHands_comes_5 k_i_1 ?_
    refine j_icmp_le (pc := 6) (tgt := 11) d_ShakeHands_comes_6 (by decide) (fun _ => ?_) (fun _ => ?_)
    · refine j_aload_n (pc := 11) (q := 0) d_ShakeHands_comes_11 rfl rfl ?_
      refine j_getA (pc := 12) d_ShakeHands_comes_12 fl_ShakeHands_55 sx_0 (by decide) rfl ?_
      refine j_iload_n (pc := 15) (q := 1) d_ShakeHands_comes_15 rfl rfl ?_
      refine j_iconst (pc := 16) d_ShakeHands_comes_16 k_i_1 ?_
      refine j_nmk (fun k => ∀ (u1 : Int32), J (mt_ShakeHands_comes) wI 25 [] [Value.int u1, Value.ref 37] M (k u1)) (fun u1 => ?_) (fun k25 hk25 => ?_)
      · refine j_callV1 (pc := 25) d_ShakeHands_comes_25 (C_Habit_comesBack n u1 M) cV_ShakeHands_230 cd_Habit_comesBack dn_Habit_comesBack rfl (by decide) (Nat.le_of_ble_eq_true rfl) (Nat.le_of_ble_eq_true rfl) nr_I sx_37 (by decide) rfl (fun r2 M3 => ?_)
        exact j_ireturn (pc := 28) d_ShakeHands_comes_28 rfl
      · refine j_icmp_ne (pc := 17) (tgt := 24) d_ShakeHands_comes_17 (by decide) (fun _ => ?_) (fun _ => ?_)
        · refine j_iconst (pc := 24) d_ShakeHands_comes_24 k_i_0 ?_
          refine j_lv [] rfl ?_
          exact hk25 0
        · refine j_iconst (pc := 20) d_ShakeHands_comes_20 k_i_1 ?_
          refine j_goto (pc := 21) (tgt := 25) d_ShakeHands_comes_21 (by decide) ?_
          refine j_lv [] rfl ?_
          exact hk25 1
    · refine j_iconst (pc := 9) d_ShakeHands_comes_9 k_i_m1 ?_
      exact j_ireturn (pc := 10) d_ShakeHands_comes_10 rfl
-- ShakeHands.days (I)I
def mt_ShakeHands_days : Mt := ("ShakeHands", b_ShakeHands_days, 3, some .int, 7, SHx)
theorem d_ShakeHands_days_0 : decode b_ShakeHands_days 0 = .ok (.iload_n 1, 1) := by decide +kernel
theorem d_ShakeHands_days_1 : decode b_ShakeHands_days 1 = .ok (.iconst 1, 1) := by decide +kernel
theorem d_ShakeHands_days_2 : decode b_ShakeHands_days 2 = .ok (.if_icmp .lt 9, 3) := by decide +kernel
theorem d_ShakeHands_days_5 : decode b_ShakeHands_days 5 = .ok (.iload_n 1, 1) := by decide +kernel
theorem d_ShakeHands_days_6 : decode b_ShakeHands_days 6 = .ok (.bipush 99, 2) := by decide +kernel
theorem d_ShakeHands_days_8 : decode b_ShakeHands_days 8 = .ok (.if_icmp .le 5, 3) := by decide +kernel
theorem d_ShakeHands_days_11 : decode b_ShakeHands_days 11 = .ok (.iconst (-1), 1) := by decide +kernel
theorem d_ShakeHands_days_12 : decode b_ShakeHands_days 12 = .ok (.ireturn, 1) := by decide +kernel
theorem d_ShakeHands_days_13 : decode b_ShakeHands_days 13 = .ok (.iconst 0, 1) := by decide +kernel
theorem d_ShakeHands_days_14 : decode b_ShakeHands_days 14 = .ok (.istore_n 2, 1) := by decide +kernel
theorem d_ShakeHands_days_15 : decode b_ShakeHands_days 15 = .ok (.iload_n 2, 1) := by decide +kernel
theorem d_ShakeHands_days_16 : decode b_ShakeHands_days 16 = .ok (.iload_n 1, 1) := by decide +kernel
theorem d_ShakeHands_days_17 : decode b_ShakeHands_days 17 = .ok (.if_icmp .ge 30, 3) := by decide +kernel
theorem d_ShakeHands_days_20 : decode b_ShakeHands_days 20 = .ok (.aload_n 0, 1) := by decide +kernel
theorem d_ShakeHands_days_21 : decode b_ShakeHands_days 21 = .ok (.getfield 28, 3) := by decide +kernel
theorem d_ShakeHands_days_24 : decode b_ShakeHands_days 24 = .ok (.aload_n 0, 1) := by decide +kernel
theorem d_ShakeHands_days_25 : decode b_ShakeHands_days 25 = .ok (.getfield 35, 3) := by decide +kernel
theorem d_ShakeHands_days_28 : decode b_ShakeHands_days 28 = .ok (.getfield 93, 3) := by decide +kernel
theorem d_ShakeHands_days_31 : decode b_ShakeHands_days 31 = .ok (.aload_n 0, 1) := by decide +kernel
theorem d_ShakeHands_days_32 : decode b_ShakeHands_days 32 = .ok (.getfield 35, 3) := by decide +kernel
theorem d_ShakeHands_days_35 : decode b_ShakeHands_days 35 = .ok (.getfield 103, 3) := by decide +kernel
theorem d_ShakeHands_days_38 : decode b_ShakeHands_days 38 = .ok (.invokevirtual 234, 3) := by decide +kernel
theorem d_ShakeHands_days_41 : decode b_ShakeHands_days 41 = .ok (.iinc 2 1, 3) := by decide +kernel
theorem d_ShakeHands_days_44 : decode b_ShakeHands_days 44 = .ok (.goto (-29), 3) := by decide +kernel
theorem d_ShakeHands_days_47 : decode b_ShakeHands_days 47 = .ok (.aload_n 0, 1) := by decide +kernel
theorem d_ShakeHands_days_48 : decode b_ShakeHands_days 48 = .ok (.getfield 35, 3) := by decide +kernel
theorem d_ShakeHands_days_51 : decode b_ShakeHands_days 51 = .ok (.getfield 93, 3) := by decide +kernel
theorem d_ShakeHands_days_54 : decode b_ShakeHands_days 54 = .ok (.invokestatic 190, 3) := by decide +kernel
theorem d_ShakeHands_days_57 : decode b_ShakeHands_days 57 = .ok (.ireturn, 1) := by decide +kernel
def X_ShakeHands_days_L15 (n : Nat) (a1 : Int32) (kx47 : Mem → Option (Int32 × Mem)) : Nat → Int32 → Mem → Option (Int32 × Mem)
    | 0, _, _ => none
    | m + 1, v2, M => (if a1 ≤ v2 then
    kx47 M
    else
    bd (X_Circle_liveDay n 17 (M.1 16 1) M) fun _ M2 =>
    X_ShakeHands_days_L15 n a1 kx47 m (v2 + 1) M2)
def X_ShakeHands_days (n : Nat) (p1 : Int32) (M : Mem) : Option (Int32 × Mem) :=
  (if p1 < 1 then
    some ((-1), M)
    else
    (if p1 ≤ 99 then
      X_ShakeHands_days_L15 n p1 (fun M3 => bd (X_Minds_known n 17 M3) fun r4 M5 =>
        some (r4, M5)) n 0 M
      else
      some ((-1), M)))
set_option maxRecDepth 20000 in
set_option maxHeartbeats 4000000 in
theorem X_ShakeHands_days_L15_ok {n : Nat} {a1 : Int32} {kx47 : Mem → Option (Int32 × Mem)} (hkx47 : ∀ (M : Mem), J (mt_ShakeHands_days) wI 47 [(0, Value.ref 0)] [] M (kx47 M)) : ∀ (m : Nat) (v2 : Int32) (M : Mem), J (mt_ShakeHands_days) wI 15 [(0, Value.ref 0), (1, Value.int a1), (2, Value.int v2)] [] M (X_ShakeHands_days_L15 n a1 kx47 m v2 M) := by
  intro m
  induction m with
  | zero => intro _ _; exact j_none
  | succ m ih =>
    intro v2 M
    show J _ _ _ _ _ _ ((if a1 ≤ v2 then
kx47 M
else
bd (X_Circle_liveDay n 17 (M.1 16 1) M) fun _ M2 =>
X_ShakeHands_days_L15 n a1 kx47 m (v2 + 1) M2))
    refine j_iload_n (pc := 15) (q := 2) d_ShakeHands_days_15 rfl rfl ?_
    refine j_iload_n (pc := 16) (q := 1) d_ShakeHands_days_16 rfl rfl ?_
    refine j_icmp_ge (pc := 17) (tgt := 47) d_ShakeHands_days_17 (by decide) (fun _ => ?_) (fun _ => ?_)
    · refine j_lv [0] rfl ?_
      exact hkx47 M
    · refine j_aload_n (pc := 20) (q := 0) d_ShakeHands_days_20 rfl rfl ?_
      refine j_getA (pc := 21) d_ShakeHands_days_21 fl_ShakeHands_28 sx_0 (by decide) rfl ?_
      refine j_aload_n (pc := 24) (q := 0) d_ShakeHands_days_24 rfl rfl ?_
      refine j_getA (pc := 25) d_ShakeHands_days_25 fl_ShakeHands_35 sx_0 (by decide) rfl ?_
      refine j_getA (pc := 28) d_ShakeHands_days_28 fl_ShakeHands_93 sx_16 (by decide) rfl ?_
      refine j_aload_n (pc := 31) (q := 0) d_ShakeHands_days_31 rfl rfl ?_
      refine j_getA (pc := 32) d_ShakeHands_days_32 fl_ShakeHands_35 sx_0 (by decide) rfl ?_
      refine j_getI (pc := 35) d_ShakeHands_days_35 fl_ShakeHands_103 sx_16 (by decide) rfl ?_
      refine j_callV2 (pc := 38) d_ShakeHands_days_38 (C_Circle_liveDay n 17 sx_17 (M.1 16 1) M) cV_ShakeHands_234 cd_Circle_liveDay dn_Circle_liveDay rfl (by decide) (Nat.le_of_ble_eq_true rfl) (Nat.le_of_ble_eq_true rfl) nr_U sx_11 (by decide) rfl (fun r1 M2 => ?_)
      refine j_iinc (pc := 41) (q := 2) d_ShakeHands_days_41 rfl (congrArg (v2 + ·) k_i_1) (by decide) rfl ?_
      refine j_goto (pc := 44) (tgt := 15) d_ShakeHands_days_44 (by decide) ?_
      refine j_lv [1, 2, 0] rfl ?_
      exact ih (v2 + 1) M2
set_option maxRecDepth 20000 in
set_option maxHeartbeats 4000000 in
theorem C_ShakeHands_days (n : Nat)   (p1 : Int32) (M : Mem) : Ct y_ShakeHands_days mt_ShakeHands_days wI [Value.ref 0, Value.int p1] M (X_ShakeHands_days n p1 M) := by
  refine ct_of (by decide +kernel) rfl (Nat.le_of_ble_eq_true rfl) ?_
  show J _ _ _ [(0, Value.ref 0), (1, Value.int p1)] _ _ _
  unfold X_ShakeHands_days
  refine j_iload_n (pc := 0) (q := 1) d_ShakeHands_days_0 rfl rfl ?_
  refine j_iconst (pc := 1) d_ShakeHands_days_1 k_i_1 ?_
  refine j_icmp_lt (pc := 2) (tgt := 11) d_ShakeHands_days_2 (by decide) (fun _ => ?_) (fun _ => ?_)
  · refine j_iconst (pc := 11) d_ShakeHands_days_11 k_i_m1 ?_
    exact j_ireturn (pc := 12) d_ShakeHands_days_12 rfl
  · refine j_iload_n (pc := 5) (q := 1) d_ShakeHands_days_5 rfl rfl ?_
    refine j_bipush (pc := 6) d_ShakeHands_days_6 k_b_99 ?_
    refine j_icmp_le (pc := 8) (tgt := 13) d_ShakeHands_days_8 (by decide) (fun _ => ?_) (fun _ => ?_)
    · refine j_iconst (pc := 13) d_ShakeHands_days_13 k_i_0 ?_
      refine j_istore_n (pc := 14) d_ShakeHands_days_14 rfl (by decide) rfl ?_
      refine j_lv [1, 2, 0] rfl ?_
      refine X_ShakeHands_days_L15_ok  (fun M3 => ?_) n 0 M
      refine j_aload_n (pc := 47) (q := 0) d_ShakeHands_days_47 rfl rfl ?_
      refine j_getA (pc := 48) d_ShakeHands_days_48 fl_ShakeHands_35 sx_0 (by decide) rfl ?_
      refine j_getA (pc := 51) d_ShakeHands_days_51 fl_ShakeHands_93 sx_16 (by decide) rfl ?_
      refine j_callS1 (pc := 54) d_ShakeHands_days_54 (C_Minds_known n 17 sx_17 M3) cS_ShakeHands_190 cd_Minds_known dn_Minds_known rfl (by decide) (Nat.le_of_ble_eq_true rfl) (Nat.le_of_ble_eq_true rfl) nr_I (fun r4 M5 => ?_)
      exact j_ireturn (pc := 57) d_ShakeHands_days_57 rfl
    · refine j_iconst (pc := 11) d_ShakeHands_days_11 k_i_m1 ?_
      exact j_ireturn (pc := 12) d_ShakeHands_days_12 rfl
-- ShakeHands.saw (II)I
def mt_ShakeHands_saw : Mt := ("ShakeHands", b_ShakeHands_saw, 3, some .int, 3, SHx)
theorem d_ShakeHands_saw_0 : decode b_ShakeHands_saw 0 = .ok (.aload_n 0, 1) := by decide +kernel
theorem d_ShakeHands_saw_1 : decode b_ShakeHands_saw 1 = .ok (.iload_n 1, 1) := by decide +kernel
theorem d_ShakeHands_saw_2 : decode b_ShakeHands_saw 2 = .ok (.invokevirtual 141, 3) := by decide +kernel
theorem d_ShakeHands_saw_5 : decode b_ShakeHands_saw 5 = .ok (.ifCond .eq 13, 3) := by decide +kernel
theorem d_ShakeHands_saw_8 : decode b_ShakeHands_saw 8 = .ok (.iload_n 2, 1) := by decide +kernel
theorem d_ShakeHands_saw_9 : decode b_ShakeHands_saw 9 = .ok (.ifCond .lt 9, 3) := by decide +kernel
theorem d_ShakeHands_saw_12 : decode b_ShakeHands_saw 12 = .ok (.iload_n 2, 1) := by decide +kernel
theorem d_ShakeHands_saw_13 : decode b_ShakeHands_saw 13 = .ok (.ldc 238, 2) := by decide +kernel
theorem d_ShakeHands_saw_15 : decode b_ShakeHands_saw 15 = .ok (.if_icmp .lt 5, 3) := by decide +kernel
theorem d_ShakeHands_saw_18 : decode b_ShakeHands_saw 18 = .ok (.iconst (-1), 1) := by decide +kernel
theorem d_ShakeHands_saw_19 : decode b_ShakeHands_saw 19 = .ok (.ireturn, 1) := by decide +kernel
theorem d_ShakeHands_saw_20 : decode b_ShakeHands_saw 20 = .ok (.aload_n 0, 1) := by decide +kernel
theorem d_ShakeHands_saw_21 : decode b_ShakeHands_saw 21 = .ok (.getfield 35, 3) := by decide +kernel
theorem d_ShakeHands_saw_24 : decode b_ShakeHands_saw 24 = .ok (.dup, 1) := by decide +kernel
theorem d_ShakeHands_saw_25 : decode b_ShakeHands_saw 25 = .ok (.getfield 104, 3) := by decide +kernel
theorem d_ShakeHands_saw_28 : decode b_ShakeHands_saw 28 = .ok (.iconst 1, 1) := by decide +kernel
theorem d_ShakeHands_saw_29 : decode b_ShakeHands_saw 29 = .ok (.iload_n 1, 1) := by decide +kernel
theorem d_ShakeHands_saw_30 : decode b_ShakeHands_saw 30 = .ok (.ishl, 1) := by decide +kernel
theorem d_ShakeHands_saw_31 : decode b_ShakeHands_saw 31 = .ok (.ior, 1) := by decide +kernel
theorem d_ShakeHands_saw_32 : decode b_ShakeHands_saw 32 = .ok (.putfield 104, 3) := by decide +kernel
theorem d_ShakeHands_saw_35 : decode b_ShakeHands_saw 35 = .ok (.aload_n 0, 1) := by decide +kernel
theorem d_ShakeHands_saw_36 : decode b_ShakeHands_saw 36 = .ok (.getfield 35, 3) := by decide +kernel
theorem d_ShakeHands_saw_39 : decode b_ShakeHands_saw 39 = .ok (.getfield 239, 3) := by decide +kernel
theorem d_ShakeHands_saw_42 : decode b_ShakeHands_saw 42 = .ok (.iload_n 1, 1) := by decide +kernel
theorem d_ShakeHands_saw_43 : decode b_ShakeHands_saw 43 = .ok (.iload_n 2, 1) := by decide +kernel
theorem d_ShakeHands_saw_44 : decode b_ShakeHands_saw 44 = .ok (.iastore, 1) := by decide +kernel
theorem d_ShakeHands_saw_45 : decode b_ShakeHands_saw 45 = .ok (.aload_n 0, 1) := by decide +kernel
theorem d_ShakeHands_saw_46 : decode b_ShakeHands_saw 46 = .ok (.getfield 35, 3) := by decide +kernel
theorem d_ShakeHands_saw_49 : decode b_ShakeHands_saw 49 = .ok (.getfield 104, 3) := by decide +kernel
theorem d_ShakeHands_saw_52 : decode b_ShakeHands_saw 52 = .ok (.invokestatic 125, 3) := by decide +kernel
theorem d_ShakeHands_saw_55 : decode b_ShakeHands_saw 55 = .ok (.ireturn, 1) := by decide +kernel
def X_ShakeHands_saw (n : Nat) (p1 : Int32) (p2 : Int32) (M : Mem) : Option (Int32 × Mem) :=
  bd (X_ShakeHands_isOne n p1 M) fun r1 M2 =>
  (if r1 = 0 then
    some ((-1), M2)
    else
    (if p2 < 0 then
      some ((-1), M2)
      else
      (if p2 < 65536 then
        gd p1 6 (
          nm (si (si M2 16 2 ((M2.1 16 2) ||| ((1 : Int32) <<< (p1 &&& 31)))) 18 (p1.toNatClampNeg) p2) fun N3 =>
          bd (X_Integer_bitCount n (N3.1 16 2) N3) fun r4 M5 =>
          some (r4, M5))
        else
        some ((-1), M2))))
set_option maxRecDepth 20000 in
set_option maxHeartbeats 4000000 in
theorem C_ShakeHands_saw (n : Nat)   (p1 : Int32) (p2 : Int32) (M : Mem) : Ct y_ShakeHands_saw mt_ShakeHands_saw wI [Value.ref 0, Value.int p1, Value.int p2] M (X_ShakeHands_saw n p1 p2 M) := by
  refine ct_of (by decide +kernel) rfl (Nat.le_of_ble_eq_true rfl) ?_
  show J _ _ _ [(0, Value.ref 0), (1, Value.int p1), (2, Value.int p2)] _ _ _
  unfold X_ShakeHands_saw
  refine j_aload_n (pc := 0) (q := 0) d_ShakeHands_saw_0 rfl rfl ?_
  refine j_iload_n (pc := 1) (q := 1) d_ShakeHands_saw_1 rfl rfl ?_
  refine j_callV1 (pc := 2) d_ShakeHands_saw_2 (C_ShakeHands_isOne n p1 M) cV_ShakeHands_141 cd_ShakeHands_isOne dn_ShakeHands_isOne rfl (by decide) (Nat.le_of_ble_eq_true rfl) (Nat.le_of_ble_eq_true rfl) nr_I sx_0 (by decide) rfl (fun r1 M2 => ?_)
  refine j_if_eq (pc := 5) (tgt := 18) d_ShakeHands_saw_5 (by decide) (fun _ => ?_) (fun _ => ?_)
  · refine j_iconst (pc := 18) d_ShakeHands_saw_18 k_i_m1 ?_
    exact j_ireturn (pc := 19) d_ShakeHands_saw_19 rfl
  · refine j_iload_n (pc := 8) (q := 2) d_ShakeHands_saw_8 rfl rfl ?_
    refine j_if_lt (pc := 9) (tgt := 18) d_ShakeHands_saw_9 (by decide) (fun _ => ?_) (fun _ => ?_)
    · refine j_iconst (pc := 18) d_ShakeHands_saw_18 k_i_m1 ?_
      exact j_ireturn (pc := 19) d_ShakeHands_saw_19 rfl
    · refine j_iload_n (pc := 12) (q := 2) d_ShakeHands_saw_12 rfl rfl ?_
      refine j_ldc (pc := 13) (own := "ShakeHands") d_ShakeHands_saw_13 ct_ShakeHands_238 ?_
      refine j_icmp_lt (pc := 15) (tgt := 20) d_ShakeHands_saw_15 (by decide) (fun _ => ?_) (fun _ => ?_)
      · refine j_aload_n (pc := 20) (q := 0) d_ShakeHands_saw_20 rfl rfl ?_
        refine j_getA (pc := 21) d_ShakeHands_saw_21 fl_ShakeHands_35 sx_0 (by decide) rfl ?_
        refine j_dup (pc := 24) d_ShakeHands_saw_24 rfl ?_
        refine j_getI (pc := 25) d_ShakeHands_saw_25 fl_ShakeHands_104 sx_16 (by decide) rfl ?_
        refine j_iconst (pc := 28) d_ShakeHands_saw_28 k_i_1 ?_
        refine j_iload_n (pc := 29) (q := 1) d_ShakeHands_saw_29 rfl rfl ?_
        refine j_ishl (pc := 30) d_ShakeHands_saw_30 ?_
        refine j_ior (pc := 31) d_ShakeHands_saw_31 ?_
        refine j_putI (pc := 32) d_ShakeHands_saw_32 fl_ShakeHands_104 rfl sx_16 (by decide) rfl ?_
        refine j_aload_n (pc := 35) (q := 0) d_ShakeHands_saw_35 rfl rfl ?_
        refine j_getA (pc := 36) d_ShakeHands_saw_36 fl_ShakeHands_35 sx_0 (by decide) rfl ?_
        refine j_getA (pc := 39) d_ShakeHands_saw_39 fl_ShakeHands_239 sx_16 (by decide) rfl ?_
        refine j_iload_n (pc := 42) (q := 1) d_ShakeHands_saw_42 rfl rfl ?_
        refine j_iload_n (pc := 43) (q := 2) d_ShakeHands_saw_43 rfl rfl ?_
        refine j_iast (pc := 44) d_ShakeHands_saw_44 sx_18 (fun _ => ?_)
        refine j_aload_n (pc := 45) (q := 0) d_ShakeHands_saw_45 rfl rfl ?_
        refine j_getA (pc := 46) d_ShakeHands_saw_46 fl_ShakeHands_35 sx_0 (by decide) rfl ?_
        refine j_nmM (fun N3 => ?_)
        refine j_getI (pc := 49) d_ShakeHands_saw_49 fl_ShakeHands_104 sx_16 (by decide) rfl ?_
        refine j_callS1 (pc := 52) d_ShakeHands_saw_52 (C_Integer_bitCount n (N3.1 16 2) N3) cS_ShakeHands_125 cd_Integer_bitCount dn_Integer_bitCount rfl (by decide) (Nat.le_of_ble_eq_true rfl) (Nat.le_of_ble_eq_true rfl) nr_I (fun r4 M5 => ?_)
        exact j_ireturn (pc := 55) d_ShakeHands_saw_55 rfl
      · refine j_iconst (pc := 18) d_ShakeHands_saw_18 k_i_m1 ?_
        exact j_ireturn (pc := 19) d_ShakeHands_saw_19 rfl
-- ShakeHands.blind ()I
def mt_ShakeHands_blind : Mt := ("ShakeHands", b_ShakeHands_blind, 2, some .int, 3, SHx)
theorem d_ShakeHands_blind_0 : decode b_ShakeHands_blind 0 = .ok (.aload_n 0, 1) := by decide +kernel
theorem d_ShakeHands_blind_1 : decode b_ShakeHands_blind 1 = .ok (.getfield 35, 3) := by decide +kernel
theorem d_ShakeHands_blind_4 : decode b_ShakeHands_blind 4 = .ok (.getfield 104, 3) := by decide +kernel
theorem d_ShakeHands_blind_7 : decode b_ShakeHands_blind 7 = .ok (.invokestatic 125, 3) := by decide +kernel
theorem d_ShakeHands_blind_10 : decode b_ShakeHands_blind 10 = .ok (.istore_n 1, 1) := by decide +kernel
theorem d_ShakeHands_blind_11 : decode b_ShakeHands_blind 11 = .ok (.aload_n 0, 1) := by decide +kernel
theorem d_ShakeHands_blind_12 : decode b_ShakeHands_blind 12 = .ok (.getfield 35, 3) := by decide +kernel
theorem d_ShakeHands_blind_15 : decode b_ShakeHands_blind 15 = .ok (.iconst 0, 1) := by decide +kernel
theorem d_ShakeHands_blind_16 : decode b_ShakeHands_blind 16 = .ok (.putfield 104, 3) := by decide +kernel
theorem d_ShakeHands_blind_19 : decode b_ShakeHands_blind 19 = .ok (.iload_n 1, 1) := by decide +kernel
theorem d_ShakeHands_blind_20 : decode b_ShakeHands_blind 20 = .ok (.ireturn, 1) := by decide +kernel
def X_ShakeHands_blind (n : Nat) (M : Mem) : Option (Int32 × Mem) :=
  bd (X_Integer_bitCount n (M.1 16 2) M) fun r1 M2 =>
  some (r1, si M2 16 2 0)
set_option maxRecDepth 20000 in
set_option maxHeartbeats 4000000 in
theorem C_ShakeHands_blind (n : Nat)    (M : Mem) : Ct y_ShakeHands_blind mt_ShakeHands_blind wI [Value.ref 0] M (X_ShakeHands_blind n M) := by
  refine ct_of (by decide +kernel) rfl (Nat.le_of_ble_eq_true rfl) ?_
  show J _ _ _ [(0, Value.ref 0)] _ _ _
  unfold X_ShakeHands_blind
  refine j_aload_n (pc := 0) (q := 0) d_ShakeHands_blind_0 rfl rfl ?_
  refine j_getA (pc := 1) d_ShakeHands_blind_1 fl_ShakeHands_35 sx_0 (by decide) rfl ?_
  refine j_getI (pc := 4) d_ShakeHands_blind_4 fl_ShakeHands_104 sx_16 (by decide) rfl ?_
  refine j_callS1 (pc := 7) d_ShakeHands_blind_7 (C_Integer_bitCount n (M.1 16 2) M) cS_ShakeHands_125 cd_Integer_bitCount dn_Integer_bitCount rfl (by decide) (Nat.le_of_ble_eq_true rfl) (Nat.le_of_ble_eq_true rfl) nr_I (fun r1 M2 => ?_)
  refine j_istore_n (pc := 10) d_ShakeHands_blind_10 rfl (by decide) rfl ?_
  refine j_aload_n (pc := 11) (q := 1) d_ShakeHands_blind_11 rfl rfl ?_
  refine j_getA (pc := 12) d_ShakeHands_blind_12 fl_ShakeHands_35 sx_0 (by decide) rfl ?_
  refine j_iconst (pc := 15) d_ShakeHands_blind_15 k_i_0 ?_
  refine j_putI (pc := 16) d_ShakeHands_blind_16 fl_ShakeHands_104 rfl sx_16 (by decide) rfl ?_
  refine j_iload_n (pc := 19) (q := 0) d_ShakeHands_blind_19 rfl rfl ?_
  exact j_ireturn (pc := 20) d_ShakeHands_blind_20 rfl
-- ShakeHands.fits (II)I
def mt_ShakeHands_fits : Mt := ("ShakeHands", b_ShakeHands_fits, 3, some .int, 21, SHx)
theorem d_ShakeHands_fits_0 : decode b_ShakeHands_fits 0 = .ok (.iload_n 1, 1) := by decide +kernel
theorem d_ShakeHands_fits_1 : decode b_ShakeHands_fits 1 = .ok (.ifCond .lt 17, 3) := by decide +kernel
theorem d_ShakeHands_fits_4 : decode b_ShakeHands_fits 4 = .ok (.iload_n 1, 1) := by decide +kernel
theorem d_ShakeHands_fits_5 : decode b_ShakeHands_fits 5 = .ok (.iconst 4, 1) := by decide +kernel
theorem d_ShakeHands_fits_6 : decode b_ShakeHands_fits 6 = .ok (.if_icmp .gt 12, 3) := by decide +kernel
theorem d_ShakeHands_fits_9 : decode b_ShakeHands_fits 9 = .ok (.iload_n 2, 1) := by decide +kernel
theorem d_ShakeHands_fits_10 : decode b_ShakeHands_fits 10 = .ok (.ifCond .lt 8, 3) := by decide +kernel
theorem d_ShakeHands_fits_13 : decode b_ShakeHands_fits 13 = .ok (.iload_n 2, 1) := by decide +kernel
theorem d_ShakeHands_fits_14 : decode b_ShakeHands_fits 14 = .ok (.iconst 2, 1) := by decide +kernel
theorem d_ShakeHands_fits_15 : decode b_ShakeHands_fits 15 = .ok (.if_icmp .le 5, 3) := by decide +kernel
theorem d_ShakeHands_fits_18 : decode b_ShakeHands_fits 18 = .ok (.iconst (-1), 1) := by decide +kernel
theorem d_ShakeHands_fits_19 : decode b_ShakeHands_fits 19 = .ok (.ireturn, 1) := by decide +kernel
theorem d_ShakeHands_fits_20 : decode b_ShakeHands_fits 20 = .ok (.aload_n 0, 1) := by decide +kernel
theorem d_ShakeHands_fits_21 : decode b_ShakeHands_fits 21 = .ok (.getfield 48, 3) := by decide +kernel
theorem d_ShakeHands_fits_24 : decode b_ShakeHands_fits 24 = .ok (.invokevirtual 208, 3) := by decide +kernel
theorem d_ShakeHands_fits_27 : decode b_ShakeHands_fits 27 = .ok (.aload_n 0, 1) := by decide +kernel
theorem d_ShakeHands_fits_28 : decode b_ShakeHands_fits 28 = .ok (.getfield 48, 3) := by decide +kernel
theorem d_ShakeHands_fits_31 : decode b_ShakeHands_fits 31 = .ok (.iload_n 1, 1) := by decide +kernel
theorem d_ShakeHands_fits_32 : decode b_ShakeHands_fits 32 = .ok (.invokevirtual 242, 3) := by decide +kernel
theorem d_ShakeHands_fits_35 : decode b_ShakeHands_fits 35 = .ok (.iload_n 2, 1) := by decide +kernel
theorem d_ShakeHands_fits_36 : decode b_ShakeHands_fits 36 = .ok (.ifCond .ne 11, 3) := by decide +kernel
theorem d_ShakeHands_fits_39 : decode b_ShakeHands_fits 39 = .ok (.aload_n 0, 1) := by decide +kernel
theorem d_ShakeHands_fits_40 : decode b_ShakeHands_fits 40 = .ok (.getfield 48, 3) := by decide +kernel
theorem d_ShakeHands_fits_43 : decode b_ShakeHands_fits 43 = .ok (.getfield 246, 3) := by decide +kernel
theorem d_ShakeHands_fits_46 : decode b_ShakeHands_fits 46 = .ok (.ireturn, 1) := by decide +kernel
theorem d_ShakeHands_fits_47 : decode b_ShakeHands_fits 47 = .ok (.aload_n 0, 1) := by decide +kernel
theorem d_ShakeHands_fits_48 : decode b_ShakeHands_fits 48 = .ok (.getfield 48, 3) := by decide +kernel
theorem d_ShakeHands_fits_51 : decode b_ShakeHands_fits 51 = .ok (.getfield 246, 3) := by decide +kernel
theorem d_ShakeHands_fits_54 : decode b_ShakeHands_fits 54 = .ok (.ifCond .ne 6, 3) := by decide +kernel
theorem d_ShakeHands_fits_57 : decode b_ShakeHands_fits 57 = .ok (.bipush (-4), 2) := by decide +kernel
theorem d_ShakeHands_fits_59 : decode b_ShakeHands_fits 59 = .ok (.ireturn, 1) := by decide +kernel
theorem d_ShakeHands_fits_60 : decode b_ShakeHands_fits 60 = .ok (.iload_n 2, 1) := by decide +kernel
theorem d_ShakeHands_fits_61 : decode b_ShakeHands_fits 61 = .ok (.iconst 1, 1) := by decide +kernel
theorem d_ShakeHands_fits_62 : decode b_ShakeHands_fits 62 = .ok (.if_icmp .ne 13, 3) := by decide +kernel
theorem d_ShakeHands_fits_65 : decode b_ShakeHands_fits 65 = .ok (.aload_n 0, 1) := by decide +kernel
theorem d_ShakeHands_fits_66 : decode b_ShakeHands_fits 66 = .ok (.getfield 48, 3) := by decide +kernel
theorem d_ShakeHands_fits_69 : decode b_ShakeHands_fits 69 = .ok (.getfield 249, 3) := by decide +kernel
theorem d_ShakeHands_fits_72 : decode b_ShakeHands_fits 72 = .ok (.goto 10, 3) := by decide +kernel
theorem d_ShakeHands_fits_75 : decode b_ShakeHands_fits 75 = .ok (.aload_n 0, 1) := by decide +kernel
theorem d_ShakeHands_fits_76 : decode b_ShakeHands_fits 76 = .ok (.getfield 48, 3) := by decide +kernel
theorem d_ShakeHands_fits_79 : decode b_ShakeHands_fits 79 = .ok (.getfield 252, 3) := by decide +kernel
theorem d_ShakeHands_fits_82 : decode b_ShakeHands_fits 82 = .ok (.ireturn, 1) := by decide +kernel
def X_ShakeHands_fits (n : Nat) (p1 : Int32) (p2 : Int32) (M : Mem) : Option (Int32 × Mem) :=
  (if p1 < 0 then
    some ((-1), M)
    else
    (if 4 < p1 then
      some ((-1), M)
      else
      (if p2 < 0 then
        some ((-1), M)
        else
        (if p2 ≤ 2 then
          bd (X_Search_begin n M) fun _ M2 =>
          bd (X_Search_countFits n p1 M2) fun _ M4 =>
          (if p2 = 0 then
            some ((M4.1 26 2), M4)
            else
            (if (M4.1 26 2) = 0 then
              some ((-4), M4)
              else
              (if p2 = 1 then
                some ((M4.1 26 3), M4)
                else
                some ((M4.1 26 4), M4))))
          else
          some ((-1), M)))))
set_option maxRecDepth 20000 in
set_option maxHeartbeats 4000000 in
theorem C_ShakeHands_fits (n : Nat)   (p1 : Int32) (p2 : Int32) (M : Mem) : Ct y_ShakeHands_fits mt_ShakeHands_fits wI [Value.ref 0, Value.int p1, Value.int p2] M (X_ShakeHands_fits n p1 p2 M) := by
  refine ct_of (by decide +kernel) rfl (Nat.le_of_ble_eq_true rfl) ?_
  show J _ _ _ [(0, Value.ref 0), (1, Value.int p1), (2, Value.int p2)] _ _ _
  unfold X_ShakeHands_fits
  refine j_iload_n (pc := 0) (q := 1) d_ShakeHands_fits_0 rfl rfl ?_
  refine j_if_lt (pc := 1) (tgt := 18) d_ShakeHands_fits_1 (by decide) (fun _ => ?_) (fun _ => ?_)
  · refine j_iconst (pc := 18) d_ShakeHands_fits_18 k_i_m1 ?_
    exact j_ireturn (pc := 19) d_ShakeHands_fits_19 rfl
  · refine j_iload_n (pc := 4) (q := 1) d_ShakeHands_fits_4 rfl rfl ?_
    refine j_iconst (pc := 5) d_ShakeHands_fits_5 k_i_4 ?_
    refine j_icmp_gt (pc := 6) (tgt := 18) d_ShakeHands_fits_6 (by decide) (fun _ => ?_) (fun _ => ?_)
    · refine j_iconst (pc := 18) d_ShakeHands_fits_18 k_i_m1 ?_
      exact j_ireturn (pc := 19) d_ShakeHands_fits_19 rfl
    · refine j_iload_n (pc := 9) (q := 2) d_ShakeHands_fits_9 rfl rfl ?_
      refine j_if_lt (pc := 10) (tgt := 18) d_ShakeHands_fits_10 (by decide) (fun _ => ?_) (fun _ => ?_)
      · refine j_iconst (pc := 18) d_ShakeHands_fits_18 k_i_m1 ?_
        exact j_ireturn (pc := 19) d_ShakeHands_fits_19 rfl
      · refine j_iload_n (pc := 13) (q := 2) d_ShakeHands_fits_13 rfl rfl ?_
        refine j_iconst (pc := 14) d_ShakeHands_fits_14 k_i_2 ?_
        refine j_icmp_le (pc := 15) (tgt := 20) d_ShakeHands_fits_15 (by decide) (fun _ => ?_) (fun _ => ?_)
        · refine j_aload_n (pc := 20) (q := 0) d_ShakeHands_fits_20 rfl rfl ?_
          refine j_getA (pc := 21) d_ShakeHands_fits_21 fl_ShakeHands_48 sx_0 (by decide) rfl ?_
          refine j_callV0 (pc := 24) d_ShakeHands_fits_24 (C_Search_begin n M) cV_ShakeHands_208 cd_Search_begin dn_Search_begin rfl (by decide) (Nat.le_of_ble_eq_true rfl) (Nat.le_of_ble_eq_true rfl) nr_U sx_26 (by decide) rfl (fun r1 M2 => ?_)
          refine j_aload_n (pc := 27) (q := 0) d_ShakeHands_fits_27 rfl rfl ?_
          refine j_getA (pc := 28) d_ShakeHands_fits_28 fl_ShakeHands_48 sx_0 (by decide) rfl ?_
          refine j_iload_n (pc := 31) (q := 1) d_ShakeHands_fits_31 rfl rfl ?_
          refine j_callV1 (pc := 32) d_ShakeHands_fits_32 (C_Search_countFits n p1 M2) cV_ShakeHands_242 cd_Search_countFits dn_Search_countFits rfl (by decide) (Nat.le_of_ble_eq_true rfl) (Nat.le_of_ble_eq_true rfl) nr_U sx_26 (by decide) rfl (fun r3 M4 => ?_)
          refine j_iload_n (pc := 35) (q := 2) d_ShakeHands_fits_35 rfl rfl ?_
          refine j_if_ne (pc := 36) (tgt := 47) d_ShakeHands_fits_36 (by decide) (fun _ => ?_) (fun _ => ?_)
          · refine j_aload_n (pc := 47) (q := 0) d_ShakeHands_fits_47 rfl rfl ?_
            refine j_getA (pc := 48) d_ShakeHands_fits_48 fl_ShakeHands_48 sx_0 (by decide) rfl ?_
            refine j_getI (pc := 51) d_ShakeHands_fits_51 fl_ShakeHands_246 sx_26 (by decide) rfl ?_
            refine j_if_ne (pc := 54) (tgt := 60) d_ShakeHands_fits_54 (by decide) (fun _ => ?_) (fun _ => ?_)
            · refine j_iload_n (pc := 60) (q := 2) d_ShakeHands_fits_60 rfl rfl ?_
              refine j_iconst (pc := 61) d_ShakeHands_fits_61 k_i_1 ?_
              refine j_icmp_ne (pc := 62) (tgt := 75) d_ShakeHands_fits_62 (by decide) (fun _ => ?_) (fun _ => ?_)
              · refine j_aload_n (pc := 75) (q := 0) d_ShakeHands_fits_75 rfl rfl ?_
                refine j_getA (pc := 76) d_ShakeHands_fits_76 fl_ShakeHands_48 sx_0 (by decide) rfl ?_
                refine j_getI (pc := 79) d_ShakeHands_fits_79 fl_ShakeHands_252 sx_26 (by decide) rfl ?_
                exact j_ireturn (pc := 82) d_ShakeHands_fits_82 rfl
              · refine j_aload_n (pc := 65) (q := 0) d_ShakeHands_fits_65 rfl rfl ?_
                refine j_getA (pc := 66) d_ShakeHands_fits_66 fl_ShakeHands_48 sx_0 (by decide) rfl ?_
                refine j_getI (pc := 69) d_ShakeHands_fits_69 fl_ShakeHands_249 sx_26 (by decide) rfl ?_
                refine j_goto (pc := 72) (tgt := 82) d_ShakeHands_fits_72 (by decide) ?_
                exact j_ireturn (pc := 82) d_ShakeHands_fits_82 rfl
            · refine j_bipush (pc := 57) d_ShakeHands_fits_57 k_b_m4 ?_
              exact j_ireturn (pc := 59) d_ShakeHands_fits_59 rfl
          · refine j_aload_n (pc := 39) (q := 0) d_ShakeHands_fits_39 rfl rfl ?_
            refine j_getA (pc := 40) d_ShakeHands_fits_40 fl_ShakeHands_48 sx_0 (by decide) rfl ?_
            refine j_getI (pc := 43) d_ShakeHands_fits_43 fl_ShakeHands_246 sx_26 (by decide) rfl ?_
            exact j_ireturn (pc := 46) d_ShakeHands_fits_46 rfl
        · refine j_iconst (pc := 18) d_ShakeHands_fits_18 k_i_m1 ?_
          exact j_ireturn (pc := 19) d_ShakeHands_fits_19 rfl
-- ShakeHands.least ()I
def mt_ShakeHands_least : Mt := ("ShakeHands", b_ShakeHands_least, 2, some .int, 21, SHx)
theorem d_ShakeHands_least_0 : decode b_ShakeHands_least 0 = .ok (.aload_n 0, 1) := by decide +kernel
theorem d_ShakeHands_least_1 : decode b_ShakeHands_least 1 = .ok (.getfield 48, 3) := by decide +kernel
theorem d_ShakeHands_least_4 : decode b_ShakeHands_least 4 = .ok (.invokevirtual 208, 3) := by decide +kernel
theorem d_ShakeHands_least_7 : decode b_ShakeHands_least 7 = .ok (.iconst 0, 1) := by decide +kernel
theorem d_ShakeHands_least_8 : decode b_ShakeHands_least 8 = .ok (.istore_n 1, 1) := by decide +kernel
theorem d_ShakeHands_least_9 : decode b_ShakeHands_least 9 = .ok (.iload_n 1, 1) := by decide +kernel
theorem d_ShakeHands_least_10 : decode b_ShakeHands_least 10 = .ok (.iconst 4, 1) := by decide +kernel
theorem d_ShakeHands_least_11 : decode b_ShakeHands_least 11 = .ok (.if_icmp .gt 29, 3) := by decide +kernel
theorem d_ShakeHands_least_14 : decode b_ShakeHands_least 14 = .ok (.aload_n 0, 1) := by decide +kernel
theorem d_ShakeHands_least_15 : decode b_ShakeHands_least 15 = .ok (.getfield 48, 3) := by decide +kernel
theorem d_ShakeHands_least_18 : decode b_ShakeHands_least 18 = .ok (.iload_n 1, 1) := by decide +kernel
theorem d_ShakeHands_least_19 : decode b_ShakeHands_least 19 = .ok (.invokevirtual 242, 3) := by decide +kernel
theorem d_ShakeHands_least_22 : decode b_ShakeHands_least 22 = .ok (.aload_n 0, 1) := by decide +kernel
theorem d_ShakeHands_least_23 : decode b_ShakeHands_least 23 = .ok (.getfield 48, 3) := by decide +kernel
theorem d_ShakeHands_least_26 : decode b_ShakeHands_least 26 = .ok (.getfield 246, 3) := by decide +kernel
theorem d_ShakeHands_least_29 : decode b_ShakeHands_least 29 = .ok (.ifCond .le 5, 3) := by decide +kernel
theorem d_ShakeHands_least_32 : decode b_ShakeHands_least 32 = .ok (.iload_n 1, 1) := by decide +kernel
theorem d_ShakeHands_least_33 : decode b_ShakeHands_least 33 = .ok (.ireturn, 1) := by decide +kernel
theorem d_ShakeHands_least_34 : decode b_ShakeHands_least 34 = .ok (.iinc 1 1, 3) := by decide +kernel
theorem d_ShakeHands_least_37 : decode b_ShakeHands_least 37 = .ok (.goto (-28), 3) := by decide +kernel
theorem d_ShakeHands_least_40 : decode b_ShakeHands_least 40 = .ok (.bipush (-4), 2) := by decide +kernel
theorem d_ShakeHands_least_42 : decode b_ShakeHands_least 42 = .ok (.ireturn, 1) := by decide +kernel
def X_ShakeHands_least_L9 (n : Nat) : Nat → Int32 → Mem → Option (Int32 × Mem)
    | 0, _, _ => none
    | m + 1, v1, M => (if 4 < v1 then
    some ((-4), M)
    else
    bd (X_Search_countFits n v1 M) fun _ M4 =>
    (if (M4.1 26 2) ≤ 0 then
      X_ShakeHands_least_L9 n m (v1 + 1) M4
      else
      some (v1, M4)))
def X_ShakeHands_least (n : Nat) (M : Mem) : Option (Int32 × Mem) :=
  bd (X_Search_begin n M) fun _ M2 =>
  X_ShakeHands_least_L9 n n 0 M2
set_option maxRecDepth 20000 in
set_option maxHeartbeats 4000000 in
theorem X_ShakeHands_least_L9_ok {n : Nat} : ∀ (m : Nat) (v1 : Int32) (M : Mem), J (mt_ShakeHands_least) wI 9 [(0, Value.ref 0), (1, Value.int v1)] [] M (X_ShakeHands_least_L9 n m v1 M) := by
  intro m
  induction m with
  | zero => intro _ _; exact j_none
  | succ m ih =>
    intro v1 M
    show J _ _ _ _ _ _ ((if 4 < v1 then
some ((-4), M)
else
bd (X_Search_countFits n v1 M) fun _ M4 =>
(if (M4.1 26 2) ≤ 0 then
X_ShakeHands_least_L9 n m (v1 + 1) M4
else
some (v1, M4))))
    refine j_iload_n (pc := 9) (q := 1) d_ShakeHands_least_9 rfl rfl ?_
    refine j_iconst (pc := 10) d_ShakeHands_least_10 k_i_4 ?_
    refine j_icmp_gt (pc := 11) (tgt := 40) d_ShakeHands_least_11 (by decide) (fun _ => ?_) (fun _ => ?_)
    · refine j_bipush (pc := 40) d_ShakeHands_least_40 k_b_m4 ?_
      exact j_ireturn (pc := 42) d_ShakeHands_least_42 rfl
    · refine j_aload_n (pc := 14) (q := 0) d_ShakeHands_least_14 rfl rfl ?_
      refine j_getA (pc := 15) d_ShakeHands_least_15 fl_ShakeHands_48 sx_0 (by decide) rfl ?_
      refine j_iload_n (pc := 18) (q := 1) d_ShakeHands_least_18 rfl rfl ?_
      refine j_callV1 (pc := 19) d_ShakeHands_least_19 (C_Search_countFits n v1 M) cV_ShakeHands_242 cd_Search_countFits dn_Search_countFits rfl (by decide) (Nat.le_of_ble_eq_true rfl) (Nat.le_of_ble_eq_true rfl) nr_U sx_26 (by decide) rfl (fun r3 M4 => ?_)
      refine j_aload_n (pc := 22) (q := 0) d_ShakeHands_least_22 rfl rfl ?_
      refine j_getA (pc := 23) d_ShakeHands_least_23 fl_ShakeHands_48 sx_0 (by decide) rfl ?_
      refine j_getI (pc := 26) d_ShakeHands_least_26 fl_ShakeHands_246 sx_26 (by decide) rfl ?_
      refine j_if_le (pc := 29) (tgt := 34) d_ShakeHands_least_29 (by decide) (fun _ => ?_) (fun _ => ?_)
      · refine j_iinc (pc := 34) (q := 1) d_ShakeHands_least_34 rfl (congrArg (v1 + ·) k_i_1) (by decide) rfl ?_
        refine j_goto (pc := 37) (tgt := 9) d_ShakeHands_least_37 (by decide) ?_
        refine j_lv [1, 0] rfl ?_
        exact ih (v1 + 1) M4
      · refine j_iload_n (pc := 32) (q := 1) d_ShakeHands_least_32 rfl rfl ?_
        exact j_ireturn (pc := 33) d_ShakeHands_least_33 rfl
set_option maxRecDepth 20000 in
set_option maxHeartbeats 4000000 in
theorem C_ShakeHands_least (n : Nat)    (M : Mem) : Ct y_ShakeHands_least mt_ShakeHands_least wI [Value.ref 0] M (X_ShakeHands_least n M) := by
  refine ct_of (by decide +kernel) rfl (Nat.le_of_ble_eq_true rfl) ?_
  show J _ _ _ [(0, Value.ref 0)] _ _ _
  unfold X_ShakeHands_least
  refine j_aload_n (pc := 0) (q := 0) d_ShakeHands_least_0 rfl rfl ?_
  refine j_getA (pc := 1) d_ShakeHands_least_1 fl_ShakeHands_48 sx_0 (by decide) rfl ?_
  refine j_callV0 (pc := 4) d_ShakeHands_least_4 (C_Search_begin n M) cV_ShakeHands_208 cd_Search_begin dn_Search_begin rfl (by decide) (Nat.le_of_ble_eq_true rfl) (Nat.le_of_ble_eq_true rfl) nr_U sx_26 (by decide) rfl (fun r1 M2 => ?_)
  refine j_iconst (pc := 7) d_ShakeHands_least_7 k_i_0 ?_
  refine j_istore_n (pc := 8) d_ShakeHands_least_8 rfl (by decide) rfl ?_
  refine j_lv [1, 0] rfl ?_
  exact X_ShakeHands_least_L9_ok   n 0 M2
-- ShakeHands.seats (III)I
def mt_ShakeHands_seats : Mt := ("ShakeHands", b_ShakeHands_seats, 6, some .int, 21, SHx)
theorem d_ShakeHands_seats_0 : decode b_ShakeHands_seats 0 = .ok (.iload_n 3, 1) := by decide +kernel
theorem d_ShakeHands_seats_1 : decode b_ShakeHands_seats 1 = .ok (.bipush 10, 2) := by decide +kernel
theorem d_ShakeHands_seats_3 : decode b_ShakeHands_seats 3 = .ok (.if_icmp .lt 21, 3) := by decide +kernel
theorem d_ShakeHands_seats_6 : decode b_ShakeHands_seats 6 = .ok (.iload_n 3, 1) := by decide +kernel
theorem d_ShakeHands_seats_7 : decode b_ShakeHands_seats 7 = .ok (.bipush 10, 2) := by decide +kernel
theorem d_ShakeHands_seats_9 : decode b_ShakeHands_seats 9 = .ok (.aload_n 0, 1) := by decide +kernel
theorem d_ShakeHands_seats_10 : decode b_ShakeHands_seats 10 = .ok (.getfield 28, 3) := by decide +kernel
theorem d_ShakeHands_seats_13 : decode b_ShakeHands_seats 13 = .ok (.getfield 110, 3) := by decide +kernel
theorem d_ShakeHands_seats_16 : decode b_ShakeHands_seats 16 = .ok (.iadd, 1) := by decide +kernel
theorem d_ShakeHands_seats_17 : decode b_ShakeHands_seats 17 = .ok (.if_icmp .ge 7, 3) := by decide +kernel
theorem d_ShakeHands_seats_20 : decode b_ShakeHands_seats 20 = .ok (.iconst 1, 1) := by decide +kernel
theorem d_ShakeHands_seats_21 : decode b_ShakeHands_seats 21 = .ok (.goto 4, 3) := by decide +kernel
theorem d_ShakeHands_seats_24 : decode b_ShakeHands_seats 24 = .ok (.iconst 0, 1) := by decide +kernel
theorem d_ShakeHands_seats_25 : decode b_ShakeHands_seats 25 = .ok (.istore 4, 2) := by decide +kernel
theorem d_ShakeHands_seats_27 : decode b_ShakeHands_seats 27 = .ok (.iload_n 1, 1) := by decide +kernel
theorem d_ShakeHands_seats_28 : decode b_ShakeHands_seats 28 = .ok (.invokestatic 158, 3) := by decide +kernel
theorem d_ShakeHands_seats_31 : decode b_ShakeHands_seats 31 = .ok (.ifCond .eq 20, 3) := by decide +kernel
theorem d_ShakeHands_seats_34 : decode b_ShakeHands_seats 34 = .ok (.aload_n 0, 1) := by decide +kernel
theorem d_ShakeHands_seats_35 : decode b_ShakeHands_seats 35 = .ok (.iload_n 2, 1) := by decide +kernel
theorem d_ShakeHands_seats_36 : decode b_ShakeHands_seats 36 = .ok (.invokevirtual 141, 3) := by decide +kernel
theorem d_ShakeHands_seats_39 : decode b_ShakeHands_seats 39 = .ok (.ifCond .eq 12, 3) := by decide +kernel
theorem d_ShakeHands_seats_42 : decode b_ShakeHands_seats 42 = .ok (.iload_n 3, 1) := by decide +kernel
theorem d_ShakeHands_seats_43 : decode b_ShakeHands_seats 43 = .ok (.ifCond .eq 10, 3) := by decide +kernel
theorem d_ShakeHands_seats_46 : decode b_ShakeHands_seats 46 = .ok (.iload 4, 2) := by decide +kernel
theorem d_ShakeHands_seats_48 : decode b_ShakeHands_seats 48 = .ok (.ifCond .ne 5, 3) := by decide +kernel
theorem d_ShakeHands_seats_51 : decode b_ShakeHands_seats 51 = .ok (.iconst (-1), 1) := by decide +kernel
theorem d_ShakeHands_seats_52 : decode b_ShakeHands_seats 52 = .ok (.ireturn, 1) := by decide +kernel
theorem d_ShakeHands_seats_53 : decode b_ShakeHands_seats 53 = .ok (.aload_n 0, 1) := by decide +kernel
theorem d_ShakeHands_seats_54 : decode b_ShakeHands_seats 54 = .ok (.iload_n 2, 1) := by decide +kernel
theorem d_ShakeHands_seats_55 : decode b_ShakeHands_seats 55 = .ok (.iload_n 1, 1) := by decide +kernel
theorem d_ShakeHands_seats_56 : decode b_ShakeHands_seats 56 = .ok (.invokevirtual 165, 3) := by decide +kernel
theorem d_ShakeHands_seats_59 : decode b_ShakeHands_seats 59 = .ok (.ifCond .eq 6, 3) := by decide +kernel
theorem d_ShakeHands_seats_62 : decode b_ShakeHands_seats 62 = .ok (.bipush (-2), 2) := by decide +kernel
theorem d_ShakeHands_seats_64 : decode b_ShakeHands_seats 64 = .ok (.ireturn, 1) := by decide +kernel
theorem d_ShakeHands_seats_65 : decode b_ShakeHands_seats 65 = .ok (.aload_n 0, 1) := by decide +kernel
theorem d_ShakeHands_seats_66 : decode b_ShakeHands_seats 66 = .ok (.invokevirtual 224, 3) := by decide +kernel
theorem d_ShakeHands_seats_69 : decode b_ShakeHands_seats 69 = .ok (.aload_n 0, 1) := by decide +kernel
theorem d_ShakeHands_seats_70 : decode b_ShakeHands_seats 70 = .ok (.getfield 35, 3) := by decide +kernel
theorem d_ShakeHands_seats_73 : decode b_ShakeHands_seats 73 = .ok (.getfield 93, 3) := by decide +kernel
theorem d_ShakeHands_seats_76 : decode b_ShakeHands_seats 76 = .ok (.iload_n 1, 1) := by decide +kernel
theorem d_ShakeHands_seats_77 : decode b_ShakeHands_seats 77 = .ok (.invokestatic 161, 3) := by decide +kernel
theorem d_ShakeHands_seats_80 : decode b_ShakeHands_seats 80 = .ok (.iconst (-1), 1) := by decide +kernel
theorem d_ShakeHands_seats_81 : decode b_ShakeHands_seats 81 = .ok (.ixor, 1) := by decide +kernel
theorem d_ShakeHands_seats_82 : decode b_ShakeHands_seats 82 = .ok (.iand, 1) := by decide +kernel
theorem d_ShakeHands_seats_83 : decode b_ShakeHands_seats 83 = .ok (.istore 5, 2) := by decide +kernel
theorem d_ShakeHands_seats_85 : decode b_ShakeHands_seats 85 = .ok (.aload_n 0, 1) := by decide +kernel
theorem d_ShakeHands_seats_86 : decode b_ShakeHands_seats 86 = .ok (.getfield 48, 3) := by decide +kernel
theorem d_ShakeHands_seats_89 : decode b_ShakeHands_seats 89 = .ok (.invokevirtual 208, 3) := by decide +kernel
theorem d_ShakeHands_seats_92 : decode b_ShakeHands_seats 92 = .ok (.aload_n 0, 1) := by decide +kernel
theorem d_ShakeHands_seats_93 : decode b_ShakeHands_seats 93 = .ok (.getfield 48, 3) := by decide +kernel
theorem d_ShakeHands_seats_96 : decode b_ShakeHands_seats 96 = .ok (.iload_n 1, 1) := by decide +kernel
theorem d_ShakeHands_seats_97 : decode b_ShakeHands_seats 97 = .ok (.iconst 1, 1) := by decide +kernel
theorem d_ShakeHands_seats_98 : decode b_ShakeHands_seats 98 = .ok (.iload_n 2, 1) := by decide +kernel
theorem d_ShakeHands_seats_99 : decode b_ShakeHands_seats 99 = .ok (.ishl, 1) := by decide +kernel
theorem d_ShakeHands_seats_100 : decode b_ShakeHands_seats 100 = .ok (.iload 5, 2) := by decide +kernel
theorem d_ShakeHands_seats_102 : decode b_ShakeHands_seats 102 = .ok (.iconst 1, 1) := by decide +kernel
theorem d_ShakeHands_seats_103 : decode b_ShakeHands_seats 103 = .ok (.iload_n 2, 1) := by decide +kernel
theorem d_ShakeHands_seats_104 : decode b_ShakeHands_seats 104 = .ok (.ishl, 1) := by decide +kernel
theorem d_ShakeHands_seats_105 : decode b_ShakeHands_seats 105 = .ok (.iconst (-1), 1) := by decide +kernel
theorem d_ShakeHands_seats_106 : decode b_ShakeHands_seats 106 = .ok (.ixor, 1) := by decide +kernel
theorem d_ShakeHands_seats_107 : decode b_ShakeHands_seats 107 = .ok (.iand, 1) := by decide +kernel
theorem d_ShakeHands_seats_108 : decode b_ShakeHands_seats 108 = .ok (.iconst 0, 1) := by decide +kernel
theorem d_ShakeHands_seats_109 : decode b_ShakeHands_seats 109 = .ok (.invokevirtual 211, 3) := by decide +kernel
theorem d_ShakeHands_seats_112 : decode b_ShakeHands_seats 112 = .ok (.aload_n 0, 1) := by decide +kernel
theorem d_ShakeHands_seats_113 : decode b_ShakeHands_seats 113 = .ok (.getfield 48, 3) := by decide +kernel
theorem d_ShakeHands_seats_116 : decode b_ShakeHands_seats 116 = .ok (.invokevirtual 255, 3) := by decide +kernel
theorem d_ShakeHands_seats_119 : decode b_ShakeHands_seats 119 = .ok (.iload 4, 2) := by decide +kernel
theorem d_ShakeHands_seats_121 : decode b_ShakeHands_seats 121 = .ok (.ifCond .ne 11, 3) := by decide +kernel
theorem d_ShakeHands_seats_124 : decode b_ShakeHands_seats 124 = .ok (.aload_n 0, 1) := by decide +kernel
theorem d_ShakeHands_seats_125 : decode b_ShakeHands_seats 125 = .ok (.getfield 48, 3) := by decide +kernel
theorem d_ShakeHands_seats_128 : decode b_ShakeHands_seats 128 = .ok (.getfield 246, 3) := by decide +kernel
theorem d_ShakeHands_seats_131 : decode b_ShakeHands_seats 131 = .ok (.ireturn, 1) := by decide +kernel
theorem d_ShakeHands_seats_132 : decode b_ShakeHands_seats 132 = .ok (.aload_n 0, 1) := by decide +kernel
theorem d_ShakeHands_seats_133 : decode b_ShakeHands_seats 133 = .ok (.getfield 48, 3) := by decide +kernel
theorem d_ShakeHands_seats_136 : decode b_ShakeHands_seats 136 = .ok (.getfield 246, 3) := by decide +kernel
theorem d_ShakeHands_seats_139 : decode b_ShakeHands_seats 139 = .ok (.ifCond .ne 8, 3) := by decide +kernel
theorem d_ShakeHands_seats_142 : decode b_ShakeHands_seats 142 = .ok (.bipush (-4), 2) := by decide +kernel
theorem d_ShakeHands_seats_144 : decode b_ShakeHands_seats 144 = .ok (.goto 15, 3) := by decide +kernel
theorem d_ShakeHands_seats_147 : decode b_ShakeHands_seats 147 = .ok (.aload_n 0, 1) := by decide +kernel
theorem d_ShakeHands_seats_148 : decode b_ShakeHands_seats 148 = .ok (.getfield 48, 3) := by decide +kernel
theorem d_ShakeHands_seats_151 : decode b_ShakeHands_seats 151 = .ok (.getfield 258, 3) := by decide +kernel
theorem d_ShakeHands_seats_154 : decode b_ShakeHands_seats 154 = .ok (.iload_n 3, 1) := by decide +kernel
theorem d_ShakeHands_seats_155 : decode b_ShakeHands_seats 155 = .ok (.bipush 10, 2) := by decide +kernel
theorem d_ShakeHands_seats_157 : decode b_ShakeHands_seats 157 = .ok (.isub, 1) := by decide +kernel
theorem d_ShakeHands_seats_158 : decode b_ShakeHands_seats 158 = .ok (.iaload, 1) := by decide +kernel
theorem d_ShakeHands_seats_159 : decode b_ShakeHands_seats 159 = .ok (.ireturn, 1) := by decide +kernel
def X_ShakeHands_seats (n : Nat) (p1 : Int32) (p2 : Int32) (p3 : Int32) (M : Mem) : Option (Int32 × Mem) :=
  nm (fun (u1 : Int32) => (bd (X_ShakeHands_isThing n p1 M) fun r2 M3 =>
      (if r2 = 0 then
        some ((-1), M3)
        else
        bd (X_ShakeHands_isOne n p2 M3) fun r4 M5 =>
        (if r4 = 0 then
          some ((-1), M5)
          else
          nm (bd (X_ShakeHands_knowsNow n p2 p1 M5) fun r6 M7 =>
            (if r6 = 0 then
              bd (X_ShakeHands_everybody n M7) fun r8 M9 =>
              bd (X_Minds_knowers n 17 p1 M9) fun r10 M11 =>
              nm (r8 &&& (r10 ^^^ (-1))) fun x12 =>
              bd (X_Search_begin n M11) fun _ M14 =>
              bd (X_Search_aim n p1 ((1 : Int32) <<< (p2 &&& 31)) (x12 &&& (((1 : Int32) <<< (p2 &&& 31)) ^^^ (-1))) 0 M14) fun _ M16 =>
              bd (X_Search_countSeats n M16) fun _ M18 =>
              (if u1 = 0 then
                some ((M18.1 26 2), M18)
                else
                (if (M18.1 26 2) = 0 then
                  some ((-4), M18)
                  else
                  gd (p3 - 10) 6 (
                    some ((M18.1 28 (p3 - 10).toNatClampNeg), M18))))
              else
              some ((-2), M7)) : Option (Int32 × Mem)) fun k53 =>
          (if p3 = 0 then
            k53
            else
            (if u1 = 0 then
              some ((-1), M5)
              else
              k53)))) : Option (Int32 × Mem))) fun k25 =>
  (if p3 < 10 then
    k25 0
    else
    (if ((10 : Int32) + (M.1 11 0)) ≤ p3 then
      k25 0
      else
      k25 1))
set_option maxRecDepth 20000 in
set_option maxHeartbeats 4000000 in
theorem C_ShakeHands_seats (n : Nat)   (p1 : Int32) (p2 : Int32) (p3 : Int32) (M : Mem) : Ct y_ShakeHands_seats mt_ShakeHands_seats wI [Value.ref 0, Value.int p1, Value.int p2, Value.int p3] M (X_ShakeHands_seats n p1 p2 p3 M) := by
  refine ct_of (by decide +kernel) rfl (Nat.le_of_ble_eq_true rfl) ?_
  show J _ _ _ [(0, Value.ref 0), (1, Value.int p1), (2, Value.int p2), (3, Value.int p3)] _ _ _
  unfold X_ShakeHands_seats
  refine j_iload_n (pc := 0) (q := 3) d_ShakeHands_seats_0 rfl rfl ?_
  refine j_bipush (pc := 1) d_ShakeHands_seats_1 k_b_10 ?_
  refine j_nmk (fun k => ∀ (u1 : Int32), J (mt_ShakeHands_seats) wI 25 [(0, Value.ref 0), (1, Value.int p1), (2, Value.int p2), (3, Value.int p3)] [Value.int u1] M (k u1)) (fun u1 => ?_) (fun k25 hk25 => ?_)
  · refine j_istore (pc := 25) d_ShakeHands_seats_25 (by decide) rfl ?_
    refine j_iload_n (pc := 27) (q := 2) d_ShakeHands_seats_27 rfl rfl ?_
    refine j_callS1 (pc := 28) d_ShakeHands_seats_28 (C_ShakeHands_isThing n p1 M) cS_ShakeHands_158 cd_ShakeHands_isThing dn_ShakeHands_isThing rfl (by decide) (Nat.le_of_ble_eq_true rfl) (Nat.le_of_ble_eq_true rfl) nr_I (fun r2 M3 => ?_)
    refine j_if_eq (pc := 31) (tgt := 51) d_ShakeHands_seats_31 (by decide) (fun _ => ?_) (fun _ => ?_)
    · refine j_iconst (pc := 51) d_ShakeHands_seats_51 k_i_m1 ?_
      exact j_ireturn (pc := 52) d_ShakeHands_seats_52 rfl
    · refine j_aload_n (pc := 34) (q := 1) d_ShakeHands_seats_34 rfl rfl ?_
      refine j_iload_n (pc := 35) (q := 3) d_ShakeHands_seats_35 rfl rfl ?_
      refine j_callV1 (pc := 36) d_ShakeHands_seats_36 (C_ShakeHands_isOne n p2 M3) cV_ShakeHands_141 cd_ShakeHands_isOne dn_ShakeHands_isOne rfl (by decide) (Nat.le_of_ble_eq_true rfl) (Nat.le_of_ble_eq_true rfl) nr_I sx_0 (by decide) rfl (fun r4 M5 => ?_)
      refine j_if_eq (pc := 39) (tgt := 51) d_ShakeHands_seats_39 (by decide) (fun _ => ?_) (fun _ => ?_)
      · refine j_iconst (pc := 51) d_ShakeHands_seats_51 k_i_m1 ?_
        exact j_ireturn (pc := 52) d_ShakeHands_seats_52 rfl
      · refine j_iload_n (pc := 42) (q := 4) d_ShakeHands_seats_42 rfl rfl ?_
        refine j_nmk (fun k => J (mt_ShakeHands_seats) wI 53 [(0, Value.ref 0), (1, Value.int p1), (2, Value.int p2), (3, Value.int p3), (4, Value.int u1)] [] M5 k) (?_) (fun k53 hk53 => ?_)
        · refine j_aload_n (pc := 53) (q := 0) d_ShakeHands_seats_53 rfl rfl ?_
          refine j_iload_n (pc := 54) (q := 2) d_ShakeHands_seats_54 rfl rfl ?_
          refine j_iload_n (pc := 55) (q := 1) d_ShakeHands_seats_55 rfl rfl ?_
          refine j_callV2 (pc := 56) d_ShakeHands_seats_56 (C_ShakeHands_knowsNow n p2 p1 M5) cV_ShakeHands_165 cd_ShakeHands_knowsNow dn_ShakeHands_knowsNow rfl (by decide) (Nat.le_of_ble_eq_true rfl) (Nat.le_of_ble_eq_true rfl) nr_I sx_0 (by decide) rfl (fun r6 M7 => ?_)
          refine j_if_eq (pc := 59) (tgt := 65) d_ShakeHands_seats_59 (by decide) (fun _ => ?_) (fun _ => ?_)
          · refine j_aload_n (pc := 65) (q := 0) d_ShakeHands_seats_65 rfl rfl ?_
            refine j_callV0 (pc := 66) d_ShakeHands_seats_66 (C_ShakeHands_everybody n M7) cV_ShakeHands_224 cd_ShakeHands_everybody dn_ShakeHands_everybody rfl (by decide) (Nat.le_of_ble_eq_true rfl) (Nat.le_of_ble_eq_true rfl) nr_I sx_0 (by decide) rfl (fun r8 M9 => ?_)
            refine j_aload_n (pc := 69) (q := 0) d_ShakeHands_seats_69 rfl rfl ?_
            refine j_getA (pc := 70) d_ShakeHands_seats_70 fl_ShakeHands_35 sx_0 (by decide) rfl ?_
            refine j_getA (pc := 73) d_ShakeHands_seats_73 fl_ShakeHands_93 sx_16 (by decide) rfl ?_
            refine j_iload_n (pc := 76) (q := 1) d_ShakeHands_seats_76 rfl rfl ?_
            refine j_callS2 (pc := 77) d_ShakeHands_seats_77 (C_Minds_knowers n 17 sx_17 p1 M9) cS_ShakeHands_161 cd_Minds_knowers dn_Minds_knowers rfl (by decide) (Nat.le_of_ble_eq_true rfl) (Nat.le_of_ble_eq_true rfl) nr_I (fun r10 M11 => ?_)
            refine j_iconst (pc := 80) d_ShakeHands_seats_80 k_i_m1 ?_
            refine j_ixor (pc := 81) d_ShakeHands_seats_81 ?_
            refine j_iand (pc := 82) d_ShakeHands_seats_82 ?_
            refine j_nmi (fun x12 => ?_)
            refine j_istore (pc := 83) d_ShakeHands_seats_83 (by decide) rfl ?_
            refine j_aload_n (pc := 85) (q := 1) d_ShakeHands_seats_85 rfl rfl ?_
            refine j_getA (pc := 86) d_ShakeHands_seats_86 fl_ShakeHands_48 sx_0 (by decide) rfl ?_
            refine j_callV0 (pc := 89) d_ShakeHands_seats_89 (C_Search_begin n M11) cV_ShakeHands_208 cd_Search_begin dn_Search_begin rfl (by decide) (Nat.le_of_ble_eq_true rfl) (Nat.le_of_ble_eq_true rfl) nr_U sx_26 (by decide) rfl (fun r13 M14 => ?_)
            refine j_aload_n (pc := 92) (q := 1) d_ShakeHands_seats_92 rfl rfl ?_
            refine j_getA (pc := 93) d_ShakeHands_seats_93 fl_ShakeHands_48 sx_0 (by decide) rfl ?_
            refine j_iload_n (pc := 96) (q := 2) d_ShakeHands_seats_96 rfl rfl ?_
            refine j_iconst (pc := 97) d_ShakeHands_seats_97 k_i_1 ?_
            refine j_iload_n (pc := 98) (q := 3) d_ShakeHands_seats_98 rfl rfl ?_
            refine j_ishl (pc := 99) d_ShakeHands_seats_99 ?_
            refine j_iload (pc := 100) (q := 0) d_ShakeHands_seats_100 rfl ?_
            refine j_iconst (pc := 102) d_ShakeHands_seats_102 k_i_1 ?_
            refine j_iload_n (pc := 103) (q := 3) d_ShakeHands_seats_103 rfl rfl ?_
            refine j_ishl (pc := 104) d_ShakeHands_seats_104 ?_
            refine j_iconst (pc := 105) d_ShakeHands_seats_105 k_i_m1 ?_
            refine j_ixor (pc := 106) d_ShakeHands_seats_106 ?_
            refine j_iand (pc := 107) d_ShakeHands_seats_107 ?_
            refine j_iconst (pc := 108) d_ShakeHands_seats_108 k_i_0 ?_
            refine j_callV4 (pc := 109) d_ShakeHands_seats_109 (C_Search_aim n p1 ((1 : Int32) <<< (p2 &&& 31)) (x12 &&& (((1 : Int32) <<< (p2 &&& 31)) ^^^ (-1))) 0 M14) cV_ShakeHands_211 cd_Search_aim dn_Search_aim rfl (by decide) (Nat.le_of_ble_eq_true rfl) (Nat.le_of_ble_eq_true rfl) nr_U sx_26 (by decide) rfl (fun r15 M16 => ?_)
            refine j_aload_n (pc := 112) (q := 1) d_ShakeHands_seats_112 rfl rfl ?_
            refine j_getA (pc := 113) d_ShakeHands_seats_113 fl_ShakeHands_48 sx_0 (by decide) rfl ?_
            refine j_callV0 (pc := 116) d_ShakeHands_seats_116 (C_Search_countSeats n M16) cV_ShakeHands_255 cd_Search_countSeats dn_Search_countSeats rfl (by decide) (Nat.le_of_ble_eq_true rfl) (Nat.le_of_ble_eq_true rfl) nr_U sx_26 (by decide) rfl (fun r17 M18 => ?_)
            refine j_iload (pc := 119) (q := 5) d_ShakeHands_seats_119 rfl ?_
            refine j_if_ne (pc := 121) (tgt := 132) d_ShakeHands_seats_121 (by decide) (fun _ => ?_) (fun _ => ?_)
            · refine j_aload_n (pc := 132) (q := 1) d_ShakeHands_seats_132 rfl rfl ?_
              refine j_getA (pc := 133) d_ShakeHands_seats_133 fl_ShakeHands_48 sx_0 (by decide) rfl ?_
              refine j_getI (pc := 136) d_ShakeHands_seats_136 fl_ShakeHands_246 sx_26 (by decide) rfl ?_
              refine j_if_ne (pc := 139) (tgt := 147) d_ShakeHands_seats_139 (by decide) (fun _ => ?_) (fun _ => ?_)
              · refine j_aload_n (pc := 147) (q := 1) d_ShakeHands_seats_147 rfl rfl ?_
                refine j_getA (pc := 148) d_ShakeHands_seats_148 fl_ShakeHands_48 sx_0 (by decide) rfl ?_
                refine j_getA (pc := 151) d_ShakeHands_seats_151 fl_ShakeHands_258 sx_26 (by decide) rfl ?_
                refine j_iload_n (pc := 154) (q := 4) d_ShakeHands_seats_154 rfl rfl ?_
                refine j_bipush (pc := 155) d_ShakeHands_seats_155 k_b_10 ?_
                refine j_isub (pc := 157) d_ShakeHands_seats_157 ?_
                refine j_iald (pc := 158) d_ShakeHands_seats_158 sx_28 (fun _ => ?_)
                exact j_ireturn (pc := 159) d_ShakeHands_seats_159 rfl
              · refine j_bipush (pc := 142) d_ShakeHands_seats_142 k_b_m4 ?_
                refine j_goto (pc := 144) (tgt := 159) d_ShakeHands_seats_144 (by decide) ?_
                exact j_ireturn (pc := 159) d_ShakeHands_seats_159 rfl
            · refine j_aload_n (pc := 124) (q := 1) d_ShakeHands_seats_124 rfl rfl ?_
              refine j_getA (pc := 125) d_ShakeHands_seats_125 fl_ShakeHands_48 sx_0 (by decide) rfl ?_
              refine j_getI (pc := 128) d_ShakeHands_seats_128 fl_ShakeHands_246 sx_26 (by decide) rfl ?_
              exact j_ireturn (pc := 131) d_ShakeHands_seats_131 rfl
          · refine j_bipush (pc := 62) d_ShakeHands_seats_62 k_b_m2 ?_
            exact j_ireturn (pc := 64) d_ShakeHands_seats_64 rfl
        · refine j_if_eq (pc := 43) (tgt := 53) d_ShakeHands_seats_43 (by decide) (fun _ => ?_) (fun _ => ?_)
          · refine j_lv [1, 2, 3, 4, 0] rfl ?_
            exact hk53
          · refine j_iload (pc := 46) (q := 0) d_ShakeHands_seats_46 rfl ?_
            refine j_if_ne (pc := 48) (tgt := 53) d_ShakeHands_seats_48 (by decide) (fun _ => ?_) (fun _ => ?_)
            · refine j_lv [1, 2, 3, 4, 0] rfl ?_
              exact hk53
            · refine j_iconst (pc := 51) d_ShakeHands_seats_51 k_i_m1 ?_
              exact j_ireturn (pc := 52) d_ShakeHands_seats_52 rfl
  · refine j_icmp_lt (pc := 3) (tgt := 24) d_ShakeHands_seats_3 (by decide) (fun _ => ?_) (fun _ => ?_)
    · refine j_iconst (pc := 24) d_ShakeHands_seats_24 k_i_0 ?_
      exact hk25 0
    · refine j_iload_n (pc := 6) (q := 3) d_ShakeHands_seats_6 rfl rfl ?_
      refine j_bipush (pc := 7) d_ShakeHands_seats_7 k_b_10 ?_
      refine j_aload_n (pc := 9) (q := 0) d_ShakeHands_seats_9 rfl rfl ?_
      refine j_getA (pc := 10) d_ShakeHands_seats_10 fl_ShakeHands_28 sx_0 (by decide) rfl ?_
      refine j_getI (pc := 13) d_ShakeHands_seats_13 fl_ShakeHands_110 sx_11 (by decide) rfl ?_
      refine j_iadd (pc := 16) d_ShakeHands_seats_16 ?_
      refine j_icmp_ge (pc := 17) (tgt := 24) d_ShakeHands_seats_17 (by decide) (fun _ => ?_) (fun _ => ?_)
      · refine j_iconst (pc := 24) d_ShakeHands_seats_24 k_i_0 ?_
        exact hk25 0
      · refine j_iconst (pc := 20) d_ShakeHands_seats_20 k_i_1 ?_
        refine j_goto (pc := 21) (tgt := 25) d_ShakeHands_seats_21 (by decide) ?_
        exact hk25 1
-- ShakeHands.fewestGloves (II)I
def mt_ShakeHands_fewestGloves : Mt := ("ShakeHands", b_ShakeHands_fewestGloves, 6, some .int, 7, SHx)
theorem d_ShakeHands_fewestGloves_0 : decode b_ShakeHands_fewestGloves 0 = .ok (.bipush (-4), 2) := by decide +kernel
theorem d_ShakeHands_fewestGloves_2 : decode b_ShakeHands_fewestGloves 2 = .ok (.istore_n 3, 1) := by decide +kernel
theorem d_ShakeHands_fewestGloves_3 : decode b_ShakeHands_fewestGloves 3 = .ok (.iconst 0, 1) := by decide +kernel
theorem d_ShakeHands_fewestGloves_4 : decode b_ShakeHands_fewestGloves 4 = .ok (.istore 4, 2) := by decide +kernel
theorem d_ShakeHands_fewestGloves_6 : decode b_ShakeHands_fewestGloves 6 = .ok (.iload 4, 2) := by decide +kernel
theorem d_ShakeHands_fewestGloves_8 : decode b_ShakeHands_fewestGloves 8 = .ok (.aload_n 0, 1) := by decide +kernel
theorem d_ShakeHands_fewestGloves_9 : decode b_ShakeHands_fewestGloves 9 = .ok (.invokevirtual 224, 3) := by decide +kernel
theorem d_ShakeHands_fewestGloves_12 : decode b_ShakeHands_fewestGloves 12 = .ok (.if_icmp .gt 100, 3) := by decide +kernel
theorem d_ShakeHands_fewestGloves_15 : decode b_ShakeHands_fewestGloves 15 = .ok (.iload_n 3, 1) := by decide +kernel
theorem d_ShakeHands_fewestGloves_16 : decode b_ShakeHands_fewestGloves 16 = .ok (.bipush (-4), 2) := by decide +kernel
theorem d_ShakeHands_fewestGloves_18 : decode b_ShakeHands_fewestGloves 18 = .ok (.if_icmp .eq 15, 3) := by decide +kernel
theorem d_ShakeHands_fewestGloves_21 : decode b_ShakeHands_fewestGloves 21 = .ok (.iload 4, 2) := by decide +kernel
theorem d_ShakeHands_fewestGloves_23 : decode b_ShakeHands_fewestGloves 23 = .ok (.invokestatic 125, 3) := by decide +kernel
theorem d_ShakeHands_fewestGloves_26 : decode b_ShakeHands_fewestGloves 26 = .ok (.iload_n 3, 1) := by decide +kernel
theorem d_ShakeHands_fewestGloves_27 : decode b_ShakeHands_fewestGloves 27 = .ok (.invokestatic 125, 3) := by decide +kernel
theorem d_ShakeHands_fewestGloves_30 : decode b_ShakeHands_fewestGloves 30 = .ok (.if_icmp .ge 7, 3) := by decide +kernel
theorem d_ShakeHands_fewestGloves_33 : decode b_ShakeHands_fewestGloves 33 = .ok (.iconst 1, 1) := by decide +kernel
theorem d_ShakeHands_fewestGloves_34 : decode b_ShakeHands_fewestGloves 34 = .ok (.goto 4, 3) := by decide +kernel
theorem d_ShakeHands_fewestGloves_37 : decode b_ShakeHands_fewestGloves 37 = .ok (.iconst 0, 1) := by decide +kernel
theorem d_ShakeHands_fewestGloves_38 : decode b_ShakeHands_fewestGloves 38 = .ok (.istore 5, 2) := by decide +kernel
theorem d_ShakeHands_fewestGloves_40 : decode b_ShakeHands_fewestGloves 40 = .ok (.iload 4, 2) := by decide +kernel
theorem d_ShakeHands_fewestGloves_42 : decode b_ShakeHands_fewestGloves 42 = .ok (.aload_n 0, 1) := by decide +kernel
theorem d_ShakeHands_fewestGloves_43 : decode b_ShakeHands_fewestGloves 43 = .ok (.getfield 35, 3) := by decide +kernel
theorem d_ShakeHands_fewestGloves_46 : decode b_ShakeHands_fewestGloves 46 = .ok (.getfield 103, 3) := by decide +kernel
theorem d_ShakeHands_fewestGloves_49 : decode b_ShakeHands_fewestGloves 49 = .ok (.iand, 1) := by decide +kernel
theorem d_ShakeHands_fewestGloves_50 : decode b_ShakeHands_fewestGloves 50 = .ok (.ifCond .ne 56, 3) := by decide +kernel
theorem d_ShakeHands_fewestGloves_53 : decode b_ShakeHands_fewestGloves 53 = .ok (.iload 5, 2) := by decide +kernel
theorem d_ShakeHands_fewestGloves_55 : decode b_ShakeHands_fewestGloves 55 = .ok (.ifCond .eq 51, 3) := by decide +kernel
theorem d_ShakeHands_fewestGloves_58 : decode b_ShakeHands_fewestGloves 58 = .ok (.aload_n 0, 1) := by decide +kernel
theorem d_ShakeHands_fewestGloves_59 : decode b_ShakeHands_fewestGloves 59 = .ok (.invokevirtual 198, 3) := by decide +kernel
theorem d_ShakeHands_fewestGloves_62 : decode b_ShakeHands_fewestGloves 62 = .ok (.aload_n 0, 1) := by decide +kernel
theorem d_ShakeHands_fewestGloves_63 : decode b_ShakeHands_fewestGloves 63 = .ok (.getfield 28, 3) := by decide +kernel
theorem d_ShakeHands_fewestGloves_66 : decode b_ShakeHands_fewestGloves 66 = .ok (.aload_n 0, 1) := by decide +kernel
theorem d_ShakeHands_fewestGloves_67 : decode b_ShakeHands_fewestGloves 67 = .ok (.getfield 66, 3) := by decide +kernel
theorem d_ShakeHands_fewestGloves_70 : decode b_ShakeHands_fewestGloves 70 = .ok (.aload_n 0, 1) := by decide +kernel
theorem d_ShakeHands_fewestGloves_71 : decode b_ShakeHands_fewestGloves 71 = .ok (.getfield 35, 3) := by decide +kernel
theorem d_ShakeHands_fewestGloves_74 : decode b_ShakeHands_fewestGloves 74 = .ok (.getfield 103, 3) := by decide +kernel
theorem d_ShakeHands_fewestGloves_77 : decode b_ShakeHands_fewestGloves 77 = .ok (.iload 4, 2) := by decide +kernel
theorem d_ShakeHands_fewestGloves_79 : decode b_ShakeHands_fewestGloves 79 = .ok (.ior, 1) := by decide +kernel
theorem d_ShakeHands_fewestGloves_80 : decode b_ShakeHands_fewestGloves 80 = .ok (.aload_n 0, 1) := by decide +kernel
theorem d_ShakeHands_fewestGloves_81 : decode b_ShakeHands_fewestGloves 81 = .ok (.getfield 28, 3) := by decide +kernel
theorem d_ShakeHands_fewestGloves_84 : decode b_ShakeHands_fewestGloves 84 = .ok (.getfield 119, 3) := by decide +kernel
theorem d_ShakeHands_fewestGloves_87 : decode b_ShakeHands_fewestGloves 87 = .ok (.invokevirtual 194, 3) := by decide +kernel
theorem d_ShakeHands_fewestGloves_90 : decode b_ShakeHands_fewestGloves 90 = .ok (.aload_n 0, 1) := by decide +kernel
theorem d_ShakeHands_fewestGloves_91 : decode b_ShakeHands_fewestGloves 91 = .ok (.getfield 66, 3) := by decide +kernel
theorem d_ShakeHands_fewestGloves_94 : decode b_ShakeHands_fewestGloves 94 = .ok (.iload_n 2, 1) := by decide +kernel
theorem d_ShakeHands_fewestGloves_95 : decode b_ShakeHands_fewestGloves 95 = .ok (.laload, 1) := by decide +kernel
theorem d_ShakeHands_fewestGloves_96 : decode b_ShakeHands_fewestGloves 96 = .ok (.iload_n 1, 1) := by decide +kernel
theorem d_ShakeHands_fewestGloves_97 : decode b_ShakeHands_fewestGloves 97 = .ok (.invokestatic 201, 3) := by decide +kernel
theorem d_ShakeHands_fewestGloves_100 : decode b_ShakeHands_fewestGloves 100 = .ok (.ifCond .ne 6, 3) := by decide +kernel
theorem d_ShakeHands_fewestGloves_103 : decode b_ShakeHands_fewestGloves 103 = .ok (.iload 4, 2) := by decide +kernel
theorem d_ShakeHands_fewestGloves_105 : decode b_ShakeHands_fewestGloves 105 = .ok (.istore_n 3, 1) := by decide +kernel
theorem d_ShakeHands_fewestGloves_106 : decode b_ShakeHands_fewestGloves 106 = .ok (.iinc 4 1, 3) := by decide +kernel
theorem d_ShakeHands_fewestGloves_109 : decode b_ShakeHands_fewestGloves 109 = .ok (.goto (-103), 3) := by decide +kernel
theorem d_ShakeHands_fewestGloves_112 : decode b_ShakeHands_fewestGloves 112 = .ok (.iload_n 3, 1) := by decide +kernel
theorem d_ShakeHands_fewestGloves_113 : decode b_ShakeHands_fewestGloves 113 = .ok (.ireturn, 1) := by decide +kernel
def X_ShakeHands_fewestGloves_L6 (n : Nat) (a1 : Int32) (a2 : Int32) : Nat → Int32 → Int32 → Mem → Option (Int32 × Mem)
    | 0, _, _, _ => none
    | m + 1, v3, v4, M => bd (X_ShakeHands_everybody n M) fun r1 M2 =>
  (if r1 < v4 then
    some (v3, M2)
    else
    nm (fun (u3 : Int32) (M4 : Mem) => (nm (fun (z5 : Int32) (M6 : Mem) => (X_ShakeHands_fewestGloves_L6 n a1 a2 m z5 (v4 + 1) M6 : Option (Int32 × Mem))) fun k106 =>
        (if (v4 &&& (M4.1 16 1)) = 0 then
          (if u3 = 0 then
            k106 v3 M4
            else
            bd (X_ShakeHands_takeTrial n M4) fun _ M8 =>
            bd (X_Circle_celebrate n 49 ((M8.1 16 1) ||| v4) (M8.1 11 5) M8) fun _ M10 =>
            gd a2 6 (
              bd (X_Row_knowsIt n (M10.2 49 a2.toNatClampNeg) a1 M10) fun r11 M12 =>
              (if r11 = 0 then
                k106 v4 M12
                else
                k106 v3 M12)))
          else
          k106 v3 M4) : Option (Int32 × Mem))) fun k38 =>
    (if v3 = (-4) then
      k38 1 M2
      else
      bd (X_Integer_bitCount n v4 M2) fun r13 M14 =>
      bd (X_Integer_bitCount n v3 M14) fun r15 M16 =>
      (if r15 ≤ r13 then
        k38 0 M16
        else
        k38 1 M16)))
def X_ShakeHands_fewestGloves (n : Nat) (p1 : Int32) (p2 : Int32) (M : Mem) : Option (Int32 × Mem) :=
  X_ShakeHands_fewestGloves_L6 n p1 p2 n (-4) 0 M
set_option maxRecDepth 20000 in
set_option maxHeartbeats 4000000 in
theorem X_ShakeHands_fewestGloves_L6_ok {n : Nat} {a1 : Int32} {a2 : Int32} : ∀ (m : Nat) (v3 : Int32) (v4 : Int32) (M : Mem), J (mt_ShakeHands_fewestGloves) wI 6 [(0, Value.ref 0), (1, Value.int a1), (2, Value.int a2), (3, Value.int v3), (4, Value.int v4)] [] M (X_ShakeHands_fewestGloves_L6 n a1 a2 m v3 v4 M) := by
  intro m
  induction m with
  | zero => intro _ _ _; exact j_none
  | succ m ih =>
    intro v3 v4 M
    show J _ _ _ _ _ _ (bd (X_ShakeHands_everybody n M) fun r1 M2 =>
(if r1 < v4 then
some (v3, M2)
else
nm (fun (u3 : Int32) (M4 : Mem) => (nm (fun (z5 : Int32) (M6 : Mem) => (X_ShakeHands_fewestGloves_L6 n a1 a2 m z5 (v4 + 1) M6 : Option (Int32 × Mem))) fun k106 =>
(if (v4 &&& (M4.1 16 1)) = 0 then
(if u3 = 0 then
k106 v3 M4
else
bd (X_ShakeHands_takeTrial n M4) fun _ M8 =>
bd (X_Circle_celebrate n 49 ((M8.1 16 1) ||| v4) (M8.1 11 5) M8) fun _ M10 =>
gd a2 6 (
bd (X_Row_knowsIt n (M10.2 49 a2.toNatClampNeg) a1 M10) fun r11 M12 =>
(if r11 = 0 then
k106 v4 M12
else
k106 v3 M12)))
else
k106 v3 M4) : Option (Int32 × Mem))) fun k38 =>
(if v3 = (-4) then
k38 1 M2
else
bd (X_Integer_bitCount n v4 M2) fun r13 M14 =>
bd (X_Integer_bitCount n v3 M14) fun r15 M16 =>
(if r15 ≤ r13 then
k38 0 M16
else
k38 1 M16))))
    refine j_iload (pc := 6) (q := 4) d_ShakeHands_fewestGloves_6 rfl ?_
    refine j_aload_n (pc := 8) (q := 0) d_ShakeHands_fewestGloves_8 rfl rfl ?_
    refine j_callV0 (pc := 9) d_ShakeHands_fewestGloves_9 (C_ShakeHands_everybody n M) cV_ShakeHands_224 cd_ShakeHands_everybody dn_ShakeHands_everybody rfl (by decide) (Nat.le_of_ble_eq_true rfl) (Nat.le_of_ble_eq_true rfl) nr_I sx_0 (by decide) rfl (fun r1 M2 => ?_)
    refine j_icmp_gt (pc := 12) (tgt := 112) d_ShakeHands_fewestGloves_12 (by decide) (fun _ => ?_) (fun _ => ?_)
    · refine j_iload_n (pc := 112) (q := 3) d_ShakeHands_fewestGloves_112 rfl rfl ?_
      exact j_ireturn (pc := 113) d_ShakeHands_fewestGloves_113 rfl
    · refine j_iload_n (pc := 15) (q := 3) d_ShakeHands_fewestGloves_15 rfl rfl ?_
      refine j_bipush (pc := 16) d_ShakeHands_fewestGloves_16 k_b_m4 ?_
      refine j_nmk (fun k => ∀ (u3 : Int32) (M4 : Mem), J (mt_ShakeHands_fewestGloves) wI 38 [(0, Value.ref 0), (1, Value.int a1), (2, Value.int a2), (3, Value.int v3), (4, Value.int v4)] [Value.int u3] M4 (k u3 M4)) (fun u3 M4 => ?_) (fun k38 hk38 => ?_)
      · refine j_istore (pc := 38) d_ShakeHands_fewestGloves_38 (by decide) rfl ?_
        refine j_iload (pc := 40) (q := 5) d_ShakeHands_fewestGloves_40 rfl ?_
        refine j_aload_n (pc := 42) (q := 1) d_ShakeHands_fewestGloves_42 rfl rfl ?_
        refine j_getA (pc := 43) d_ShakeHands_fewestGloves_43 fl_ShakeHands_35 sx_0 (by decide) rfl ?_
        refine j_getI (pc := 46) d_ShakeHands_fewestGloves_46 fl_ShakeHands_103 sx_16 (by decide) rfl ?_
        refine j_iand (pc := 49) d_ShakeHands_fewestGloves_49 ?_
        refine j_nmk (fun k => ∀ (z5 : Int32) (M6 : Mem), J (mt_ShakeHands_fewestGloves) wI 106 [(0, Value.ref 0), (1, Value.int a1), (2, Value.int a2), (3, Value.int z5), (4, Value.int v4)] [] M6 (k z5 M6)) (fun z5 M6 => ?_) (fun k106 hk106 => ?_)
        · refine j_iinc (pc := 106) (q := 4) d_ShakeHands_fewestGloves_106 rfl (congrArg (v4 + ·) k_i_1) (by decide) rfl ?_
          refine j_goto (pc := 109) (tgt := 6) d_ShakeHands_fewestGloves_109 (by decide) ?_
          refine j_lv [1, 2, 3, 4, 0] rfl ?_
          exact ih z5 (v4 + 1) M6
        · refine j_if_ne (pc := 50) (tgt := 106) d_ShakeHands_fewestGloves_50 (by decide) (fun _ => ?_) (fun _ => ?_)
          · refine j_lv [1, 2, 3, 4, 5] rfl ?_
            exact hk106 v3 M4
          · refine j_iload (pc := 53) (q := 0) d_ShakeHands_fewestGloves_53 rfl ?_
            refine j_if_eq (pc := 55) (tgt := 106) d_ShakeHands_fewestGloves_55 (by decide) (fun _ => ?_) (fun _ => ?_)
            · refine j_lv [1, 2, 3, 4, 5] rfl ?_
              exact hk106 v3 M4
            · refine j_aload_n (pc := 58) (q := 1) d_ShakeHands_fewestGloves_58 rfl rfl ?_
              refine j_callV0 (pc := 59) d_ShakeHands_fewestGloves_59 (C_ShakeHands_takeTrial n M4) cV_ShakeHands_198 cd_ShakeHands_takeTrial dn_ShakeHands_takeTrial rfl (by decide) (Nat.le_of_ble_eq_true rfl) (Nat.le_of_ble_eq_true rfl) nr_U sx_0 (by decide) rfl (fun r7 M8 => ?_)
              refine j_aload_n (pc := 62) (q := 1) d_ShakeHands_fewestGloves_62 rfl rfl ?_
              refine j_getA (pc := 63) d_ShakeHands_fewestGloves_63 fl_ShakeHands_28 sx_0 (by decide) rfl ?_
              refine j_aload_n (pc := 66) (q := 1) d_ShakeHands_fewestGloves_66 rfl rfl ?_
              refine j_getA (pc := 67) d_ShakeHands_fewestGloves_67 fl_ShakeHands_66 sx_0 (by decide) rfl ?_
              refine j_aload_n (pc := 70) (q := 1) d_ShakeHands_fewestGloves_70 rfl rfl ?_
              refine j_getA (pc := 71) d_ShakeHands_fewestGloves_71 fl_ShakeHands_35 sx_0 (by decide) rfl ?_
              refine j_getI (pc := 74) d_ShakeHands_fewestGloves_74 fl_ShakeHands_103 sx_16 (by decide) rfl ?_
              refine j_iload (pc := 77) (q := 5) d_ShakeHands_fewestGloves_77 rfl ?_
              refine j_ior (pc := 79) d_ShakeHands_fewestGloves_79 ?_
              refine j_aload_n (pc := 80) (q := 1) d_ShakeHands_fewestGloves_80 rfl rfl ?_
              refine j_getA (pc := 81) d_ShakeHands_fewestGloves_81 fl_ShakeHands_28 sx_0 (by decide) rfl ?_
              refine j_getI (pc := 84) d_ShakeHands_fewestGloves_84 fl_ShakeHands_119 sx_11 (by decide) rfl ?_
              refine j_callV3 (pc := 87) d_ShakeHands_fewestGloves_87 (C_Circle_celebrate n 49 sx_49 ((M8.1 16 1) ||| v4) (M8.1 11 5) M8) cV_ShakeHands_194 cd_Circle_celebrate dn_Circle_celebrate rfl (by decide) (Nat.le_of_ble_eq_true rfl) (Nat.le_of_ble_eq_true rfl) nr_U sx_11 (by decide) rfl (fun r9 M10 => ?_)
              refine j_aload_n (pc := 90) (q := 1) d_ShakeHands_fewestGloves_90 rfl rfl ?_
              refine j_getA (pc := 91) d_ShakeHands_fewestGloves_91 fl_ShakeHands_66 sx_0 (by decide) rfl ?_
              refine j_iload_n (pc := 94) (q := 3) d_ShakeHands_fewestGloves_94 rfl rfl ?_
              refine j_lald (pc := 95) d_ShakeHands_fewestGloves_95 sx_49 (fun _ => ?_)
              refine j_iload_n (pc := 96) (q := 2) d_ShakeHands_fewestGloves_96 rfl rfl ?_
              refine j_callS2 (pc := 97) d_ShakeHands_fewestGloves_97 (C_Row_knowsIt n (M10.2 49 a2.toNatClampNeg) a1 M10) cS_ShakeHands_201 cd_Row_knowsIt dn_Row_knowsIt rfl (by decide) (Nat.le_of_ble_eq_true rfl) (Nat.le_of_ble_eq_true rfl) nr_I (fun r11 M12 => ?_)
              refine j_if_ne (pc := 100) (tgt := 106) d_ShakeHands_fewestGloves_100 (by decide) (fun _ => ?_) (fun _ => ?_)
              · refine j_lv [1, 2, 3, 4, 5] rfl ?_
                exact hk106 v3 M12
              · refine j_iload (pc := 103) (q := 5) d_ShakeHands_fewestGloves_103 rfl ?_
                refine j_istore_n (pc := 105) d_ShakeHands_fewestGloves_105 rfl (by decide) rfl ?_
                refine j_lv [2, 3, 4, 0, 5] rfl ?_
                exact hk106 v4 M12
      · refine j_icmp_eq (pc := 18) (tgt := 33) d_ShakeHands_fewestGloves_18 (by decide) (fun _ => ?_) (fun _ => ?_)
        · refine j_iconst (pc := 33) d_ShakeHands_fewestGloves_33 k_i_1 ?_
          refine j_goto (pc := 34) (tgt := 38) d_ShakeHands_fewestGloves_34 (by decide) ?_
          exact hk38 1 M2
        · refine j_iload (pc := 21) (q := 4) d_ShakeHands_fewestGloves_21 rfl ?_
          refine j_callS1 (pc := 23) d_ShakeHands_fewestGloves_23 (C_Integer_bitCount n v4 M2) cS_ShakeHands_125 cd_Integer_bitCount dn_Integer_bitCount rfl (by decide) (Nat.le_of_ble_eq_true rfl) (Nat.le_of_ble_eq_true rfl) nr_I (fun r13 M14 => ?_)
          refine j_iload_n (pc := 26) (q := 3) d_ShakeHands_fewestGloves_26 rfl rfl ?_
          refine j_callS1 (pc := 27) d_ShakeHands_fewestGloves_27 (C_Integer_bitCount n v3 M14) cS_ShakeHands_125 cd_Integer_bitCount dn_Integer_bitCount rfl (by decide) (Nat.le_of_ble_eq_true rfl) (Nat.le_of_ble_eq_true rfl) nr_I (fun r15 M16 => ?_)
          refine j_icmp_ge (pc := 30) (tgt := 37) d_ShakeHands_fewestGloves_30 (by decide) (fun _ => ?_) (fun _ => ?_)
          · refine j_iconst (pc := 37) d_ShakeHands_fewestGloves_37 k_i_0 ?_
            exact hk38 0 M16
          · refine j_iconst (pc := 33) d_ShakeHands_fewestGloves_33 k_i_1 ?_
            refine j_goto (pc := 34) (tgt := 38) d_ShakeHands_fewestGloves_34 (by decide) ?_
            exact hk38 1 M16
set_option maxRecDepth 20000 in
set_option maxHeartbeats 4000000 in
theorem C_ShakeHands_fewestGloves (n : Nat)   (p1 : Int32) (p2 : Int32) (M : Mem) : Ct y_ShakeHands_fewestGloves mt_ShakeHands_fewestGloves wI [Value.ref 0, Value.int p1, Value.int p2] M (X_ShakeHands_fewestGloves n p1 p2 M) := by
  refine ct_of (by decide +kernel) rfl (Nat.le_of_ble_eq_true rfl) ?_
  show J _ _ _ [(0, Value.ref 0), (1, Value.int p1), (2, Value.int p2)] _ _ _
  unfold X_ShakeHands_fewestGloves
  refine j_bipush (pc := 0) d_ShakeHands_fewestGloves_0 k_b_m4 ?_
  refine j_istore_n (pc := 2) d_ShakeHands_fewestGloves_2 rfl (by decide) rfl ?_
  refine j_iconst (pc := 3) d_ShakeHands_fewestGloves_3 k_i_0 ?_
  refine j_istore (pc := 4) d_ShakeHands_fewestGloves_4 (by decide) rfl ?_
  refine j_lv [2, 3, 4, 1, 0] rfl ?_
  exact X_ShakeHands_fewestGloves_L6_ok   n (-4) 0 M
-- ShakeHands.gloves (III)I
def mt_ShakeHands_gloves : Mt := ("ShakeHands", b_ShakeHands_gloves, 5, some .int, 8, SHx)
theorem d_ShakeHands_gloves_0 : decode b_ShakeHands_gloves 0 = .ok (.iload_n 1, 1) := by decide +kernel
theorem d_ShakeHands_gloves_1 : decode b_ShakeHands_gloves 1 = .ok (.invokestatic 158, 3) := by decide +kernel
theorem d_ShakeHands_gloves_4 : decode b_ShakeHands_gloves 4 = .ok (.ifCond .eq 20, 3) := by decide +kernel
theorem d_ShakeHands_gloves_7 : decode b_ShakeHands_gloves 7 = .ok (.aload_n 0, 1) := by decide +kernel
theorem d_ShakeHands_gloves_8 : decode b_ShakeHands_gloves 8 = .ok (.iload_n 2, 1) := by decide +kernel
theorem d_ShakeHands_gloves_9 : decode b_ShakeHands_gloves 9 = .ok (.invokevirtual 141, 3) := by decide +kernel
theorem d_ShakeHands_gloves_12 : decode b_ShakeHands_gloves 12 = .ok (.ifCond .eq 12, 3) := by decide +kernel
theorem d_ShakeHands_gloves_15 : decode b_ShakeHands_gloves 15 = .ok (.iload_n 3, 1) := by decide +kernel
theorem d_ShakeHands_gloves_16 : decode b_ShakeHands_gloves 16 = .ok (.ifCond .lt 8, 3) := by decide +kernel
theorem d_ShakeHands_gloves_19 : decode b_ShakeHands_gloves 19 = .ok (.iload_n 3, 1) := by decide +kernel
theorem d_ShakeHands_gloves_20 : decode b_ShakeHands_gloves 20 = .ok (.iconst 1, 1) := by decide +kernel
theorem d_ShakeHands_gloves_21 : decode b_ShakeHands_gloves 21 = .ok (.if_icmp .le 5, 3) := by decide +kernel
theorem d_ShakeHands_gloves_24 : decode b_ShakeHands_gloves 24 = .ok (.iconst (-1), 1) := by decide +kernel
theorem d_ShakeHands_gloves_25 : decode b_ShakeHands_gloves 25 = .ok (.ireturn, 1) := by decide +kernel
theorem d_ShakeHands_gloves_26 : decode b_ShakeHands_gloves 26 = .ok (.aload_n 0, 1) := by decide +kernel
theorem d_ShakeHands_gloves_27 : decode b_ShakeHands_gloves 27 = .ok (.iload_n 2, 1) := by decide +kernel
theorem d_ShakeHands_gloves_28 : decode b_ShakeHands_gloves 28 = .ok (.iload_n 1, 1) := by decide +kernel
theorem d_ShakeHands_gloves_29 : decode b_ShakeHands_gloves 29 = .ok (.invokevirtual 165, 3) := by decide +kernel
theorem d_ShakeHands_gloves_32 : decode b_ShakeHands_gloves 32 = .ok (.ifCond .eq 6, 3) := by decide +kernel
theorem d_ShakeHands_gloves_35 : decode b_ShakeHands_gloves 35 = .ok (.bipush (-2), 2) := by decide +kernel
theorem d_ShakeHands_gloves_37 : decode b_ShakeHands_gloves 37 = .ok (.ireturn, 1) := by decide +kernel
theorem d_ShakeHands_gloves_38 : decode b_ShakeHands_gloves 38 = .ok (.aload_n 0, 1) := by decide +kernel
theorem d_ShakeHands_gloves_39 : decode b_ShakeHands_gloves 39 = .ok (.iload_n 1, 1) := by decide +kernel
theorem d_ShakeHands_gloves_40 : decode b_ShakeHands_gloves 40 = .ok (.iload_n 2, 1) := by decide +kernel
theorem d_ShakeHands_gloves_41 : decode b_ShakeHands_gloves 41 = .ok (.invokevirtual 261, 3) := by decide +kernel
theorem d_ShakeHands_gloves_44 : decode b_ShakeHands_gloves 44 = .ok (.istore 4, 2) := by decide +kernel
theorem d_ShakeHands_gloves_46 : decode b_ShakeHands_gloves 46 = .ok (.iload 4, 2) := by decide +kernel
theorem d_ShakeHands_gloves_48 : decode b_ShakeHands_gloves 48 = .ok (.bipush (-4), 2) := by decide +kernel
theorem d_ShakeHands_gloves_50 : decode b_ShakeHands_gloves 50 = .ok (.if_icmp .ne 6, 3) := by decide +kernel
theorem d_ShakeHands_gloves_53 : decode b_ShakeHands_gloves 53 = .ok (.bipush (-4), 2) := by decide +kernel
theorem d_ShakeHands_gloves_55 : decode b_ShakeHands_gloves 55 = .ok (.ireturn, 1) := by decide +kernel
theorem d_ShakeHands_gloves_56 : decode b_ShakeHands_gloves 56 = .ok (.iload_n 3, 1) := by decide +kernel
theorem d_ShakeHands_gloves_57 : decode b_ShakeHands_gloves 57 = .ok (.ifCond .ne 11, 3) := by decide +kernel
theorem d_ShakeHands_gloves_60 : decode b_ShakeHands_gloves 60 = .ok (.iload 4, 2) := by decide +kernel
theorem d_ShakeHands_gloves_62 : decode b_ShakeHands_gloves 62 = .ok (.invokestatic 125, 3) := by decide +kernel
theorem d_ShakeHands_gloves_65 : decode b_ShakeHands_gloves 65 = .ok (.goto 5, 3) := by decide +kernel
theorem d_ShakeHands_gloves_68 : decode b_ShakeHands_gloves 68 = .ok (.iload 4, 2) := by decide +kernel
theorem d_ShakeHands_gloves_70 : decode b_ShakeHands_gloves 70 = .ok (.ireturn, 1) := by decide +kernel
def X_ShakeHands_gloves (n : Nat) (p1 : Int32) (p2 : Int32) (p3 : Int32) (M : Mem) : Option (Int32 × Mem) :=
  bd (X_ShakeHands_isThing n p1 M) fun r1 M2 =>
  (if r1 = 0 then
    some ((-1), M2)
    else
    bd (X_ShakeHands_isOne n p2 M2) fun r3 M4 =>
    (if r3 = 0 then
      some ((-1), M4)
      else
      (if p3 < 0 then
        some ((-1), M4)
        else
        (if p3 ≤ 1 then
          bd (X_ShakeHands_knowsNow n p2 p1 M4) fun r5 M6 =>
          (if r5 = 0 then
            bd (X_ShakeHands_fewestGloves n p1 p2 M6) fun r7 M8 =>
            (if r7 = (-4) then
              some ((-4), M8)
              else
              (if p3 = 0 then
                bd (X_Integer_bitCount n r7 M8) fun r9 M10 =>
                some (r9, M10)
                else
                some (r7, M8)))
            else
            some ((-2), M6))
          else
          some ((-1), M4)))))
set_option maxRecDepth 20000 in
set_option maxHeartbeats 4000000 in
theorem C_ShakeHands_gloves (n : Nat)   (p1 : Int32) (p2 : Int32) (p3 : Int32) (M : Mem) : Ct y_ShakeHands_gloves mt_ShakeHands_gloves wI [Value.ref 0, Value.int p1, Value.int p2, Value.int p3] M (X_ShakeHands_gloves n p1 p2 p3 M) := by
  refine ct_of (by decide +kernel) rfl (Nat.le_of_ble_eq_true rfl) ?_
  show J _ _ _ [(0, Value.ref 0), (1, Value.int p1), (2, Value.int p2), (3, Value.int p3)] _ _ _
  unfold X_ShakeHands_gloves
  refine j_iload_n (pc := 0) (q := 1) d_ShakeHands_gloves_0 rfl rfl ?_
  refine j_callS1 (pc := 1) d_ShakeHands_gloves_1 (C_ShakeHands_isThing n p1 M) cS_ShakeHands_158 cd_ShakeHands_isThing dn_ShakeHands_isThing rfl (by decide) (Nat.le_of_ble_eq_true rfl) (Nat.le_of_ble_eq_true rfl) nr_I (fun r1 M2 => ?_)
  refine j_if_eq (pc := 4) (tgt := 24) d_ShakeHands_gloves_4 (by decide) (fun _ => ?_) (fun _ => ?_)
  · refine j_iconst (pc := 24) d_ShakeHands_gloves_24 k_i_m1 ?_
    exact j_ireturn (pc := 25) d_ShakeHands_gloves_25 rfl
  · refine j_aload_n (pc := 7) (q := 0) d_ShakeHands_gloves_7 rfl rfl ?_
    refine j_iload_n (pc := 8) (q := 2) d_ShakeHands_gloves_8 rfl rfl ?_
    refine j_callV1 (pc := 9) d_ShakeHands_gloves_9 (C_ShakeHands_isOne n p2 M2) cV_ShakeHands_141 cd_ShakeHands_isOne dn_ShakeHands_isOne rfl (by decide) (Nat.le_of_ble_eq_true rfl) (Nat.le_of_ble_eq_true rfl) nr_I sx_0 (by decide) rfl (fun r3 M4 => ?_)
    refine j_if_eq (pc := 12) (tgt := 24) d_ShakeHands_gloves_12 (by decide) (fun _ => ?_) (fun _ => ?_)
    · refine j_iconst (pc := 24) d_ShakeHands_gloves_24 k_i_m1 ?_
      exact j_ireturn (pc := 25) d_ShakeHands_gloves_25 rfl
    · refine j_iload_n (pc := 15) (q := 3) d_ShakeHands_gloves_15 rfl rfl ?_
      refine j_if_lt (pc := 16) (tgt := 24) d_ShakeHands_gloves_16 (by decide) (fun _ => ?_) (fun _ => ?_)
      · refine j_iconst (pc := 24) d_ShakeHands_gloves_24 k_i_m1 ?_
        exact j_ireturn (pc := 25) d_ShakeHands_gloves_25 rfl
      · refine j_iload_n (pc := 19) (q := 3) d_ShakeHands_gloves_19 rfl rfl ?_
        refine j_iconst (pc := 20) d_ShakeHands_gloves_20 k_i_1 ?_
        refine j_icmp_le (pc := 21) (tgt := 26) d_ShakeHands_gloves_21 (by decide) (fun _ => ?_) (fun _ => ?_)
        · refine j_aload_n (pc := 26) (q := 0) d_ShakeHands_gloves_26 rfl rfl ?_
          refine j_iload_n (pc := 27) (q := 2) d_ShakeHands_gloves_27 rfl rfl ?_
          refine j_iload_n (pc := 28) (q := 1) d_ShakeHands_gloves_28 rfl rfl ?_
          refine j_callV2 (pc := 29) d_ShakeHands_gloves_29 (C_ShakeHands_knowsNow n p2 p1 M4) cV_ShakeHands_165 cd_ShakeHands_knowsNow dn_ShakeHands_knowsNow rfl (by decide) (Nat.le_of_ble_eq_true rfl) (Nat.le_of_ble_eq_true rfl) nr_I sx_0 (by decide) rfl (fun r5 M6 => ?_)
          refine j_if_eq (pc := 32) (tgt := 38) d_ShakeHands_gloves_32 (by decide) (fun _ => ?_) (fun _ => ?_)
          · refine j_aload_n (pc := 38) (q := 0) d_ShakeHands_gloves_38 rfl rfl ?_
            refine j_iload_n (pc := 39) (q := 1) d_ShakeHands_gloves_39 rfl rfl ?_
            refine j_iload_n (pc := 40) (q := 2) d_ShakeHands_gloves_40 rfl rfl ?_
            refine j_callV2 (pc := 41) d_ShakeHands_gloves_41 (C_ShakeHands_fewestGloves n p1 p2 M6) cV_ShakeHands_261 cd_ShakeHands_fewestGloves dn_ShakeHands_fewestGloves rfl (by decide) (Nat.le_of_ble_eq_true rfl) (Nat.le_of_ble_eq_true rfl) nr_I sx_0 (by decide) rfl (fun r7 M8 => ?_)
            refine j_istore (pc := 44) d_ShakeHands_gloves_44 (by decide) rfl ?_
            refine j_iload (pc := 46) (q := 0) d_ShakeHands_gloves_46 rfl ?_
            refine j_bipush (pc := 48) d_ShakeHands_gloves_48 k_b_m4 ?_
            refine j_icmp_ne (pc := 50) (tgt := 56) d_ShakeHands_gloves_50 (by decide) (fun _ => ?_) (fun _ => ?_)
            · refine j_iload_n (pc := 56) (q := 4) d_ShakeHands_gloves_56 rfl rfl ?_
              refine j_if_ne (pc := 57) (tgt := 68) d_ShakeHands_gloves_57 (by decide) (fun _ => ?_) (fun _ => ?_)
              · refine j_iload (pc := 68) (q := 0) d_ShakeHands_gloves_68 rfl ?_
                exact j_ireturn (pc := 70) d_ShakeHands_gloves_70 rfl
              · refine j_iload (pc := 60) (q := 0) d_ShakeHands_gloves_60 rfl ?_
                refine j_callS1 (pc := 62) d_ShakeHands_gloves_62 (C_Integer_bitCount n r7 M8) cS_ShakeHands_125 cd_Integer_bitCount dn_Integer_bitCount rfl (by decide) (Nat.le_of_ble_eq_true rfl) (Nat.le_of_ble_eq_true rfl) nr_I (fun r9 M10 => ?_)
                refine j_goto (pc := 65) (tgt := 70) d_ShakeHands_gloves_65 (by decide) ?_
                exact j_ireturn (pc := 70) d_ShakeHands_gloves_70 rfl
            · refine j_bipush (pc := 53) d_ShakeHands_gloves_53 k_b_m4 ?_
              exact j_ireturn (pc := 55) d_ShakeHands_gloves_55 rfl
          · refine j_bipush (pc := 35) d_ShakeHands_gloves_35 k_b_m2 ?_
            exact j_ireturn (pc := 37) d_ShakeHands_gloves_37 rfl
        · refine j_iconst (pc := 24) d_ShakeHands_gloves_24 k_i_m1 ?_
          exact j_ireturn (pc := 25) d_ShakeHands_gloves_25 rfl
-- ShakeHands.isImage (I)Z
def mt_ShakeHands_isImage : Mt := ("ShakeHands", b_ShakeHands_isImage, 1, some .boolean, 2, SHx)
theorem d_ShakeHands_isImage_0 : decode b_ShakeHands_isImage 0 = .ok (.iload_n 0, 1) := by decide +kernel
theorem d_ShakeHands_isImage_1 : decode b_ShakeHands_isImage 1 = .ok (.ifCond .lt 12, 3) := by decide +kernel
theorem d_ShakeHands_isImage_4 : decode b_ShakeHands_isImage 4 = .ok (.iload_n 0, 1) := by decide +kernel
theorem d_ShakeHands_isImage_5 : decode b_ShakeHands_isImage 5 = .ok (.iconst 2, 1) := by decide +kernel
theorem d_ShakeHands_isImage_6 : decode b_ShakeHands_isImage 6 = .ok (.if_icmp .ge 7, 3) := by decide +kernel
theorem d_ShakeHands_isImage_9 : decode b_ShakeHands_isImage 9 = .ok (.iconst 1, 1) := by decide +kernel
theorem d_ShakeHands_isImage_10 : decode b_ShakeHands_isImage 10 = .ok (.goto 4, 3) := by decide +kernel
theorem d_ShakeHands_isImage_13 : decode b_ShakeHands_isImage 13 = .ok (.iconst 0, 1) := by decide +kernel
theorem d_ShakeHands_isImage_14 : decode b_ShakeHands_isImage 14 = .ok (.ireturn, 1) := by decide +kernel
def X_ShakeHands_isImage (n : Nat) (p0 : Int32) (M : Mem) : Option (Int32 × Mem) :=
  (if p0 < 0 then
    some (0, M)
    else
    (if 2 ≤ p0 then
      some (0, M)
      else
      some (1, M)))
set_option maxRecDepth 20000 in
set_option maxHeartbeats 4000000 in
theorem C_ShakeHands_isImage (n : Nat)   (p0 : Int32) (M : Mem) : Ct y_ShakeHands_isImage mt_ShakeHands_isImage wI [Value.int p0] M (X_ShakeHands_isImage n p0 M) := by
  refine ct_of (by decide +kernel) rfl (Nat.le_of_ble_eq_true rfl) ?_
  show J _ _ _ [(0, Value.int p0)] _ _ _
  unfold X_ShakeHands_isImage
  refine j_iload_n (pc := 0) (q := 0) d_ShakeHands_isImage_0 rfl rfl ?_
  refine j_if_lt (pc := 1) (tgt := 13) d_ShakeHands_isImage_1 (by decide) (fun _ => ?_) (fun _ => ?_)
  · refine j_iconst (pc := 13) d_ShakeHands_isImage_13 k_i_0 ?_
    exact j_zreturn (pc := 14) d_ShakeHands_isImage_14 rfl rfl
  · refine j_iload_n (pc := 4) (q := 0) d_ShakeHands_isImage_4 rfl rfl ?_
    refine j_iconst (pc := 5) d_ShakeHands_isImage_5 k_i_2 ?_
    refine j_icmp_ge (pc := 6) (tgt := 13) d_ShakeHands_isImage_6 (by decide) (fun _ => ?_) (fun _ => ?_)
    · refine j_iconst (pc := 13) d_ShakeHands_isImage_13 k_i_0 ?_
      exact j_zreturn (pc := 14) d_ShakeHands_isImage_14 rfl rfl
    · refine j_iconst (pc := 9) d_ShakeHands_isImage_9 k_i_1 ?_
      refine j_goto (pc := 10) (tgt := 14) d_ShakeHands_isImage_10 (by decide) ?_
      exact j_zreturn (pc := 14) d_ShakeHands_isImage_14 rfl rfl
-- ShakeHands.keep (I)I
def mt_ShakeHands_keep : Mt := ("ShakeHands", b_ShakeHands_keep, 3, some .int, 3, SHx)
theorem d_ShakeHands_keep_0 : decode b_ShakeHands_keep 0 = .ok (.iload_n 1, 1) := by decide +kernel
theorem d_ShakeHands_keep_1 : decode b_ShakeHands_keep 1 = .ok (.invokestatic 264, 3) := by decide +kernel
theorem d_ShakeHands_keep_4 : decode b_ShakeHands_keep 4 = .ok (.ifCond .ne 5, 3) := by decide +kernel
theorem d_ShakeHands_keep_7 : decode b_ShakeHands_keep 7 = .ok (.iconst (-1), 1) := by decide +kernel
theorem d_ShakeHands_keep_8 : decode b_ShakeHands_keep 8 = .ok (.ireturn, 1) := by decide +kernel
theorem d_ShakeHands_keep_9 : decode b_ShakeHands_keep 9 = .ok (.aload_n 0, 1) := by decide +kernel
theorem d_ShakeHands_keep_10 : decode b_ShakeHands_keep 10 = .ok (.getfield 107, 3) := by decide +kernel
theorem d_ShakeHands_keep_13 : decode b_ShakeHands_keep 13 = .ok (.iload_n 1, 1) := by decide +kernel
theorem d_ShakeHands_keep_14 : decode b_ShakeHands_keep 14 = .ok (.iushr, 1) := by decide +kernel
theorem d_ShakeHands_keep_15 : decode b_ShakeHands_keep 15 = .ok (.iconst 1, 1) := by decide +kernel
theorem d_ShakeHands_keep_16 : decode b_ShakeHands_keep 16 = .ok (.iand, 1) := by decide +kernel
theorem d_ShakeHands_keep_17 : decode b_ShakeHands_keep 17 = .ok (.istore_n 2, 1) := by decide +kernel
theorem d_ShakeHands_keep_18 : decode b_ShakeHands_keep 18 = .ok (.aload_n 0, 1) := by decide +kernel
theorem d_ShakeHands_keep_19 : decode b_ShakeHands_keep 19 = .ok (.getfield 39, 3) := by decide +kernel
theorem d_ShakeHands_keep_22 : decode b_ShakeHands_keep 22 = .ok (.iload_n 1, 1) := by decide +kernel
theorem d_ShakeHands_keep_23 : decode b_ShakeHands_keep 23 = .ok (.aaload, 1) := by decide +kernel
theorem d_ShakeHands_keep_24 : decode b_ShakeHands_keep 24 = .ok (.aload_n 0, 1) := by decide +kernel
theorem d_ShakeHands_keep_25 : decode b_ShakeHands_keep 25 = .ok (.getfield 35, 3) := by decide +kernel
theorem d_ShakeHands_keep_28 : decode b_ShakeHands_keep 28 = .ok (.invokevirtual 267, 3) := by decide +kernel
theorem d_ShakeHands_keep_31 : decode b_ShakeHands_keep 31 = .ok (.aload_n 0, 1) := by decide +kernel
theorem d_ShakeHands_keep_32 : decode b_ShakeHands_keep 32 = .ok (.dup, 1) := by decide +kernel
theorem d_ShakeHands_keep_33 : decode b_ShakeHands_keep 33 = .ok (.getfield 107, 3) := by decide +kernel
theorem d_ShakeHands_keep_36 : decode b_ShakeHands_keep 36 = .ok (.iconst 1, 1) := by decide +kernel
theorem d_ShakeHands_keep_37 : decode b_ShakeHands_keep 37 = .ok (.iload_n 1, 1) := by decide +kernel
theorem d_ShakeHands_keep_38 : decode b_ShakeHands_keep 38 = .ok (.ishl, 1) := by decide +kernel
theorem d_ShakeHands_keep_39 : decode b_ShakeHands_keep 39 = .ok (.ior, 1) := by decide +kernel
theorem d_ShakeHands_keep_40 : decode b_ShakeHands_keep 40 = .ok (.putfield 107, 3) := by decide +kernel
theorem d_ShakeHands_keep_43 : decode b_ShakeHands_keep 43 = .ok (.iload_n 2, 1) := by decide +kernel
theorem d_ShakeHands_keep_44 : decode b_ShakeHands_keep 44 = .ok (.ireturn, 1) := by decide +kernel
def X_ShakeHands_keep (n : Nat) (p1 : Int32) (M : Mem) : Option (Int32 × Mem) :=
  bd (X_ShakeHands_isImage n p1 M) fun r1 M2 =>
  (if r1 = 0 then
    some ((-1), M2)
    else
    nm ((((M2.1 0 9).toUInt32 >>> (p1.toUInt32 &&& Int32.toUInt32 31)).toInt32) &&& 1) fun x3 =>
    gd p1 2 (
      bd (X_Minds_copy n (([20, 23] : List Nat).getD p1.toNatClampNeg 0) 16 M2) fun _ M6 =>
      some (x3, si M6 0 9 ((M6.1 0 9) ||| ((1 : Int32) <<< (p1 &&& 31))))))
set_option maxRecDepth 20000 in
set_option maxHeartbeats 4000000 in
theorem C_ShakeHands_keep (n : Nat)   (p1 : Int32) (M : Mem) : Ct y_ShakeHands_keep mt_ShakeHands_keep wI [Value.ref 0, Value.int p1] M (X_ShakeHands_keep n p1 M) := by
  refine ct_of (by decide +kernel) rfl (Nat.le_of_ble_eq_true rfl) ?_
  show J _ _ _ [(0, Value.ref 0), (1, Value.int p1)] _ _ _
  unfold X_ShakeHands_keep
  refine j_iload_n (pc := 0) (q := 1) d_ShakeHands_keep_0 rfl rfl ?_
  refine j_callS1 (pc := 1) d_ShakeHands_keep_1 (C_ShakeHands_isImage n p1 M) cS_ShakeHands_264 cd_ShakeHands_isImage dn_ShakeHands_isImage rfl (by decide) (Nat.le_of_ble_eq_true rfl) (Nat.le_of_ble_eq_true rfl) nr_I (fun r1 M2 => ?_)
  refine j_if_ne (pc := 4) (tgt := 9) d_ShakeHands_keep_4 (by decide) (fun _ => ?_) (fun _ => ?_)
  · refine j_aload_n (pc := 9) (q := 0) d_ShakeHands_keep_9 rfl rfl ?_
    refine j_getI (pc := 10) d_ShakeHands_keep_10 fl_ShakeHands_107 sx_0 (by decide) rfl ?_
    refine j_iload_n (pc := 13) (q := 1) d_ShakeHands_keep_13 rfl rfl ?_
    refine j_iushr (pc := 14) d_ShakeHands_keep_14 ?_
    refine j_iconst (pc := 15) d_ShakeHands_keep_15 k_i_1 ?_
    refine j_iand (pc := 16) d_ShakeHands_keep_16 ?_
    refine j_nmi (fun x3 => ?_)
    refine j_istore_n (pc := 17) d_ShakeHands_keep_17 rfl (by decide) rfl ?_
    refine j_aload_n (pc := 18) (q := 1) d_ShakeHands_keep_18 rfl rfl ?_
    refine j_getA (pc := 19) d_ShakeHands_keep_19 fl_ShakeHands_39 sx_0 (by decide) rfl ?_
    refine j_iload_n (pc := 22) (q := 2) d_ShakeHands_keep_22 rfl rfl ?_
    refine j_aald0 (pc := 23) (ids := [20, 23]) d_ShakeHands_keep_23 sx_19 (fun h4 => ?_)
    refine j_aload_n (pc := 24) (q := 1) d_ShakeHands_keep_24 rfl rfl ?_
    refine j_getA (pc := 25) d_ShakeHands_keep_25 fl_ShakeHands_35 sx_0 (by decide) rfl ?_
    refine j_callV1 (pc := 28) d_ShakeHands_keep_28 (C_Minds_copy n (([20, 23] : List Nat).getD p1.toNatClampNeg 0) 16 ((sh_images h4).1) (sh_images h4).2.1 (sh_images h4).2.2 sx_16 sx_17 sx_18 M2) cV_ShakeHands_267 cd_Minds_copy dn_Minds_copy rfl (by decide) (Nat.le_of_ble_eq_true rfl) (Nat.le_of_ble_eq_true rfl) nr_U ((sh_images h4).1) (by decide) rfl (fun r5 M6 => ?_)
    refine j_aload_n (pc := 31) (q := 1) d_ShakeHands_keep_31 rfl rfl ?_
    refine j_dup (pc := 32) d_ShakeHands_keep_32 rfl ?_
    refine j_getI (pc := 33) d_ShakeHands_keep_33 fl_ShakeHands_107 sx_0 (by decide) rfl ?_
    refine j_iconst (pc := 36) d_ShakeHands_keep_36 k_i_1 ?_
    refine j_iload_n (pc := 37) (q := 2) d_ShakeHands_keep_37 rfl rfl ?_
    refine j_ishl (pc := 38) d_ShakeHands_keep_38 ?_
    refine j_ior (pc := 39) d_ShakeHands_keep_39 ?_
    refine j_putI (pc := 40) d_ShakeHands_keep_40 fl_ShakeHands_107 rfl sx_0 (by decide) rfl ?_
    refine j_iload_n (pc := 43) (q := 0) d_ShakeHands_keep_43 rfl rfl ?_
    exact j_ireturn (pc := 44) d_ShakeHands_keep_44 rfl
  · refine j_iconst (pc := 7) d_ShakeHands_keep_7 k_i_m1 ?_
    exact j_ireturn (pc := 8) d_ShakeHands_keep_8 rfl
-- ShakeHands.back (I)I
def mt_ShakeHands_back : Mt := ("ShakeHands", b_ShakeHands_back, 2, some .int, 3, SHx)
theorem d_ShakeHands_back_0 : decode b_ShakeHands_back 0 = .ok (.iload_n 1, 1) := by decide +kernel
theorem d_ShakeHands_back_1 : decode b_ShakeHands_back 1 = .ok (.invokestatic 264, 3) := by decide +kernel
theorem d_ShakeHands_back_4 : decode b_ShakeHands_back 4 = .ok (.ifCond .ne 5, 3) := by decide +kernel
theorem d_ShakeHands_back_7 : decode b_ShakeHands_back 7 = .ok (.iconst (-1), 1) := by decide +kernel
theorem d_ShakeHands_back_8 : decode b_ShakeHands_back 8 = .ok (.ireturn, 1) := by decide +kernel
theorem d_ShakeHands_back_9 : decode b_ShakeHands_back 9 = .ok (.aload_n 0, 1) := by decide +kernel
theorem d_ShakeHands_back_10 : decode b_ShakeHands_back 10 = .ok (.getfield 107, 3) := by decide +kernel
theorem d_ShakeHands_back_13 : decode b_ShakeHands_back 13 = .ok (.iload_n 1, 1) := by decide +kernel
theorem d_ShakeHands_back_14 : decode b_ShakeHands_back 14 = .ok (.iushr, 1) := by decide +kernel
theorem d_ShakeHands_back_15 : decode b_ShakeHands_back 15 = .ok (.iconst 1, 1) := by decide +kernel
theorem d_ShakeHands_back_16 : decode b_ShakeHands_back 16 = .ok (.iand, 1) := by decide +kernel
theorem d_ShakeHands_back_17 : decode b_ShakeHands_back 17 = .ok (.ifCond .ne 6, 3) := by decide +kernel
theorem d_ShakeHands_back_20 : decode b_ShakeHands_back 20 = .ok (.bipush (-2), 2) := by decide +kernel
theorem d_ShakeHands_back_22 : decode b_ShakeHands_back 22 = .ok (.ireturn, 1) := by decide +kernel
theorem d_ShakeHands_back_23 : decode b_ShakeHands_back 23 = .ok (.aload_n 0, 1) := by decide +kernel
theorem d_ShakeHands_back_24 : decode b_ShakeHands_back 24 = .ok (.getfield 35, 3) := by decide +kernel
theorem d_ShakeHands_back_27 : decode b_ShakeHands_back 27 = .ok (.aload_n 0, 1) := by decide +kernel
theorem d_ShakeHands_back_28 : decode b_ShakeHands_back 28 = .ok (.getfield 39, 3) := by decide +kernel
theorem d_ShakeHands_back_31 : decode b_ShakeHands_back 31 = .ok (.iload_n 1, 1) := by decide +kernel
theorem d_ShakeHands_back_32 : decode b_ShakeHands_back 32 = .ok (.aaload, 1) := by decide +kernel
theorem d_ShakeHands_back_33 : decode b_ShakeHands_back 33 = .ok (.invokevirtual 267, 3) := by decide +kernel
theorem d_ShakeHands_back_36 : decode b_ShakeHands_back 36 = .ok (.aload_n 0, 1) := by decide +kernel
theorem d_ShakeHands_back_37 : decode b_ShakeHands_back 37 = .ok (.getfield 35, 3) := by decide +kernel
theorem d_ShakeHands_back_40 : decode b_ShakeHands_back 40 = .ok (.getfield 93, 3) := by decide +kernel
theorem d_ShakeHands_back_43 : decode b_ShakeHands_back 43 = .ok (.invokestatic 190, 3) := by decide +kernel
theorem d_ShakeHands_back_46 : decode b_ShakeHands_back 46 = .ok (.ireturn, 1) := by decide +kernel
def X_ShakeHands_back (n : Nat) (p1 : Int32) (M : Mem) : Option (Int32 × Mem) :=
  bd (X_ShakeHands_isImage n p1 M) fun r1 M2 =>
  (if r1 = 0 then
    some ((-1), M2)
    else
    (if ((((M2.1 0 9).toUInt32 >>> (p1.toUInt32 &&& Int32.toUInt32 31)).toInt32) &&& 1) = 0 then
      some ((-2), M2)
      else
      gd p1 2 (
        bd (X_Minds_copy n 16 (([20, 23] : List Nat).getD p1.toNatClampNeg 0) M2) fun _ M5 =>
        bd (X_Minds_known n 17 M5) fun r6 M7 =>
        some (r6, M7))))
set_option maxRecDepth 20000 in
set_option maxHeartbeats 4000000 in
theorem C_ShakeHands_back (n : Nat)   (p1 : Int32) (M : Mem) : Ct y_ShakeHands_back mt_ShakeHands_back wI [Value.ref 0, Value.int p1] M (X_ShakeHands_back n p1 M) := by
  refine ct_of (by decide +kernel) rfl (Nat.le_of_ble_eq_true rfl) ?_
  show J _ _ _ [(0, Value.ref 0), (1, Value.int p1)] _ _ _
  unfold X_ShakeHands_back
  refine j_iload_n (pc := 0) (q := 1) d_ShakeHands_back_0 rfl rfl ?_
  refine j_callS1 (pc := 1) d_ShakeHands_back_1 (C_ShakeHands_isImage n p1 M) cS_ShakeHands_264 cd_ShakeHands_isImage dn_ShakeHands_isImage rfl (by decide) (Nat.le_of_ble_eq_true rfl) (Nat.le_of_ble_eq_true rfl) nr_I (fun r1 M2 => ?_)
  refine j_if_ne (pc := 4) (tgt := 9) d_ShakeHands_back_4 (by decide) (fun _ => ?_) (fun _ => ?_)
  · refine j_aload_n (pc := 9) (q := 0) d_ShakeHands_back_9 rfl rfl ?_
    refine j_getI (pc := 10) d_ShakeHands_back_10 fl_ShakeHands_107 sx_0 (by decide) rfl ?_
    refine j_iload_n (pc := 13) (q := 1) d_ShakeHands_back_13 rfl rfl ?_
    refine j_iushr (pc := 14) d_ShakeHands_back_14 ?_
    refine j_iconst (pc := 15) d_ShakeHands_back_15 k_i_1 ?_
    refine j_iand (pc := 16) d_ShakeHands_back_16 ?_
    refine j_if_ne (pc := 17) (tgt := 23) d_ShakeHands_back_17 (by decide) (fun _ => ?_) (fun _ => ?_)
    · refine j_aload_n (pc := 23) (q := 0) d_ShakeHands_back_23 rfl rfl ?_
      refine j_getA (pc := 24) d_ShakeHands_back_24 fl_ShakeHands_35 sx_0 (by decide) rfl ?_
      refine j_aload_n (pc := 27) (q := 0) d_ShakeHands_back_27 rfl rfl ?_
      refine j_getA (pc := 28) d_ShakeHands_back_28 fl_ShakeHands_39 sx_0 (by decide) rfl ?_
      refine j_iload_n (pc := 31) (q := 1) d_ShakeHands_back_31 rfl rfl ?_
      refine j_aald0 (pc := 32) (ids := [20, 23]) d_ShakeHands_back_32 sx_19 (fun h3 => ?_)
      refine j_callV1 (pc := 33) d_ShakeHands_back_33 (C_Minds_copy n 16 (([20, 23] : List Nat).getD p1.toNatClampNeg 0) sx_16 sx_17 sx_18 ((sh_images h3).1) (sh_images h3).2.1 (sh_images h3).2.2 M2) cV_ShakeHands_267 cd_Minds_copy dn_Minds_copy rfl (by decide) (Nat.le_of_ble_eq_true rfl) (Nat.le_of_ble_eq_true rfl) nr_U sx_16 (by decide) rfl (fun r4 M5 => ?_)
      refine j_aload_n (pc := 36) (q := 0) d_ShakeHands_back_36 rfl rfl ?_
      refine j_getA (pc := 37) d_ShakeHands_back_37 fl_ShakeHands_35 sx_0 (by decide) rfl ?_
      refine j_getA (pc := 40) d_ShakeHands_back_40 fl_ShakeHands_93 sx_16 (by decide) rfl ?_
      refine j_callS1 (pc := 43) d_ShakeHands_back_43 (C_Minds_known n 17 sx_17 M5) cS_ShakeHands_190 cd_Minds_known dn_Minds_known rfl (by decide) (Nat.le_of_ble_eq_true rfl) (Nat.le_of_ble_eq_true rfl) nr_I (fun r6 M7 => ?_)
      exact j_ireturn (pc := 46) d_ShakeHands_back_46 rfl
    · refine j_bipush (pc := 20) d_ShakeHands_back_20 k_b_m2 ?_
      exact j_ireturn (pc := 22) d_ShakeHands_back_22 rfl
  · refine j_iconst (pc := 7) d_ShakeHands_back_7 k_i_m1 ?_
    exact j_ireturn (pc := 8) d_ShakeHands_back_8 rfl
-- ShakeHands.isLane (I)Z
def mt_ShakeHands_isLane : Mt := ("ShakeHands", b_ShakeHands_isLane, 1, some .boolean, 2, SHx)
theorem d_ShakeHands_isLane_0 : decode b_ShakeHands_isLane 0 = .ok (.iload_n 0, 1) := by decide +kernel
theorem d_ShakeHands_isLane_1 : decode b_ShakeHands_isLane 1 = .ok (.ifCond .lt 12, 3) := by decide +kernel
theorem d_ShakeHands_isLane_4 : decode b_ShakeHands_isLane 4 = .ok (.iload_n 0, 1) := by decide +kernel
theorem d_ShakeHands_isLane_5 : decode b_ShakeHands_isLane 5 = .ok (.iconst 3, 1) := by decide +kernel
theorem d_ShakeHands_isLane_6 : decode b_ShakeHands_isLane 6 = .ok (.if_icmp .ge 7, 3) := by decide +kernel
theorem d_ShakeHands_isLane_9 : decode b_ShakeHands_isLane 9 = .ok (.iconst 1, 1) := by decide +kernel
theorem d_ShakeHands_isLane_10 : decode b_ShakeHands_isLane 10 = .ok (.goto 4, 3) := by decide +kernel
theorem d_ShakeHands_isLane_13 : decode b_ShakeHands_isLane 13 = .ok (.iconst 0, 1) := by decide +kernel
theorem d_ShakeHands_isLane_14 : decode b_ShakeHands_isLane 14 = .ok (.ireturn, 1) := by decide +kernel
def X_ShakeHands_isLane (n : Nat) (p0 : Int32) (M : Mem) : Option (Int32 × Mem) :=
  (if p0 < 0 then
    some (0, M)
    else
    (if 3 ≤ p0 then
      some (0, M)
      else
      some (1, M)))
set_option maxRecDepth 20000 in
set_option maxHeartbeats 4000000 in
theorem C_ShakeHands_isLane (n : Nat)   (p0 : Int32) (M : Mem) : Ct y_ShakeHands_isLane mt_ShakeHands_isLane wI [Value.int p0] M (X_ShakeHands_isLane n p0 M) := by
  refine ct_of (by decide +kernel) rfl (Nat.le_of_ble_eq_true rfl) ?_
  show J _ _ _ [(0, Value.int p0)] _ _ _
  unfold X_ShakeHands_isLane
  refine j_iload_n (pc := 0) (q := 0) d_ShakeHands_isLane_0 rfl rfl ?_
  refine j_if_lt (pc := 1) (tgt := 13) d_ShakeHands_isLane_1 (by decide) (fun _ => ?_) (fun _ => ?_)
  · refine j_iconst (pc := 13) d_ShakeHands_isLane_13 k_i_0 ?_
    exact j_zreturn (pc := 14) d_ShakeHands_isLane_14 rfl rfl
  · refine j_iload_n (pc := 4) (q := 0) d_ShakeHands_isLane_4 rfl rfl ?_
    refine j_iconst (pc := 5) d_ShakeHands_isLane_5 k_i_3 ?_
    refine j_icmp_ge (pc := 6) (tgt := 13) d_ShakeHands_isLane_6 (by decide) (fun _ => ?_) (fun _ => ?_)
    · refine j_iconst (pc := 13) d_ShakeHands_isLane_13 k_i_0 ?_
      exact j_zreturn (pc := 14) d_ShakeHands_isLane_14 rfl rfl
    · refine j_iconst (pc := 9) d_ShakeHands_isLane_9 k_i_1 ?_
      refine j_goto (pc := 10) (tgt := 14) d_ShakeHands_isLane_10 (by decide) ?_
      exact j_zreturn (pc := 14) d_ShakeHands_isLane_14 rfl rfl
-- ShakeHands.isSheet (I)Z
def mt_ShakeHands_isSheet : Mt := ("ShakeHands", b_ShakeHands_isSheet, 1, some .boolean, 2, SHx)
theorem d_ShakeHands_isSheet_0 : decode b_ShakeHands_isSheet 0 = .ok (.iload_n 0, 1) := by decide +kernel
theorem d_ShakeHands_isSheet_1 : decode b_ShakeHands_isSheet 1 = .ok (.ifCond .lt 12, 3) := by decide +kernel
theorem d_ShakeHands_isSheet_4 : decode b_ShakeHands_isSheet 4 = .ok (.iload_n 0, 1) := by decide +kernel
theorem d_ShakeHands_isSheet_5 : decode b_ShakeHands_isSheet 5 = .ok (.iconst 4, 1) := by decide +kernel
theorem d_ShakeHands_isSheet_6 : decode b_ShakeHands_isSheet 6 = .ok (.if_icmp .ge 7, 3) := by decide +kernel
theorem d_ShakeHands_isSheet_9 : decode b_ShakeHands_isSheet 9 = .ok (.iconst 1, 1) := by decide +kernel
theorem d_ShakeHands_isSheet_10 : decode b_ShakeHands_isSheet 10 = .ok (.goto 4, 3) := by decide +kernel
theorem d_ShakeHands_isSheet_13 : decode b_ShakeHands_isSheet 13 = .ok (.iconst 0, 1) := by decide +kernel
theorem d_ShakeHands_isSheet_14 : decode b_ShakeHands_isSheet 14 = .ok (.ireturn, 1) := by decide +kernel
def X_ShakeHands_isSheet (n : Nat) (p0 : Int32) (M : Mem) : Option (Int32 × Mem) :=
  (if p0 < 0 then
    some (0, M)
    else
    (if 4 ≤ p0 then
      some (0, M)
      else
      some (1, M)))
set_option maxRecDepth 20000 in
set_option maxHeartbeats 4000000 in
theorem C_ShakeHands_isSheet (n : Nat)   (p0 : Int32) (M : Mem) : Ct y_ShakeHands_isSheet mt_ShakeHands_isSheet wI [Value.int p0] M (X_ShakeHands_isSheet n p0 M) := by
  refine ct_of (by decide +kernel) rfl (Nat.le_of_ble_eq_true rfl) ?_
  show J _ _ _ [(0, Value.int p0)] _ _ _
  unfold X_ShakeHands_isSheet
  refine j_iload_n (pc := 0) (q := 0) d_ShakeHands_isSheet_0 rfl rfl ?_
  refine j_if_lt (pc := 1) (tgt := 13) d_ShakeHands_isSheet_1 (by decide) (fun _ => ?_) (fun _ => ?_)
  · refine j_iconst (pc := 13) d_ShakeHands_isSheet_13 k_i_0 ?_
    exact j_zreturn (pc := 14) d_ShakeHands_isSheet_14 rfl rfl
  · refine j_iload_n (pc := 4) (q := 0) d_ShakeHands_isSheet_4 rfl rfl ?_
    refine j_iconst (pc := 5) d_ShakeHands_isSheet_5 k_i_4 ?_
    refine j_icmp_ge (pc := 6) (tgt := 13) d_ShakeHands_isSheet_6 (by decide) (fun _ => ?_) (fun _ => ?_)
    · refine j_iconst (pc := 13) d_ShakeHands_isSheet_13 k_i_0 ?_
      exact j_zreturn (pc := 14) d_ShakeHands_isSheet_14 rfl rfl
    · refine j_iconst (pc := 9) d_ShakeHands_isSheet_9 k_i_1 ?_
      refine j_goto (pc := 10) (tgt := 14) d_ShakeHands_isSheet_10 (by decide) ?_
      exact j_zreturn (pc := 14) d_ShakeHands_isSheet_14 rfl rfl
-- ShakeHands.sheet (III)I
def mt_ShakeHands_sheet : Mt := ("ShakeHands", b_ShakeHands_sheet, 4, some .int, 3, SHx)
theorem d_ShakeHands_sheet_0 : decode b_ShakeHands_sheet 0 = .ok (.iload_n 1, 1) := by decide +kernel
theorem d_ShakeHands_sheet_1 : decode b_ShakeHands_sheet 1 = .ok (.invokestatic 270, 3) := by decide +kernel
theorem d_ShakeHands_sheet_4 : decode b_ShakeHands_sheet 4 = .ok (.ifCond .eq 16, 3) := by decide +kernel
theorem d_ShakeHands_sheet_7 : decode b_ShakeHands_sheet 7 = .ok (.iload_n 2, 1) := by decide +kernel
theorem d_ShakeHands_sheet_8 : decode b_ShakeHands_sheet 8 = .ok (.invokestatic 273, 3) := by decide +kernel
theorem d_ShakeHands_sheet_11 : decode b_ShakeHands_sheet 11 = .ok (.ifCond .eq 9, 3) := by decide +kernel
theorem d_ShakeHands_sheet_14 : decode b_ShakeHands_sheet 14 = .ok (.iload_n 3, 1) := by decide +kernel
theorem d_ShakeHands_sheet_15 : decode b_ShakeHands_sheet 15 = .ok (.bipush 40, 2) := by decide +kernel
theorem d_ShakeHands_sheet_17 : decode b_ShakeHands_sheet 17 = .ok (.if_icmp .le 5, 3) := by decide +kernel
theorem d_ShakeHands_sheet_20 : decode b_ShakeHands_sheet 20 = .ok (.iconst (-1), 1) := by decide +kernel
theorem d_ShakeHands_sheet_21 : decode b_ShakeHands_sheet 21 = .ok (.ireturn, 1) := by decide +kernel
theorem d_ShakeHands_sheet_22 : decode b_ShakeHands_sheet 22 = .ok (.iload_n 3, 1) := by decide +kernel
theorem d_ShakeHands_sheet_23 : decode b_ShakeHands_sheet 23 = .ok (.ifCond .ge 6, 3) := by decide +kernel
theorem d_ShakeHands_sheet_26 : decode b_ShakeHands_sheet 26 = .ok (.bipush (-14), 2) := by decide +kernel
theorem d_ShakeHands_sheet_28 : decode b_ShakeHands_sheet 28 = .ok (.ireturn, 1) := by decide +kernel
theorem d_ShakeHands_sheet_29 : decode b_ShakeHands_sheet 29 = .ok (.aload_n 0, 1) := by decide +kernel
theorem d_ShakeHands_sheet_30 : decode b_ShakeHands_sheet 30 = .ok (.getfield 61, 3) := by decide +kernel
theorem d_ShakeHands_sheet_33 : decode b_ShakeHands_sheet 33 = .ok (.iload_n 1, 1) := by decide +kernel
theorem d_ShakeHands_sheet_34 : decode b_ShakeHands_sheet 34 = .ok (.aaload, 1) := by decide +kernel
theorem d_ShakeHands_sheet_35 : decode b_ShakeHands_sheet 35 = .ok (.iload_n 2, 1) := by decide +kernel
theorem d_ShakeHands_sheet_36 : decode b_ShakeHands_sheet 36 = .ok (.iload_n 3, 1) := by decide +kernel
theorem d_ShakeHands_sheet_37 : decode b_ShakeHands_sheet 37 = .ok (.invokevirtual 276, 3) := by decide +kernel
theorem d_ShakeHands_sheet_40 : decode b_ShakeHands_sheet 40 = .ok (.iconst 1, 1) := by decide +kernel
theorem d_ShakeHands_sheet_41 : decode b_ShakeHands_sheet 41 = .ok (.ireturn, 1) := by decide +kernel
def X_ShakeHands_sheet (n : Nat) (p1 : Int32) (p2 : Int32) (p3 : Int32) (M : Mem) : Option (Int32 × Mem) :=
  bd (X_ShakeHands_isSheet n p1 M) fun r1 M2 =>
  (if r1 = 0 then
    some ((-1), M2)
    else
    bd (X_ShakeHands_isLane n p2 M2) fun r3 M4 =>
    (if r3 = 0 then
      some ((-1), M4)
      else
      (if p3 ≤ 40 then
        (if 0 ≤ p3 then
          gd p1 4 (
            bd (X_Sheet_renew n (([41, 43, 45, 47] : List Nat).getD p1.toNatClampNeg 0) p2 p3 M4) fun _ M7 =>
            some (1, M7))
          else
          some ((-14), M4))
        else
        some ((-1), M4))))
set_option maxRecDepth 20000 in
set_option maxHeartbeats 4000000 in
theorem C_ShakeHands_sheet (n : Nat)   (p1 : Int32) (p2 : Int32) (p3 : Int32) (M : Mem) : Ct y_ShakeHands_sheet mt_ShakeHands_sheet wI [Value.ref 0, Value.int p1, Value.int p2, Value.int p3] M (X_ShakeHands_sheet n p1 p2 p3 M) := by
  refine ct_of (by decide +kernel) rfl (Nat.le_of_ble_eq_true rfl) ?_
  show J _ _ _ [(0, Value.ref 0), (1, Value.int p1), (2, Value.int p2), (3, Value.int p3)] _ _ _
  unfold X_ShakeHands_sheet
  refine j_iload_n (pc := 0) (q := 1) d_ShakeHands_sheet_0 rfl rfl ?_
  refine j_callS1 (pc := 1) d_ShakeHands_sheet_1 (C_ShakeHands_isSheet n p1 M) cS_ShakeHands_270 cd_ShakeHands_isSheet dn_ShakeHands_isSheet rfl (by decide) (Nat.le_of_ble_eq_true rfl) (Nat.le_of_ble_eq_true rfl) nr_I (fun r1 M2 => ?_)
  refine j_if_eq (pc := 4) (tgt := 20) d_ShakeHands_sheet_4 (by decide) (fun _ => ?_) (fun _ => ?_)
  · refine j_iconst (pc := 20) d_ShakeHands_sheet_20 k_i_m1 ?_
    exact j_ireturn (pc := 21) d_ShakeHands_sheet_21 rfl
  · refine j_iload_n (pc := 7) (q := 2) d_ShakeHands_sheet_7 rfl rfl ?_
    refine j_callS1 (pc := 8) d_ShakeHands_sheet_8 (C_ShakeHands_isLane n p2 M2) cS_ShakeHands_273 cd_ShakeHands_isLane dn_ShakeHands_isLane rfl (by decide) (Nat.le_of_ble_eq_true rfl) (Nat.le_of_ble_eq_true rfl) nr_I (fun r3 M4 => ?_)
    refine j_if_eq (pc := 11) (tgt := 20) d_ShakeHands_sheet_11 (by decide) (fun _ => ?_) (fun _ => ?_)
    · refine j_iconst (pc := 20) d_ShakeHands_sheet_20 k_i_m1 ?_
      exact j_ireturn (pc := 21) d_ShakeHands_sheet_21 rfl
    · refine j_iload_n (pc := 14) (q := 3) d_ShakeHands_sheet_14 rfl rfl ?_
      refine j_bipush (pc := 15) d_ShakeHands_sheet_15 k_b_40 ?_
      refine j_icmp_le (pc := 17) (tgt := 22) d_ShakeHands_sheet_17 (by decide) (fun _ => ?_) (fun _ => ?_)
      · refine j_iload_n (pc := 22) (q := 3) d_ShakeHands_sheet_22 rfl rfl ?_
        refine j_if_ge (pc := 23) (tgt := 29) d_ShakeHands_sheet_23 (by decide) (fun _ => ?_) (fun _ => ?_)
        · refine j_aload_n (pc := 29) (q := 0) d_ShakeHands_sheet_29 rfl rfl ?_
          refine j_getA (pc := 30) d_ShakeHands_sheet_30 fl_ShakeHands_61 sx_0 (by decide) rfl ?_
          refine j_iload_n (pc := 33) (q := 1) d_ShakeHands_sheet_33 rfl rfl ?_
          refine j_aald1 (pc := 34) (ids := [41, 43, 45, 47]) d_ShakeHands_sheet_34 sx_40 (fun h5 => ?_)
          refine j_iload_n (pc := 35) (q := 2) d_ShakeHands_sheet_35 rfl rfl ?_
          refine j_iload_n (pc := 36) (q := 3) d_ShakeHands_sheet_36 rfl rfl ?_
          refine j_callV2 (pc := 37) d_ShakeHands_sheet_37 (C_Sheet_renew n (([41, 43, 45, 47] : List Nat).getD p1.toNatClampNeg 0) ((sh_sheets h5).1) (sh_sheets h5).2 p2 p3 M4) cV_ShakeHands_276 cd_Sheet_renew dn_Sheet_renew rfl (by decide) (Nat.le_of_ble_eq_true rfl) (Nat.le_of_ble_eq_true rfl) nr_U ((sh_sheets h5).1) (by decide) rfl (fun r6 M7 => ?_)
          refine j_iconst (pc := 40) d_ShakeHands_sheet_40 k_i_1 ?_
          exact j_ireturn (pc := 41) d_ShakeHands_sheet_41 rfl
        · refine j_bipush (pc := 26) d_ShakeHands_sheet_26 k_b_m14 ?_
          exact j_ireturn (pc := 28) d_ShakeHands_sheet_28 rfl
      · refine j_iconst (pc := 20) d_ShakeHands_sheet_20 k_i_m1 ?_
        exact j_ireturn (pc := 21) d_ShakeHands_sheet_21 rfl
-- ShakeHands.lay (III)I
def mt_ShakeHands_lay : Mt := ("ShakeHands", b_ShakeHands_lay, 5, some .int, 4, SHx)
theorem d_ShakeHands_lay_0 : decode b_ShakeHands_lay 0 = .ok (.iload_n 1, 1) := by decide +kernel
theorem d_ShakeHands_lay_1 : decode b_ShakeHands_lay 1 = .ok (.invokestatic 270, 3) := by decide +kernel
theorem d_ShakeHands_lay_4 : decode b_ShakeHands_lay 4 = .ok (.ifCond .ne 5, 3) := by decide +kernel
theorem d_ShakeHands_lay_7 : decode b_ShakeHands_lay 7 = .ok (.iconst (-1), 1) := by decide +kernel
theorem d_ShakeHands_lay_8 : decode b_ShakeHands_lay 8 = .ok (.ireturn, 1) := by decide +kernel
theorem d_ShakeHands_lay_9 : decode b_ShakeHands_lay 9 = .ok (.aload_n 0, 1) := by decide +kernel
theorem d_ShakeHands_lay_10 : decode b_ShakeHands_lay 10 = .ok (.getfield 61, 3) := by decide +kernel
theorem d_ShakeHands_lay_13 : decode b_ShakeHands_lay 13 = .ok (.iload_n 1, 1) := by decide +kernel
theorem d_ShakeHands_lay_14 : decode b_ShakeHands_lay 14 = .ok (.aaload, 1) := by decide +kernel
theorem d_ShakeHands_lay_15 : decode b_ShakeHands_lay 15 = .ok (.iload_n 2, 1) := by decide +kernel
theorem d_ShakeHands_lay_16 : decode b_ShakeHands_lay 16 = .ok (.invokevirtual 280, 3) := by decide +kernel
theorem d_ShakeHands_lay_19 : decode b_ShakeHands_lay 19 = .ok (.istore 4, 2) := by decide +kernel
theorem d_ShakeHands_lay_21 : decode b_ShakeHands_lay 21 = .ok (.iload 4, 2) := by decide +kernel
theorem d_ShakeHands_lay_23 : decode b_ShakeHands_lay 23 = .ok (.ifCond .eq 9, 3) := by decide +kernel
theorem d_ShakeHands_lay_26 : decode b_ShakeHands_lay 26 = .ok (.bipush (-10), 2) := by decide +kernel
theorem d_ShakeHands_lay_28 : decode b_ShakeHands_lay 28 = .ok (.iload 4, 2) := by decide +kernel
theorem d_ShakeHands_lay_30 : decode b_ShakeHands_lay 30 = .ok (.isub, 1) := by decide +kernel
theorem d_ShakeHands_lay_31 : decode b_ShakeHands_lay 31 = .ok (.ireturn, 1) := by decide +kernel
theorem d_ShakeHands_lay_32 : decode b_ShakeHands_lay 32 = .ok (.aload_n 0, 1) := by decide +kernel
theorem d_ShakeHands_lay_33 : decode b_ShakeHands_lay 33 = .ok (.getfield 61, 3) := by decide +kernel
theorem d_ShakeHands_lay_36 : decode b_ShakeHands_lay 36 = .ok (.iload_n 1, 1) := by decide +kernel
theorem d_ShakeHands_lay_37 : decode b_ShakeHands_lay 37 = .ok (.aaload, 1) := by decide +kernel
theorem d_ShakeHands_lay_38 : decode b_ShakeHands_lay 38 = .ok (.iload_n 2, 1) := by decide +kernel
theorem d_ShakeHands_lay_39 : decode b_ShakeHands_lay 39 = .ok (.iload_n 3, 1) := by decide +kernel
theorem d_ShakeHands_lay_40 : decode b_ShakeHands_lay 40 = .ok (.invokevirtual 283, 3) := by decide +kernel
theorem d_ShakeHands_lay_43 : decode b_ShakeHands_lay 43 = .ok (.iconst 1, 1) := by decide +kernel
theorem d_ShakeHands_lay_44 : decode b_ShakeHands_lay 44 = .ok (.ireturn, 1) := by decide +kernel
def X_ShakeHands_lay (n : Nat) (p1 : Int32) (p2 : Int32) (p3 : Int32) (M : Mem) : Option (Int32 × Mem) :=
  bd (X_ShakeHands_isSheet n p1 M) fun r1 M2 =>
  (if r1 = 0 then
    some ((-1), M2)
    else
    gd p1 4 (
      bd (X_Sheet_faultAt n (([41, 43, 45, 47] : List Nat).getD p1.toNatClampNeg 0) p2 M2) fun r4 M5 =>
      (if r4 = 0 then
        gd p1 4 (
          bd (X_Sheet_put n (([41, 43, 45, 47] : List Nat).getD p1.toNatClampNeg 0) p2 p3 M5) fun _ M8 =>
          some (1, M8))
        else
        some ((((-10) : Int32) - r4), M5))))
set_option maxRecDepth 20000 in
set_option maxHeartbeats 4000000 in
theorem C_ShakeHands_lay (n : Nat)   (p1 : Int32) (p2 : Int32) (p3 : Int32) (M : Mem) : Ct y_ShakeHands_lay mt_ShakeHands_lay wI [Value.ref 0, Value.int p1, Value.int p2, Value.int p3] M (X_ShakeHands_lay n p1 p2 p3 M) := by
  refine ct_of (by decide +kernel) rfl (Nat.le_of_ble_eq_true rfl) ?_
  show J _ _ _ [(0, Value.ref 0), (1, Value.int p1), (2, Value.int p2), (3, Value.int p3)] _ _ _
  unfold X_ShakeHands_lay
  refine j_iload_n (pc := 0) (q := 1) d_ShakeHands_lay_0 rfl rfl ?_
  refine j_callS1 (pc := 1) d_ShakeHands_lay_1 (C_ShakeHands_isSheet n p1 M) cS_ShakeHands_270 cd_ShakeHands_isSheet dn_ShakeHands_isSheet rfl (by decide) (Nat.le_of_ble_eq_true rfl) (Nat.le_of_ble_eq_true rfl) nr_I (fun r1 M2 => ?_)
  refine j_if_ne (pc := 4) (tgt := 9) d_ShakeHands_lay_4 (by decide) (fun _ => ?_) (fun _ => ?_)
  · refine j_aload_n (pc := 9) (q := 0) d_ShakeHands_lay_9 rfl rfl ?_
    refine j_getA (pc := 10) d_ShakeHands_lay_10 fl_ShakeHands_61 sx_0 (by decide) rfl ?_
    refine j_iload_n (pc := 13) (q := 1) d_ShakeHands_lay_13 rfl rfl ?_
    refine j_aald1 (pc := 14) (ids := [41, 43, 45, 47]) d_ShakeHands_lay_14 sx_40 (fun h3 => ?_)
    refine j_iload_n (pc := 15) (q := 2) d_ShakeHands_lay_15 rfl rfl ?_
    refine j_callV1 (pc := 16) d_ShakeHands_lay_16 (C_Sheet_faultAt n (([41, 43, 45, 47] : List Nat).getD p1.toNatClampNeg 0) ((sh_sheets h3).1) (sh_sheets h3).2 p2 M2) cV_ShakeHands_280 cd_Sheet_faultAt dn_Sheet_faultAt rfl (by decide) (Nat.le_of_ble_eq_true rfl) (Nat.le_of_ble_eq_true rfl) nr_I ((sh_sheets h3).1) (by decide) rfl (fun r4 M5 => ?_)
    refine j_istore (pc := 19) d_ShakeHands_lay_19 (by decide) rfl ?_
    refine j_iload (pc := 21) (q := 0) d_ShakeHands_lay_21 rfl ?_
    refine j_if_eq (pc := 23) (tgt := 32) d_ShakeHands_lay_23 (by decide) (fun _ => ?_) (fun _ => ?_)
    · refine j_aload_n (pc := 32) (q := 1) d_ShakeHands_lay_32 rfl rfl ?_
      refine j_getA (pc := 33) d_ShakeHands_lay_33 fl_ShakeHands_61 sx_0 (by decide) rfl ?_
      refine j_iload_n (pc := 36) (q := 2) d_ShakeHands_lay_36 rfl rfl ?_
      refine j_aald1 (pc := 37) (ids := [41, 43, 45, 47]) d_ShakeHands_lay_37 sx_40 (fun h6 => ?_)
      refine j_iload_n (pc := 38) (q := 3) d_ShakeHands_lay_38 rfl rfl ?_
      refine j_iload_n (pc := 39) (q := 4) d_ShakeHands_lay_39 rfl rfl ?_
      refine j_callV2 (pc := 40) d_ShakeHands_lay_40 (C_Sheet_put n (([41, 43, 45, 47] : List Nat).getD p1.toNatClampNeg 0) ((sh_sheets h6).1) (sh_sheets h6).2 p2 p3 M5) cV_ShakeHands_283 cd_Sheet_put dn_Sheet_put rfl (by decide) (Nat.le_of_ble_eq_true rfl) (Nat.le_of_ble_eq_true rfl) nr_U ((sh_sheets h6).1) (by decide) rfl (fun r7 M8 => ?_)
      refine j_iconst (pc := 43) d_ShakeHands_lay_43 k_i_1 ?_
      exact j_ireturn (pc := 44) d_ShakeHands_lay_44 rfl
    · refine j_bipush (pc := 26) d_ShakeHands_lay_26 k_b_m10 ?_
      refine j_iload (pc := 28) (q := 0) d_ShakeHands_lay_28 rfl ?_
      refine j_isub (pc := 30) d_ShakeHands_lay_30 ?_
      exact j_ireturn (pc := 31) d_ShakeHands_lay_31 rfl
  · refine j_iconst (pc := 7) d_ShakeHands_lay_7 k_i_m1 ?_
    exact j_ireturn (pc := 8) d_ShakeHands_lay_8 rfl
-- ShakeHands.read (IIII)I
def mt_ShakeHands_read : Mt := ("ShakeHands", b_ShakeHands_read, 10, some .int, 6, SHx)
theorem d_ShakeHands_read_0 : decode b_ShakeHands_read 0 = .ok (.iload_n 1, 1) := by decide +kernel
theorem d_ShakeHands_read_1 : decode b_ShakeHands_read 1 = .ok (.invokestatic 270, 3) := by decide +kernel
theorem d_ShakeHands_read_4 : decode b_ShakeHands_read 4 = .ok (.ifCond .eq 22, 3) := by decide +kernel
theorem d_ShakeHands_read_7 : decode b_ShakeHands_read 7 = .ok (.iload_n 2, 1) := by decide +kernel
theorem d_ShakeHands_read_8 : decode b_ShakeHands_read 8 = .ok (.invokestatic 273, 3) := by decide +kernel
theorem d_ShakeHands_read_11 : decode b_ShakeHands_read 11 = .ok (.ifCond .eq 15, 3) := by decide +kernel
theorem d_ShakeHands_read_14 : decode b_ShakeHands_read 14 = .ok (.iload 4, 2) := by decide +kernel
theorem d_ShakeHands_read_16 : decode b_ShakeHands_read 16 = .ok (.ifCond .lt 10, 3) := by decide +kernel
theorem d_ShakeHands_read_19 : decode b_ShakeHands_read 19 = .ok (.iload 4, 2) := by decide +kernel
theorem d_ShakeHands_read_21 : decode b_ShakeHands_read 21 = .ok (.bipush 20, 2) := by decide +kernel
theorem d_ShakeHands_read_23 : decode b_ShakeHands_read 23 = .ok (.if_icmp .le 5, 3) := by decide +kernel
theorem d_ShakeHands_read_26 : decode b_ShakeHands_read 26 = .ok (.iconst (-1), 1) := by decide +kernel
theorem d_ShakeHands_read_27 : decode b_ShakeHands_read 27 = .ok (.ireturn, 1) := by decide +kernel
theorem d_ShakeHands_read_28 : decode b_ShakeHands_read 28 = .ok (.aload_n 0, 1) := by decide +kernel
theorem d_ShakeHands_read_29 : decode b_ShakeHands_read 29 = .ok (.getfield 61, 3) := by decide +kernel
theorem d_ShakeHands_read_32 : decode b_ShakeHands_read 32 = .ok (.iload_n 1, 1) := by decide +kernel
theorem d_ShakeHands_read_33 : decode b_ShakeHands_read 33 = .ok (.aaload, 1) := by decide +kernel
theorem d_ShakeHands_read_34 : decode b_ShakeHands_read 34 = .ok (.astore 5, 2) := by decide +kernel
theorem d_ShakeHands_read_36 : decode b_ShakeHands_read 36 = .ok (.iconst 0, 1) := by decide +kernel
theorem d_ShakeHands_read_37 : decode b_ShakeHands_read 37 = .ok (.istore 6, 2) := by decide +kernel
theorem d_ShakeHands_read_39 : decode b_ShakeHands_read 39 = .ok (.iconst 0, 1) := by decide +kernel
theorem d_ShakeHands_read_40 : decode b_ShakeHands_read 40 = .ok (.istore 7, 2) := by decide +kernel
theorem d_ShakeHands_read_42 : decode b_ShakeHands_read 42 = .ok (.iconst 0, 1) := by decide +kernel
theorem d_ShakeHands_read_43 : decode b_ShakeHands_read 43 = .ok (.istore 8, 2) := by decide +kernel
theorem d_ShakeHands_read_45 : decode b_ShakeHands_read 45 = .ok (.iload 8, 2) := by decide +kernel
theorem d_ShakeHands_read_47 : decode b_ShakeHands_read 47 = .ok (.iload 4, 2) := by decide +kernel
theorem d_ShakeHands_read_49 : decode b_ShakeHands_read 49 = .ok (.if_icmp .ge 71, 3) := by decide +kernel
theorem d_ShakeHands_read_52 : decode b_ShakeHands_read 52 = .ok (.aload 5, 2) := by decide +kernel
theorem d_ShakeHands_read_54 : decode b_ShakeHands_read 54 = .ok (.iload_n 2, 1) := by decide +kernel
theorem d_ShakeHands_read_55 : decode b_ShakeHands_read 55 = .ok (.iload_n 3, 1) := by decide +kernel
theorem d_ShakeHands_read_56 : decode b_ShakeHands_read 56 = .ok (.iconst 2, 1) := by decide +kernel
theorem d_ShakeHands_read_57 : decode b_ShakeHands_read 57 = .ok (.iload 8, 2) := by decide +kernel
theorem d_ShakeHands_read_59 : decode b_ShakeHands_read 59 = .ok (.imul, 1) := by decide +kernel
theorem d_ShakeHands_read_60 : decode b_ShakeHands_read 60 = .ok (.iadd, 1) := by decide +kernel
theorem d_ShakeHands_read_61 : decode b_ShakeHands_read 61 = .ok (.invokevirtual 286, 3) := by decide +kernel
theorem d_ShakeHands_read_64 : decode b_ShakeHands_read 64 = .ok (.istore 7, 2) := by decide +kernel
theorem d_ShakeHands_read_66 : decode b_ShakeHands_read 66 = .ok (.iload 7, 2) := by decide +kernel
theorem d_ShakeHands_read_68 : decode b_ShakeHands_read 68 = .ok (.ifCond .eq 6, 3) := by decide +kernel
theorem d_ShakeHands_read_71 : decode b_ShakeHands_read 71 = .ok (.goto 49, 3) := by decide +kernel
theorem d_ShakeHands_read_74 : decode b_ShakeHands_read 74 = .ok (.aload_n 0, 1) := by decide +kernel
theorem d_ShakeHands_read_75 : decode b_ShakeHands_read 75 = .ok (.aload 5, 2) := by decide +kernel
theorem d_ShakeHands_read_77 : decode b_ShakeHands_read 77 = .ok (.iload_n 3, 1) := by decide +kernel
theorem d_ShakeHands_read_78 : decode b_ShakeHands_read 78 = .ok (.iconst 2, 1) := by decide +kernel
theorem d_ShakeHands_read_79 : decode b_ShakeHands_read 79 = .ok (.iload 8, 2) := by decide +kernel
theorem d_ShakeHands_read_81 : decode b_ShakeHands_read 81 = .ok (.imul, 1) := by decide +kernel
theorem d_ShakeHands_read_82 : decode b_ShakeHands_read 82 = .ok (.iadd, 1) := by decide +kernel
theorem d_ShakeHands_read_83 : decode b_ShakeHands_read 83 = .ok (.invokevirtual 289, 3) := by decide +kernel
theorem d_ShakeHands_read_86 : decode b_ShakeHands_read 86 = .ok (.aload 5, 2) := by decide +kernel
theorem d_ShakeHands_read_88 : decode b_ShakeHands_read 88 = .ok (.iload_n 3, 1) := by decide +kernel
theorem d_ShakeHands_read_89 : decode b_ShakeHands_read 89 = .ok (.iconst 2, 1) := by decide +kernel
theorem d_ShakeHands_read_90 : decode b_ShakeHands_read 90 = .ok (.iload 8, 2) := by decide +kernel
theorem d_ShakeHands_read_92 : decode b_ShakeHands_read 92 = .ok (.imul, 1) := by decide +kernel
theorem d_ShakeHands_read_93 : decode b_ShakeHands_read 93 = .ok (.iadd, 1) := by decide +kernel
theorem d_ShakeHands_read_94 : decode b_ShakeHands_read 94 = .ok (.iconst 1, 1) := by decide +kernel
theorem d_ShakeHands_read_95 : decode b_ShakeHands_read 95 = .ok (.iadd, 1) := by decide +kernel
theorem d_ShakeHands_read_96 : decode b_ShakeHands_read 96 = .ok (.invokevirtual 289, 3) := by decide +kernel
theorem d_ShakeHands_read_99 : decode b_ShakeHands_read 99 = .ok (.invokevirtual 176, 3) := by decide +kernel
theorem d_ShakeHands_read_102 : decode b_ShakeHands_read 102 = .ok (.ifCond .ne 9, 3) := by decide +kernel
theorem d_ShakeHands_read_105 : decode b_ShakeHands_read 105 = .ok (.bipush (-20), 2) := by decide +kernel
theorem d_ShakeHands_read_107 : decode b_ShakeHands_read 107 = .ok (.iload 8, 2) := by decide +kernel
theorem d_ShakeHands_read_109 : decode b_ShakeHands_read 109 = .ok (.isub, 1) := by decide +kernel
theorem d_ShakeHands_read_110 : decode b_ShakeHands_read 110 = .ok (.ireturn, 1) := by decide +kernel
theorem d_ShakeHands_read_111 : decode b_ShakeHands_read 111 = .ok (.iinc 6 1, 3) := by decide +kernel
theorem d_ShakeHands_read_114 : decode b_ShakeHands_read 114 = .ok (.iinc 8 1, 3) := by decide +kernel
theorem d_ShakeHands_read_117 : decode b_ShakeHands_read 117 = .ok (.goto (-72), 3) := by decide +kernel
theorem d_ShakeHands_read_120 : decode b_ShakeHands_read 120 = .ok (.iconst 0, 1) := by decide +kernel
theorem d_ShakeHands_read_121 : decode b_ShakeHands_read 121 = .ok (.istore 8, 2) := by decide +kernel
theorem d_ShakeHands_read_123 : decode b_ShakeHands_read 123 = .ok (.iload 8, 2) := by decide +kernel
theorem d_ShakeHands_read_125 : decode b_ShakeHands_read 125 = .ok (.iload 6, 2) := by decide +kernel
theorem d_ShakeHands_read_127 : decode b_ShakeHands_read 127 = .ok (.if_icmp .ge 62, 3) := by decide +kernel
theorem d_ShakeHands_read_130 : decode b_ShakeHands_read 130 = .ok (.aload 5, 2) := by decide +kernel
theorem d_ShakeHands_read_132 : decode b_ShakeHands_read 132 = .ok (.iload_n 3, 1) := by decide +kernel
theorem d_ShakeHands_read_133 : decode b_ShakeHands_read 133 = .ok (.iconst 2, 1) := by decide +kernel
theorem d_ShakeHands_read_134 : decode b_ShakeHands_read 134 = .ok (.iload 8, 2) := by decide +kernel
theorem d_ShakeHands_read_136 : decode b_ShakeHands_read 136 = .ok (.imul, 1) := by decide +kernel
theorem d_ShakeHands_read_137 : decode b_ShakeHands_read 137 = .ok (.iadd, 1) := by decide +kernel
theorem d_ShakeHands_read_138 : decode b_ShakeHands_read 138 = .ok (.invokevirtual 289, 3) := by decide +kernel
theorem d_ShakeHands_read_141 : decode b_ShakeHands_read 141 = .ok (.aload 5, 2) := by decide +kernel
theorem d_ShakeHands_read_143 : decode b_ShakeHands_read 143 = .ok (.iload_n 3, 1) := by decide +kernel
theorem d_ShakeHands_read_144 : decode b_ShakeHands_read 144 = .ok (.iconst 2, 1) := by decide +kernel
theorem d_ShakeHands_read_145 : decode b_ShakeHands_read 145 = .ok (.iload 8, 2) := by decide +kernel
theorem d_ShakeHands_read_147 : decode b_ShakeHands_read 147 = .ok (.imul, 1) := by decide +kernel
theorem d_ShakeHands_read_148 : decode b_ShakeHands_read 148 = .ok (.iadd, 1) := by decide +kernel
theorem d_ShakeHands_read_149 : decode b_ShakeHands_read 149 = .ok (.iconst 1, 1) := by decide +kernel
theorem d_ShakeHands_read_150 : decode b_ShakeHands_read 150 = .ok (.iadd, 1) := by decide +kernel
theorem d_ShakeHands_read_151 : decode b_ShakeHands_read 151 = .ok (.invokevirtual 289, 3) := by decide +kernel
theorem d_ShakeHands_read_154 : decode b_ShakeHands_read 154 = .ok (.invokestatic 179, 3) := by decide +kernel
theorem d_ShakeHands_read_157 : decode b_ShakeHands_read 157 = .ok (.istore 9, 2) := by decide +kernel
theorem d_ShakeHands_read_159 : decode b_ShakeHands_read 159 = .ok (.aload_n 0, 1) := by decide +kernel
theorem d_ShakeHands_read_160 : decode b_ShakeHands_read 160 = .ok (.getfield 28, 3) := by decide +kernel
theorem d_ShakeHands_read_163 : decode b_ShakeHands_read 163 = .ok (.aload_n 0, 1) := by decide +kernel
theorem d_ShakeHands_read_164 : decode b_ShakeHands_read 164 = .ok (.getfield 35, 3) := by decide +kernel
theorem d_ShakeHands_read_167 : decode b_ShakeHands_read 167 = .ok (.getfield 93, 3) := by decide +kernel
theorem d_ShakeHands_read_170 : decode b_ShakeHands_read 170 = .ok (.aload_n 0, 1) := by decide +kernel
theorem d_ShakeHands_read_171 : decode b_ShakeHands_read 171 = .ok (.getfield 35, 3) := by decide +kernel
theorem d_ShakeHands_read_174 : decode b_ShakeHands_read 174 = .ok (.getfield 103, 3) := by decide +kernel
theorem d_ShakeHands_read_177 : decode b_ShakeHands_read 177 = .ok (.iload 9, 2) := by decide +kernel
theorem d_ShakeHands_read_179 : decode b_ShakeHands_read 179 = .ok (.invokevirtual 183, 3) := by decide +kernel
theorem d_ShakeHands_read_182 : decode b_ShakeHands_read 182 = .ok (.pop, 1) := by decide +kernel
theorem d_ShakeHands_read_183 : decode b_ShakeHands_read 183 = .ok (.iinc 8 1, 3) := by decide +kernel
theorem d_ShakeHands_read_186 : decode b_ShakeHands_read 186 = .ok (.goto (-63), 3) := by decide +kernel
theorem d_ShakeHands_read_189 : decode b_ShakeHands_read 189 = .ok (.aload_n 0, 1) := by decide +kernel
theorem d_ShakeHands_read_190 : decode b_ShakeHands_read 190 = .ok (.iload 7, 2) := by decide +kernel
theorem d_ShakeHands_read_192 : decode b_ShakeHands_read 192 = .ok (.putfield 292, 3) := by decide +kernel
theorem d_ShakeHands_read_195 : decode b_ShakeHands_read 195 = .ok (.iload 6, 2) := by decide +kernel
theorem d_ShakeHands_read_197 : decode b_ShakeHands_read 197 = .ok (.ireturn, 1) := by decide +kernel
def X_ShakeHands_read_L45 (n : Nat) (a2 : Int32) (a3 : Int32) (a4 : Int32) (b5 : Nat) (kx120 : Int32 → Int32 → Mem → Option (Int32 × Mem)) : Nat → Int32 → Int32 → Int32 → Mem → Option (Int32 × Mem)
    | 0, _, _, _, _ => none
    | m + 1, v6, v7, v8, M => (if a4 ≤ v8 then
    kx120 v6 v7 M
    else
    bd (X_Sheet_faultOfTwo n b5 a2 (a3 + ((2 : Int32) * v8)) M) fun r6 M7 =>
    (if r6 = 0 then
      bd (X_Sheet_cellAt n b5 (a3 + ((2 : Int32) * v8)) M7) fun r8 M9 =>
      bd (X_Sheet_cellAt n b5 ((a3 + ((2 : Int32) * v8)) + 1) M9) fun r10 M11 =>
      bd (X_ShakeHands_areTwo n r8 r10 M11) fun r12 M13 =>
      (if r12 = 0 then
        some ((((-20) : Int32) - v8), M13)
        else
        X_ShakeHands_read_L45 n a2 a3 a4 b5 kx120 m (v6 + 1) r6 (v8 + 1) M13)
      else
      kx120 v6 r6 M7))
def X_ShakeHands_read_L123 (n : Nat) (a3 : Int32) (b5 : Nat) (a6 : Int32) (a7 : Int32) (kx189 : Mem → Option (Int32 × Mem)) : Nat → Int32 → Mem → Option (Int32 × Mem)
    | 0, _, _ => none
    | m + 1, v8, M => (if a6 ≤ v8 then
    kx189 M
    else
    bd (X_Sheet_cellAt n b5 (a3 + ((2 : Int32) * v8)) M) fun r17 M18 =>
    bd (X_Sheet_cellAt n b5 ((a3 + ((2 : Int32) * v8)) + 1) M18) fun r19 M20 =>
    bd (X_ShakeHands_pairOf n r17 r19 M20) fun r21 M22 =>
    bd (X_Circle_meet n 17 (M22.1 16 1) r21 M22) fun r23 M24 =>
    X_ShakeHands_read_L123 n a3 b5 a6 a7 kx189 m (v8 + 1) M24)
def X_ShakeHands_read (n : Nat) (p1 : Int32) (p2 : Int32) (p3 : Int32) (p4 : Int32) (M : Mem) : Option (Int32 × Mem) :=
  bd (X_ShakeHands_isSheet n p1 M) fun r1 M2 =>
  (if r1 = 0 then
    some ((-1), M2)
    else
    bd (X_ShakeHands_isLane n p2 M2) fun r3 M4 =>
    (if r3 = 0 then
      some ((-1), M4)
      else
      (if p4 < 0 then
        some ((-1), M4)
        else
        (if p4 ≤ 20 then
          gd p1 4 (
            X_ShakeHands_read_L45 n p2 p3 p4 (([41, 43, 45, 47] : List Nat).getD p1.toNatClampNeg 0) (fun y14 y15 M16 => X_ShakeHands_read_L123 n p3 (([41, 43, 45, 47] : List Nat).getD p1.toNatClampNeg 0) y14 y15 (fun M25 => some (y14, si M25 0 10 y15)) n 0 M16) n 0 0 0 M4)
          else
          some ((-1), M4)))))
set_option maxRecDepth 20000 in
set_option maxHeartbeats 4000000 in
theorem X_ShakeHands_read_L45_ok {n : Nat} {a2 : Int32} {a3 : Int32} {a4 : Int32} {b5 : Nat} (h_b5 : SHx[b5]? = some (5, [0, 0, 0, b5 + 1 + 2])) (h_b51 : SHx[b5 + 1]? = some (100, [40])) {kx120 : Int32 → Int32 → Mem → Option (Int32 × Mem)} (hkx120 : ∀ (w6 : Int32) (w7 : Int32) (M : Mem), J (mt_ShakeHands_read) wI 120 [(0, Value.ref 0), (3, Value.int a3), (5, Value.ref b5), (6, Value.int w6), (7, Value.int w7)] [] M (kx120 w6 w7 M)) : ∀ (m : Nat) (v6 : Int32) (v7 : Int32) (v8 : Int32) (M : Mem), J (mt_ShakeHands_read) wI 45 [(0, Value.ref 0), (2, Value.int a2), (3, Value.int a3), (4, Value.int a4), (5, Value.ref b5), (6, Value.int v6), (7, Value.int v7), (8, Value.int v8)] [] M (X_ShakeHands_read_L45 n a2 a3 a4 b5 kx120 m v6 v7 v8 M) := by
  intro m
  induction m with
  | zero => intro _ _ _ _; exact j_none
  | succ m ih =>
    intro v6 v7 v8 M
    show J _ _ _ _ _ _ ((if a4 ≤ v8 then
kx120 v6 v7 M
else
bd (X_Sheet_faultOfTwo n b5 a2 (a3 + ((2 : Int32) * v8)) M) fun r6 M7 =>
(if r6 = 0 then
bd (X_Sheet_cellAt n b5 (a3 + ((2 : Int32) * v8)) M7) fun r8 M9 =>
bd (X_Sheet_cellAt n b5 ((a3 + ((2 : Int32) * v8)) + 1) M9) fun r10 M11 =>
bd (X_ShakeHands_areTwo n r8 r10 M11) fun r12 M13 =>
(if r12 = 0 then
some ((((-20) : Int32) - v8), M13)
else
X_ShakeHands_read_L45 n a2 a3 a4 b5 kx120 m (v6 + 1) r6 (v8 + 1) M13)
else
kx120 v6 r6 M7)))
    refine j_iload (pc := 45) (q := 7) d_ShakeHands_read_45 rfl ?_
    refine j_iload (pc := 47) (q := 3) d_ShakeHands_read_47 rfl ?_
    refine j_icmp_ge (pc := 49) (tgt := 120) d_ShakeHands_read_49 (by decide) (fun _ => ?_) (fun _ => ?_)
    · refine j_lv [0, 2, 4, 5, 6] rfl ?_
      exact hkx120 v6 v7 M
    · refine j_aload (pc := 52) (q := 4) d_ShakeHands_read_52 rfl ?_
      refine j_iload_n (pc := 54) (q := 1) d_ShakeHands_read_54 rfl rfl ?_
      refine j_iload_n (pc := 55) (q := 2) d_ShakeHands_read_55 rfl rfl ?_
      refine j_iconst (pc := 56) d_ShakeHands_read_56 k_i_2 ?_
      refine j_iload (pc := 57) (q := 7) d_ShakeHands_read_57 rfl ?_
      refine j_imul (pc := 59) d_ShakeHands_read_59 ?_
      refine j_iadd (pc := 60) d_ShakeHands_read_60 ?_
      refine j_callV2 (pc := 61) d_ShakeHands_read_61 (C_Sheet_faultOfTwo n b5 h_b5 h_b51 a2 (a3 + ((2 : Int32) * v8)) M) cV_ShakeHands_286 cd_Sheet_faultOfTwo dn_Sheet_faultOfTwo rfl (by decide) (Nat.le_of_ble_eq_true rfl) (Nat.le_of_ble_eq_true rfl) nr_I h_b5 (by decide) rfl (fun r6 M7 => ?_)
      refine j_istore (pc := 64) d_ShakeHands_read_64 (by decide) rfl ?_
      refine j_iload (pc := 66) (q := 0) d_ShakeHands_read_66 rfl ?_
      refine j_if_eq (pc := 68) (tgt := 74) d_ShakeHands_read_68 (by decide) (fun _ => ?_) (fun _ => ?_)
      · refine j_aload_n (pc := 74) (q := 1) d_ShakeHands_read_74 rfl rfl ?_
        refine j_aload (pc := 75) (q := 5) d_ShakeHands_read_75 rfl ?_
        refine j_iload_n (pc := 77) (q := 3) d_ShakeHands_read_77 rfl rfl ?_
        refine j_iconst (pc := 78) d_ShakeHands_read_78 k_i_2 ?_
        refine j_iload (pc := 79) (q := 7) d_ShakeHands_read_79 rfl ?_
        refine j_imul (pc := 81) d_ShakeHands_read_81 ?_
        refine j_iadd (pc := 82) d_ShakeHands_read_82 ?_
        refine j_callV1 (pc := 83) d_ShakeHands_read_83 (C_Sheet_cellAt n b5 h_b5 h_b51 (a3 + ((2 : Int32) * v8)) M7) cV_ShakeHands_289 cd_Sheet_cellAt dn_Sheet_cellAt rfl (by decide) (Nat.le_of_ble_eq_true rfl) (Nat.le_of_ble_eq_true rfl) nr_I h_b5 (by decide) rfl (fun r8 M9 => ?_)
        refine j_aload (pc := 86) (q := 5) d_ShakeHands_read_86 rfl ?_
        refine j_iload_n (pc := 88) (q := 3) d_ShakeHands_read_88 rfl rfl ?_
        refine j_iconst (pc := 89) d_ShakeHands_read_89 k_i_2 ?_
        refine j_iload (pc := 90) (q := 7) d_ShakeHands_read_90 rfl ?_
        refine j_imul (pc := 92) d_ShakeHands_read_92 ?_
        refine j_iadd (pc := 93) d_ShakeHands_read_93 ?_
        refine j_iconst (pc := 94) d_ShakeHands_read_94 k_i_1 ?_
        refine j_iadd (pc := 95) d_ShakeHands_read_95 ?_
        refine j_callV1 (pc := 96) d_ShakeHands_read_96 (C_Sheet_cellAt n b5 h_b5 h_b51 ((a3 + ((2 : Int32) * v8)) + 1) M9) cV_ShakeHands_289 cd_Sheet_cellAt dn_Sheet_cellAt rfl (by decide) (Nat.le_of_ble_eq_true rfl) (Nat.le_of_ble_eq_true rfl) nr_I h_b5 (by decide) rfl (fun r10 M11 => ?_)
        refine j_callV2 (pc := 99) d_ShakeHands_read_99 (C_ShakeHands_areTwo n r8 r10 M11) cV_ShakeHands_176 cd_ShakeHands_areTwo dn_ShakeHands_areTwo rfl (by decide) (Nat.le_of_ble_eq_true rfl) (Nat.le_of_ble_eq_true rfl) nr_I sx_0 (by decide) rfl (fun r12 M13 => ?_)
        refine j_if_ne (pc := 102) (tgt := 111) d_ShakeHands_read_102 (by decide) (fun _ => ?_) (fun _ => ?_)
        · refine j_iinc (pc := 111) (q := 6) d_ShakeHands_read_111 rfl (congrArg (v6 + ·) k_i_1) (by decide) rfl ?_
          refine j_iinc (pc := 114) (q := 7) d_ShakeHands_read_114 rfl (congrArg (v8 + ·) k_i_1) (by decide) rfl ?_
          refine j_goto (pc := 117) (tgt := 45) d_ShakeHands_read_117 (by decide) ?_
          refine j_lv [3, 4, 5, 6, 7, 1, 2, 0] rfl ?_
          exact ih (v6 + 1) r6 (v8 + 1) M13
        · refine j_bipush (pc := 105) d_ShakeHands_read_105 k_b_m20 ?_
          refine j_iload (pc := 107) (q := 7) d_ShakeHands_read_107 rfl ?_
          refine j_isub (pc := 109) d_ShakeHands_read_109 ?_
          exact j_ireturn (pc := 110) d_ShakeHands_read_110 rfl
      · refine j_goto (pc := 71) (tgt := 120) d_ShakeHands_read_71 (by decide) ?_
        refine j_lv [1, 3, 5, 6, 0] rfl ?_
        exact hkx120 v6 r6 M7
set_option maxRecDepth 20000 in
set_option maxHeartbeats 4000000 in
theorem X_ShakeHands_read_L123_ok {n : Nat} {a3 : Int32} {b5 : Nat} {a6 : Int32} {a7 : Int32} (h_b5 : SHx[b5]? = some (5, [0, 0, 0, b5 + 1 + 2])) (h_b51 : SHx[b5 + 1]? = some (100, [40])) {kx189 : Mem → Option (Int32 × Mem)} (hkx189 : ∀ (M : Mem), J (mt_ShakeHands_read) wI 189 [(0, Value.ref 0), (6, Value.int a6), (7, Value.int a7)] [] M (kx189 M)) : ∀ (m : Nat) (v8 : Int32) (M : Mem), J (mt_ShakeHands_read) wI 123 [(0, Value.ref 0), (3, Value.int a3), (5, Value.ref b5), (6, Value.int a6), (7, Value.int a7), (8, Value.int v8)] [] M (X_ShakeHands_read_L123 n a3 b5 a6 a7 kx189 m v8 M) := by
  intro m
  induction m with
  | zero => intro _ _; exact j_none
  | succ m ih =>
    intro v8 M
    show J _ _ _ _ _ _ ((if a6 ≤ v8 then
kx189 M
else
bd (X_Sheet_cellAt n b5 (a3 + ((2 : Int32) * v8)) M) fun r17 M18 =>
bd (X_Sheet_cellAt n b5 ((a3 + ((2 : Int32) * v8)) + 1) M18) fun r19 M20 =>
bd (X_ShakeHands_pairOf n r17 r19 M20) fun r21 M22 =>
bd (X_Circle_meet n 17 (M22.1 16 1) r21 M22) fun r23 M24 =>
X_ShakeHands_read_L123 n a3 b5 a6 a7 kx189 m (v8 + 1) M24))
    refine j_iload (pc := 123) (q := 5) d_ShakeHands_read_123 rfl ?_
    refine j_iload (pc := 125) (q := 3) d_ShakeHands_read_125 rfl ?_
    refine j_icmp_ge (pc := 127) (tgt := 189) d_ShakeHands_read_127 (by decide) (fun _ => ?_) (fun _ => ?_)
    · refine j_lv [0, 3, 4] rfl ?_
      exact hkx189 M
    · refine j_aload (pc := 130) (q := 2) d_ShakeHands_read_130 rfl ?_
      refine j_iload_n (pc := 132) (q := 1) d_ShakeHands_read_132 rfl rfl ?_
      refine j_iconst (pc := 133) d_ShakeHands_read_133 k_i_2 ?_
      refine j_iload (pc := 134) (q := 5) d_ShakeHands_read_134 rfl ?_
      refine j_imul (pc := 136) d_ShakeHands_read_136 ?_
      refine j_iadd (pc := 137) d_ShakeHands_read_137 ?_
      refine j_callV1 (pc := 138) d_ShakeHands_read_138 (C_Sheet_cellAt n b5 h_b5 h_b51 (a3 + ((2 : Int32) * v8)) M) cV_ShakeHands_289 cd_Sheet_cellAt dn_Sheet_cellAt rfl (by decide) (Nat.le_of_ble_eq_true rfl) (Nat.le_of_ble_eq_true rfl) nr_I h_b5 (by decide) rfl (fun r17 M18 => ?_)
      refine j_aload (pc := 141) (q := 2) d_ShakeHands_read_141 rfl ?_
      refine j_iload_n (pc := 143) (q := 1) d_ShakeHands_read_143 rfl rfl ?_
      refine j_iconst (pc := 144) d_ShakeHands_read_144 k_i_2 ?_
      refine j_iload (pc := 145) (q := 5) d_ShakeHands_read_145 rfl ?_
      refine j_imul (pc := 147) d_ShakeHands_read_147 ?_
      refine j_iadd (pc := 148) d_ShakeHands_read_148 ?_
      refine j_iconst (pc := 149) d_ShakeHands_read_149 k_i_1 ?_
      refine j_iadd (pc := 150) d_ShakeHands_read_150 ?_
      refine j_callV1 (pc := 151) d_ShakeHands_read_151 (C_Sheet_cellAt n b5 h_b5 h_b51 ((a3 + ((2 : Int32) * v8)) + 1) M18) cV_ShakeHands_289 cd_Sheet_cellAt dn_Sheet_cellAt rfl (by decide) (Nat.le_of_ble_eq_true rfl) (Nat.le_of_ble_eq_true rfl) nr_I h_b5 (by decide) rfl (fun r19 M20 => ?_)
      refine j_callS2 (pc := 154) d_ShakeHands_read_154 (C_ShakeHands_pairOf n r17 r19 M20) cS_ShakeHands_179 cd_ShakeHands_pairOf dn_ShakeHands_pairOf rfl (by decide) (Nat.le_of_ble_eq_true rfl) (Nat.le_of_ble_eq_true rfl) nr_I (fun r21 M22 => ?_)
      refine j_istore (pc := 157) d_ShakeHands_read_157 (by decide) rfl ?_
      refine j_aload_n (pc := 159) (q := 1) d_ShakeHands_read_159 rfl rfl ?_
      refine j_getA (pc := 160) d_ShakeHands_read_160 fl_ShakeHands_28 sx_0 (by decide) rfl ?_
      refine j_aload_n (pc := 163) (q := 1) d_ShakeHands_read_163 rfl rfl ?_
      refine j_getA (pc := 164) d_ShakeHands_read_164 fl_ShakeHands_35 sx_0 (by decide) rfl ?_
      refine j_getA (pc := 167) d_ShakeHands_read_167 fl_ShakeHands_93 sx_16 (by decide) rfl ?_
      refine j_aload_n (pc := 170) (q := 1) d_ShakeHands_read_170 rfl rfl ?_
      refine j_getA (pc := 171) d_ShakeHands_read_171 fl_ShakeHands_35 sx_0 (by decide) rfl ?_
      refine j_getI (pc := 174) d_ShakeHands_read_174 fl_ShakeHands_103 sx_16 (by decide) rfl ?_
      refine j_iload (pc := 177) (q := 0) d_ShakeHands_read_177 rfl ?_
      refine j_callV3 (pc := 179) d_ShakeHands_read_179 (C_Circle_meet n 17 sx_17 (M22.1 16 1) r21 M22) cV_ShakeHands_183 cd_Circle_meet dn_Circle_meet rfl (by decide) (Nat.le_of_ble_eq_true rfl) (Nat.le_of_ble_eq_true rfl) nr_I sx_11 (by decide) rfl (fun r23 M24 => ?_)
      refine j_pop (pc := 182) d_ShakeHands_read_182 rfl ?_
      refine j_iinc (pc := 183) (q := 6) d_ShakeHands_read_183 rfl (congrArg (v8 + ·) k_i_1) (by decide) rfl ?_
      refine j_goto (pc := 186) (tgt := 123) d_ShakeHands_read_186 (by decide) ?_
      refine j_lv [2, 3, 4, 5, 6, 0] rfl ?_
      exact ih (v8 + 1) M24
set_option maxRecDepth 20000 in
set_option maxHeartbeats 4000000 in
theorem C_ShakeHands_read (n : Nat)   (p1 : Int32) (p2 : Int32) (p3 : Int32) (p4 : Int32) (M : Mem) : Ct y_ShakeHands_read mt_ShakeHands_read wI [Value.ref 0, Value.int p1, Value.int p2, Value.int p3, Value.int p4] M (X_ShakeHands_read n p1 p2 p3 p4 M) := by
  refine ct_of (by decide +kernel) rfl (Nat.le_of_ble_eq_true rfl) ?_
  show J _ _ _ [(0, Value.ref 0), (1, Value.int p1), (2, Value.int p2), (3, Value.int p3), (4, Value.int p4)] _ _ _
  unfold X_ShakeHands_read
  refine j_iload_n (pc := 0) (q := 1) d_ShakeHands_read_0 rfl rfl ?_
  refine j_callS1 (pc := 1) d_ShakeHands_read_1 (C_ShakeHands_isSheet n p1 M) cS_ShakeHands_270 cd_ShakeHands_isSheet dn_ShakeHands_isSheet rfl (by decide) (Nat.le_of_ble_eq_true rfl) (Nat.le_of_ble_eq_true rfl) nr_I (fun r1 M2 => ?_)
  refine j_if_eq (pc := 4) (tgt := 26) d_ShakeHands_read_4 (by decide) (fun _ => ?_) (fun _ => ?_)
  · refine j_iconst (pc := 26) d_ShakeHands_read_26 k_i_m1 ?_
    exact j_ireturn (pc := 27) d_ShakeHands_read_27 rfl
  · refine j_iload_n (pc := 7) (q := 2) d_ShakeHands_read_7 rfl rfl ?_
    refine j_callS1 (pc := 8) d_ShakeHands_read_8 (C_ShakeHands_isLane n p2 M2) cS_ShakeHands_273 cd_ShakeHands_isLane dn_ShakeHands_isLane rfl (by decide) (Nat.le_of_ble_eq_true rfl) (Nat.le_of_ble_eq_true rfl) nr_I (fun r3 M4 => ?_)
    refine j_if_eq (pc := 11) (tgt := 26) d_ShakeHands_read_11 (by decide) (fun _ => ?_) (fun _ => ?_)
    · refine j_iconst (pc := 26) d_ShakeHands_read_26 k_i_m1 ?_
      exact j_ireturn (pc := 27) d_ShakeHands_read_27 rfl
    · refine j_iload (pc := 14) (q := 4) d_ShakeHands_read_14 rfl ?_
      refine j_if_lt (pc := 16) (tgt := 26) d_ShakeHands_read_16 (by decide) (fun _ => ?_) (fun _ => ?_)
      · refine j_iconst (pc := 26) d_ShakeHands_read_26 k_i_m1 ?_
        exact j_ireturn (pc := 27) d_ShakeHands_read_27 rfl
      · refine j_iload (pc := 19) (q := 4) d_ShakeHands_read_19 rfl ?_
        refine j_bipush (pc := 21) d_ShakeHands_read_21 k_b_20 ?_
        refine j_icmp_le (pc := 23) (tgt := 28) d_ShakeHands_read_23 (by decide) (fun _ => ?_) (fun _ => ?_)
        · refine j_aload_n (pc := 28) (q := 0) d_ShakeHands_read_28 rfl rfl ?_
          refine j_getA (pc := 29) d_ShakeHands_read_29 fl_ShakeHands_61 sx_0 (by decide) rfl ?_
          refine j_iload_n (pc := 32) (q := 1) d_ShakeHands_read_32 rfl rfl ?_
          refine j_aald1 (pc := 33) (ids := [41, 43, 45, 47]) d_ShakeHands_read_33 sx_40 (fun h5 => ?_)
          refine j_astore (pc := 34) d_ShakeHands_read_34 (by decide) rfl ?_
          refine j_iconst (pc := 36) d_ShakeHands_read_36 k_i_0 ?_
          refine j_istore (pc := 37) d_ShakeHands_read_37 (by decide) rfl ?_
          refine j_iconst (pc := 39) d_ShakeHands_read_39 k_i_0 ?_
          refine j_istore (pc := 40) d_ShakeHands_read_40 (by decide) rfl ?_
          refine j_iconst (pc := 42) d_ShakeHands_read_42 k_i_0 ?_
          refine j_istore (pc := 43) d_ShakeHands_read_43 (by decide) rfl ?_
          refine j_lv [4, 6, 7, 8, 3, 2, 1, 0] rfl ?_
          refine X_ShakeHands_read_L45_ok ((sh_sheets h5).1) (sh_sheets h5).2 (fun y14 y15 M16 => ?_) n 0 0 0 M4
          refine j_iconst (pc := 120) d_ShakeHands_read_120 k_i_0 ?_
          refine j_istore (pc := 121) d_ShakeHands_read_121 (by decide) rfl ?_
          refine j_lv [1, 2, 3, 4, 5, 0] rfl ?_
          refine X_ShakeHands_read_L123_ok ((sh_sheets h5).1) (sh_sheets h5).2 (fun M25 => ?_) n 0 M16
          refine j_aload_n (pc := 189) (q := 0) d_ShakeHands_read_189 rfl rfl ?_
          refine j_iload (pc := 190) (q := 2) d_ShakeHands_read_190 rfl ?_
          refine j_putI (pc := 192) d_ShakeHands_read_192 fl_ShakeHands_292 rfl sx_0 (by decide) rfl ?_
          refine j_iload (pc := 195) (q := 1) d_ShakeHands_read_195 rfl ?_
          exact j_ireturn (pc := 197) d_ShakeHands_read_197 rfl
        · refine j_iconst (pc := 26) d_ShakeHands_read_26 k_i_m1 ?_
          exact j_ireturn (pc := 27) d_ShakeHands_read_27 rfl
-- ShakeHands.torn ()I
def mt_ShakeHands_torn : Mt := ("ShakeHands", b_ShakeHands_torn, 1, some .int, 2, SHx)
theorem d_ShakeHands_torn_0 : decode b_ShakeHands_torn 0 = .ok (.aload_n 0, 1) := by decide +kernel
theorem d_ShakeHands_torn_1 : decode b_ShakeHands_torn 1 = .ok (.getfield 292, 3) := by decide +kernel
theorem d_ShakeHands_torn_4 : decode b_ShakeHands_torn 4 = .ok (.ireturn, 1) := by decide +kernel
def X_ShakeHands_torn (n : Nat) (M : Mem) : Option (Int32 × Mem) :=
  some ((M.1 0 10), M)
set_option maxRecDepth 20000 in
set_option maxHeartbeats 4000000 in
theorem C_ShakeHands_torn (n : Nat)    (M : Mem) : Ct y_ShakeHands_torn mt_ShakeHands_torn wI [Value.ref 0] M (X_ShakeHands_torn n M) := by
  refine ct_of (by decide +kernel) rfl (Nat.le_of_ble_eq_true rfl) ?_
  show J _ _ _ [(0, Value.ref 0)] _ _ _
  unfold X_ShakeHands_torn
  refine j_aload_n (pc := 0) (q := 0) d_ShakeHands_torn_0 rfl rfl ?_
  refine j_getI (pc := 1) d_ShakeHands_torn_1 fl_ShakeHands_292 sx_0 (by decide) rfl ?_
  exact j_ireturn (pc := 4) d_ShakeHands_torn_4 rfl
-- ShakeHands.knownToAll ()I
def mt_ShakeHands_knownToAll : Mt := ("ShakeHands", b_ShakeHands_knownToAll, 3, some .int, 3, SHx)
theorem d_ShakeHands_knownToAll_0 : decode b_ShakeHands_knownToAll 0 = .ok (.ldc_w 313, 3) := by decide +kernel
theorem d_ShakeHands_knownToAll_3 : decode b_ShakeHands_knownToAll 3 = .ok (.istore_n 1, 1) := by decide +kernel
theorem d_ShakeHands_knownToAll_4 : decode b_ShakeHands_knownToAll 4 = .ok (.iconst 0, 1) := by decide +kernel
theorem d_ShakeHands_knownToAll_5 : decode b_ShakeHands_knownToAll 5 = .ok (.istore_n 2, 1) := by decide +kernel
theorem d_ShakeHands_knownToAll_6 : decode b_ShakeHands_knownToAll 6 = .ok (.iload_n 2, 1) := by decide +kernel
theorem d_ShakeHands_knownToAll_7 : decode b_ShakeHands_knownToAll 7 = .ok (.aload_n 0, 1) := by decide +kernel
theorem d_ShakeHands_knownToAll_8 : decode b_ShakeHands_knownToAll 8 = .ok (.getfield 28, 3) := by decide +kernel
theorem d_ShakeHands_knownToAll_11 : decode b_ShakeHands_knownToAll 11 = .ok (.getfield 110, 3) := by decide +kernel
theorem d_ShakeHands_knownToAll_14 : decode b_ShakeHands_knownToAll 14 = .ok (.if_icmp .ge 24, 3) := by decide +kernel
theorem d_ShakeHands_knownToAll_17 : decode b_ShakeHands_knownToAll 17 = .ok (.iload_n 1, 1) := by decide +kernel
theorem d_ShakeHands_knownToAll_18 : decode b_ShakeHands_knownToAll 18 = .ok (.aload_n 0, 1) := by decide +kernel
theorem d_ShakeHands_knownToAll_19 : decode b_ShakeHands_knownToAll 19 = .ok (.getfield 35, 3) := by decide +kernel
theorem d_ShakeHands_knownToAll_22 : decode b_ShakeHands_knownToAll 22 = .ok (.getfield 93, 3) := by decide +kernel
theorem d_ShakeHands_knownToAll_25 : decode b_ShakeHands_knownToAll 25 = .ok (.iload_n 2, 1) := by decide +kernel
theorem d_ShakeHands_knownToAll_26 : decode b_ShakeHands_knownToAll 26 = .ok (.laload, 1) := by decide +kernel
theorem d_ShakeHands_knownToAll_27 : decode b_ShakeHands_knownToAll 27 = .ok (.invokestatic 145, 3) := by decide +kernel
theorem d_ShakeHands_knownToAll_30 : decode b_ShakeHands_knownToAll 30 = .ok (.iand, 1) := by decide +kernel
theorem d_ShakeHands_knownToAll_31 : decode b_ShakeHands_knownToAll 31 = .ok (.istore_n 1, 1) := by decide +kernel
theorem d_ShakeHands_knownToAll_32 : decode b_ShakeHands_knownToAll 32 = .ok (.iinc 2 1, 3) := by decide +kernel
theorem d_ShakeHands_knownToAll_35 : decode b_ShakeHands_knownToAll 35 = .ok (.goto (-29), 3) := by decide +kernel
theorem d_ShakeHands_knownToAll_38 : decode b_ShakeHands_knownToAll 38 = .ok (.iload_n 1, 1) := by decide +kernel
theorem d_ShakeHands_knownToAll_39 : decode b_ShakeHands_knownToAll 39 = .ok (.ireturn, 1) := by decide +kernel
def X_ShakeHands_knownToAll_L6 (n : Nat) : Nat → Int32 → Int32 → Mem → Option (Int32 × Mem)
    | 0, _, _, _ => none
    | m + 1, v1, v2, M => (if (M.1 11 0) ≤ v2 then
    some (v1, M)
    else
    gd v2 6 (
      bd (X_Row_knownOf n (M.2 17 v2.toNatClampNeg) M) fun r1 M2 =>
      nm (v1 &&& r1) fun x3 =>
      X_ShakeHands_knownToAll_L6 n m x3 (v2 + 1) M2))
def X_ShakeHands_knownToAll (n : Nat) (M : Mem) : Option (Int32 × Mem) :=
  X_ShakeHands_knownToAll_L6 n n 65535 0 M
set_option maxRecDepth 20000 in
set_option maxHeartbeats 4000000 in
theorem X_ShakeHands_knownToAll_L6_ok {n : Nat} : ∀ (m : Nat) (v1 : Int32) (v2 : Int32) (M : Mem), J (mt_ShakeHands_knownToAll) wI 6 [(0, Value.ref 0), (1, Value.int v1), (2, Value.int v2)] [] M (X_ShakeHands_knownToAll_L6 n m v1 v2 M) := by
  intro m
  induction m with
  | zero => intro _ _ _; exact j_none
  | succ m ih =>
    intro v1 v2 M
    show J _ _ _ _ _ _ ((if (M.1 11 0) ≤ v2 then
some (v1, M)
else
gd v2 6 (
bd (X_Row_knownOf n (M.2 17 v2.toNatClampNeg) M) fun r1 M2 =>
nm (v1 &&& r1) fun x3 =>
X_ShakeHands_knownToAll_L6 n m x3 (v2 + 1) M2)))
    refine j_iload_n (pc := 6) (q := 2) d_ShakeHands_knownToAll_6 rfl rfl ?_
    refine j_aload_n (pc := 7) (q := 0) d_ShakeHands_knownToAll_7 rfl rfl ?_
    refine j_getA (pc := 8) d_ShakeHands_knownToAll_8 fl_ShakeHands_28 sx_0 (by decide) rfl ?_
    refine j_getI (pc := 11) d_ShakeHands_knownToAll_11 fl_ShakeHands_110 sx_11 (by decide) rfl ?_
    refine j_icmp_ge (pc := 14) (tgt := 38) d_ShakeHands_knownToAll_14 (by decide) (fun _ => ?_) (fun _ => ?_)
    · refine j_iload_n (pc := 38) (q := 1) d_ShakeHands_knownToAll_38 rfl rfl ?_
      exact j_ireturn (pc := 39) d_ShakeHands_knownToAll_39 rfl
    · refine j_iload_n (pc := 17) (q := 1) d_ShakeHands_knownToAll_17 rfl rfl ?_
      refine j_aload_n (pc := 18) (q := 0) d_ShakeHands_knownToAll_18 rfl rfl ?_
      refine j_getA (pc := 19) d_ShakeHands_knownToAll_19 fl_ShakeHands_35 sx_0 (by decide) rfl ?_
      refine j_getA (pc := 22) d_ShakeHands_knownToAll_22 fl_ShakeHands_93 sx_16 (by decide) rfl ?_
      refine j_iload_n (pc := 25) (q := 2) d_ShakeHands_knownToAll_25 rfl rfl ?_
      refine j_lald (pc := 26) d_ShakeHands_knownToAll_26 sx_17 (fun _ => ?_)
      refine j_callS1 (pc := 27) d_ShakeHands_knownToAll_27 (C_Row_knownOf n (M.2 17 v2.toNatClampNeg) M) cS_ShakeHands_145 cd_Row_knownOf dn_Row_knownOf rfl (by decide) (Nat.le_of_ble_eq_true rfl) (Nat.le_of_ble_eq_true rfl) nr_I (fun r1 M2 => ?_)
      refine j_iand (pc := 30) d_ShakeHands_knownToAll_30 ?_
      refine j_nmi (fun x3 => ?_)
      refine j_istore_n (pc := 31) d_ShakeHands_knownToAll_31 rfl (by decide) rfl ?_
      refine j_iinc (pc := 32) (q := 2) d_ShakeHands_knownToAll_32 rfl (congrArg (v2 + ·) k_i_1) (by decide) rfl ?_
      refine j_goto (pc := 35) (tgt := 6) d_ShakeHands_knownToAll_35 (by decide) ?_
      refine j_lv [2, 1, 0] rfl ?_
      exact ih x3 (v2 + 1) M2
set_option maxRecDepth 20000 in
set_option maxHeartbeats 4000000 in
theorem C_ShakeHands_knownToAll (n : Nat)    (M : Mem) : Ct y_ShakeHands_knownToAll mt_ShakeHands_knownToAll wI [Value.ref 0] M (X_ShakeHands_knownToAll n M) := by
  refine ct_of (by decide +kernel) rfl (Nat.le_of_ble_eq_true rfl) ?_
  show J _ _ _ [(0, Value.ref 0)] _ _ _
  unfold X_ShakeHands_knownToAll
  refine j_ldcw (pc := 0) (own := "ShakeHands") d_ShakeHands_knownToAll_0 ct_ShakeHands_313 ?_
  refine j_istore_n (pc := 3) d_ShakeHands_knownToAll_3 rfl (by decide) rfl ?_
  refine j_iconst (pc := 4) d_ShakeHands_knownToAll_4 k_i_0 ?_
  refine j_istore_n (pc := 5) d_ShakeHands_knownToAll_5 rfl (by decide) rfl ?_
  refine j_lv [2, 1, 0] rfl ?_
  exact X_ShakeHands_knownToAll_L6_ok   n 65535 0 M
-- ShakeHands.count (I)I
def mt_ShakeHands_count : Mt := ("ShakeHands", b_ShakeHands_count, 2, some .int, 4, SHx)
theorem d_ShakeHands_count_0 : decode b_ShakeHands_count 0 = .ok (.iload_n 1, 1) := by decide +kernel
theorem d_ShakeHands_count_1 : decode b_ShakeHands_count 1 = .ok (.tableswitch 115 0 5 #[39, 53, 61, 72, 80, 88], 39) := by decide +kernel
theorem d_ShakeHands_count_40 : decode b_ShakeHands_count 40 = .ok (.aload_n 0, 1) := by decide +kernel
theorem d_ShakeHands_count_41 : decode b_ShakeHands_count 41 = .ok (.getfield 35, 3) := by decide +kernel
theorem d_ShakeHands_count_44 : decode b_ShakeHands_count 44 = .ok (.getfield 93, 3) := by decide +kernel
theorem d_ShakeHands_count_47 : decode b_ShakeHands_count 47 = .ok (.invokestatic 190, 3) := by decide +kernel
theorem d_ShakeHands_count_50 : decode b_ShakeHands_count 50 = .ok (.invokestatic 125, 3) := by decide +kernel
theorem d_ShakeHands_count_53 : decode b_ShakeHands_count 53 = .ok (.ireturn, 1) := by decide +kernel
theorem d_ShakeHands_count_54 : decode b_ShakeHands_count 54 = .ok (.aload_n 0, 1) := by decide +kernel
theorem d_ShakeHands_count_55 : decode b_ShakeHands_count 55 = .ok (.invokevirtual 295, 3) := by decide +kernel
theorem d_ShakeHands_count_58 : decode b_ShakeHands_count 58 = .ok (.invokestatic 125, 3) := by decide +kernel
theorem d_ShakeHands_count_61 : decode b_ShakeHands_count 61 = .ok (.ireturn, 1) := by decide +kernel
theorem d_ShakeHands_count_62 : decode b_ShakeHands_count 62 = .ok (.aload_n 0, 1) := by decide +kernel
theorem d_ShakeHands_count_63 : decode b_ShakeHands_count 63 = .ok (.getfield 35, 3) := by decide +kernel
theorem d_ShakeHands_count_66 : decode b_ShakeHands_count 66 = .ok (.getfield 104, 3) := by decide +kernel
theorem d_ShakeHands_count_69 : decode b_ShakeHands_count 69 = .ok (.invokestatic 125, 3) := by decide +kernel
theorem d_ShakeHands_count_72 : decode b_ShakeHands_count 72 = .ok (.ireturn, 1) := by decide +kernel
theorem d_ShakeHands_count_73 : decode b_ShakeHands_count 73 = .ok (.aload_n 0, 1) := by decide +kernel
theorem d_ShakeHands_count_74 : decode b_ShakeHands_count 74 = .ok (.getfield 107, 3) := by decide +kernel
theorem d_ShakeHands_count_77 : decode b_ShakeHands_count 77 = .ok (.invokestatic 125, 3) := by decide +kernel
theorem d_ShakeHands_count_80 : decode b_ShakeHands_count 80 = .ok (.ireturn, 1) := by decide +kernel
theorem d_ShakeHands_count_81 : decode b_ShakeHands_count 81 = .ok (.aload_n 0, 1) := by decide +kernel
theorem d_ShakeHands_count_82 : decode b_ShakeHands_count 82 = .ok (.getfield 10, 3) := by decide +kernel
theorem d_ShakeHands_count_85 : decode b_ShakeHands_count 85 = .ok (.getfield 74, 3) := by decide +kernel
theorem d_ShakeHands_count_88 : decode b_ShakeHands_count 88 = .ok (.ireturn, 1) := by decide +kernel
theorem d_ShakeHands_count_89 : decode b_ShakeHands_count 89 = .ok (.aload_n 0, 1) := by decide +kernel
theorem d_ShakeHands_count_90 : decode b_ShakeHands_count 90 = .ok (.getfield 61, 3) := by decide +kernel
theorem d_ShakeHands_count_93 : decode b_ShakeHands_count 93 = .ok (.iconst 0, 1) := by decide +kernel
theorem d_ShakeHands_count_94 : decode b_ShakeHands_count 94 = .ok (.aaload, 1) := by decide +kernel
theorem d_ShakeHands_count_95 : decode b_ShakeHands_count 95 = .ok (.getfield 298, 3) := by decide +kernel
theorem d_ShakeHands_count_98 : decode b_ShakeHands_count 98 = .ok (.ifCond .eq 15, 3) := by decide +kernel
theorem d_ShakeHands_count_101 : decode b_ShakeHands_count 101 = .ok (.aload_n 0, 1) := by decide +kernel
theorem d_ShakeHands_count_102 : decode b_ShakeHands_count 102 = .ok (.getfield 61, 3) := by decide +kernel
theorem d_ShakeHands_count_105 : decode b_ShakeHands_count 105 = .ok (.iconst 0, 1) := by decide +kernel
theorem d_ShakeHands_count_106 : decode b_ShakeHands_count 106 = .ok (.aaload, 1) := by decide +kernel
theorem d_ShakeHands_count_107 : decode b_ShakeHands_count 107 = .ok (.getfield 302, 3) := by decide +kernel
theorem d_ShakeHands_count_110 : decode b_ShakeHands_count 110 = .ok (.goto 5, 3) := by decide +kernel
theorem d_ShakeHands_count_113 : decode b_ShakeHands_count 113 = .ok (.bipush (-4), 2) := by decide +kernel
theorem d_ShakeHands_count_115 : decode b_ShakeHands_count 115 = .ok (.ireturn, 1) := by decide +kernel
theorem d_ShakeHands_count_116 : decode b_ShakeHands_count 116 = .ok (.iconst (-1), 1) := by decide +kernel
theorem d_ShakeHands_count_117 : decode b_ShakeHands_count 117 = .ok (.ireturn, 1) := by decide +kernel
def X_ShakeHands_count (n : Nat) (p1 : Int32) (M : Mem) : Option (Int32 × Mem) :=
  (if p1 = 0 then
    bd (X_Minds_known n 17 M) fun r11 M12 =>
    bd (X_Integer_bitCount n r11 M12) fun r13 M14 =>
    some (r13, M14)
    else
    (if p1 = 1 then
      bd (X_ShakeHands_knownToAll n M) fun r7 M8 =>
      bd (X_Integer_bitCount n r7 M8) fun r9 M10 =>
      some (r9, M10)
      else
      (if p1 = 2 then
        bd (X_Integer_bitCount n (M.1 16 2) M) fun r5 M6 =>
        some (r5, M6)
        else
        (if p1 = 3 then
          bd (X_Integer_bitCount n (M.1 0 9) M) fun r3 M4 =>
          some (r3, M4)
          else
          (if p1 = 4 then
            some ((M.1 1 1), M)
            else
            (if p1 = 5 then
              gd (0 : Int32) 4 (
                (if (M.1 (([41, 43, 45, 47] : List Nat).getD (0 : Int32).toNatClampNeg 0) 0) = 0 then
                  some ((-4), M)
                  else
                  gd (0 : Int32) 4 (
                    some ((M.1 (([41, 43, 45, 47] : List Nat).getD (0 : Int32).toNatClampNeg 0) 1), M))))
              else
              some ((-1), M)))))))
set_option maxRecDepth 20000 in
set_option maxHeartbeats 4000000 in
theorem C_ShakeHands_count (n : Nat)   (p1 : Int32) (M : Mem) : Ct y_ShakeHands_count mt_ShakeHands_count wI [Value.ref 0, Value.int p1] M (X_ShakeHands_count n p1 M) := by
  refine ct_of (by decide +kernel) rfl (Nat.le_of_ble_eq_true rfl) ?_
  show J _ _ _ [(0, Value.ref 0), (1, Value.int p1)] _ _ _
  unfold X_ShakeHands_count
  refine j_iload_n (pc := 0) (q := 1) d_ShakeHands_count_0 rfl rfl ?_
  refine j_split (fun h0 => ?_) (fun h0 => ?_)
  · refine j_tableIn (pc := 1) (tgt := 40) d_ShakeHands_count_1 0 h0 (by decide) (by decide) rfl (by decide) ?_
    refine j_aload_n (pc := 40) (q := 0) d_ShakeHands_count_40 rfl rfl ?_
    refine j_getA (pc := 41) d_ShakeHands_count_41 fl_ShakeHands_35 sx_0 (by decide) rfl ?_
    refine j_getA (pc := 44) d_ShakeHands_count_44 fl_ShakeHands_93 sx_16 (by decide) rfl ?_
    refine j_callS1 (pc := 47) d_ShakeHands_count_47 (C_Minds_known n 17 sx_17 M) cS_ShakeHands_190 cd_Minds_known dn_Minds_known rfl (by decide) (Nat.le_of_ble_eq_true rfl) (Nat.le_of_ble_eq_true rfl) nr_I (fun r11 M12 => ?_)
    refine j_callS1 (pc := 50) d_ShakeHands_count_50 (C_Integer_bitCount n r11 M12) cS_ShakeHands_125 cd_Integer_bitCount dn_Integer_bitCount rfl (by decide) (Nat.le_of_ble_eq_true rfl) (Nat.le_of_ble_eq_true rfl) nr_I (fun r13 M14 => ?_)
    exact j_ireturn (pc := 53) d_ShakeHands_count_53 rfl
  · refine j_split (fun h1 => ?_) (fun h1 => ?_)
    · refine j_tableIn (tgt := 54) d_ShakeHands_count_1 1 h1 (by decide) (by decide) rfl (by decide) ?_
      refine j_aload_n (pc := 54) (q := 0) d_ShakeHands_count_54 rfl rfl ?_
      refine j_callV0 (pc := 55) d_ShakeHands_count_55 (C_ShakeHands_knownToAll n M) cV_ShakeHands_295 cd_ShakeHands_knownToAll dn_ShakeHands_knownToAll rfl (by decide) (Nat.le_of_ble_eq_true rfl) (Nat.le_of_ble_eq_true rfl) nr_I sx_0 (by decide) rfl (fun r7 M8 => ?_)
      refine j_callS1 (pc := 58) d_ShakeHands_count_58 (C_Integer_bitCount n r7 M8) cS_ShakeHands_125 cd_Integer_bitCount dn_Integer_bitCount rfl (by decide) (Nat.le_of_ble_eq_true rfl) (Nat.le_of_ble_eq_true rfl) nr_I (fun r9 M10 => ?_)
      exact j_ireturn (pc := 61) d_ShakeHands_count_61 rfl
    · refine j_split (fun h2 => ?_) (fun h2 => ?_)
      · refine j_tableIn (tgt := 62) d_ShakeHands_count_1 2 h2 (by decide) (by decide) rfl (by decide) ?_
        refine j_aload_n (pc := 62) (q := 0) d_ShakeHands_count_62 rfl rfl ?_
        refine j_getA (pc := 63) d_ShakeHands_count_63 fl_ShakeHands_35 sx_0 (by decide) rfl ?_
        refine j_getI (pc := 66) d_ShakeHands_count_66 fl_ShakeHands_104 sx_16 (by decide) rfl ?_
        refine j_callS1 (pc := 69) d_ShakeHands_count_69 (C_Integer_bitCount n (M.1 16 2) M) cS_ShakeHands_125 cd_Integer_bitCount dn_Integer_bitCount rfl (by decide) (Nat.le_of_ble_eq_true rfl) (Nat.le_of_ble_eq_true rfl) nr_I (fun r5 M6 => ?_)
        exact j_ireturn (pc := 72) d_ShakeHands_count_72 rfl
      · refine j_split (fun h3 => ?_) (fun h3 => ?_)
        · refine j_tableIn (tgt := 73) d_ShakeHands_count_1 3 h3 (by decide) (by decide) rfl (by decide) ?_
          refine j_aload_n (pc := 73) (q := 0) d_ShakeHands_count_73 rfl rfl ?_
          refine j_getI (pc := 74) d_ShakeHands_count_74 fl_ShakeHands_107 sx_0 (by decide) rfl ?_
          refine j_callS1 (pc := 77) d_ShakeHands_count_77 (C_Integer_bitCount n (M.1 0 9) M) cS_ShakeHands_125 cd_Integer_bitCount dn_Integer_bitCount rfl (by decide) (Nat.le_of_ble_eq_true rfl) (Nat.le_of_ble_eq_true rfl) nr_I (fun r3 M4 => ?_)
          exact j_ireturn (pc := 80) d_ShakeHands_count_80 rfl
        · refine j_split (fun h4 => ?_) (fun h4 => ?_)
          · refine j_tableIn (tgt := 81) d_ShakeHands_count_1 4 h4 (by decide) (by decide) rfl (by decide) ?_
            refine j_aload_n (pc := 81) (q := 0) d_ShakeHands_count_81 rfl rfl ?_
            refine j_getA (pc := 82) d_ShakeHands_count_82 fl_ShakeHands_10 sx_0 (by decide) rfl ?_
            refine j_getI (pc := 85) d_ShakeHands_count_85 fl_ShakeHands_74 sx_1 (by decide) rfl ?_
            exact j_ireturn (pc := 88) d_ShakeHands_count_88 rfl
          · refine j_split (fun h5 => ?_) (fun h5 => ?_)
            · refine j_tableIn (tgt := 89) d_ShakeHands_count_1 5 h5 (by decide) (by decide) rfl (by decide) ?_
              refine j_aload_n (pc := 89) (q := 0) d_ShakeHands_count_89 rfl rfl ?_
              refine j_getA (pc := 90) d_ShakeHands_count_90 fl_ShakeHands_61 sx_0 (by decide) rfl ?_
              refine j_iconst (pc := 93) d_ShakeHands_count_93 k_i_0 ?_
              refine j_aald1 (pc := 94) (ids := [41, 43, 45, 47]) d_ShakeHands_count_94 sx_40 (fun h1 => ?_)
              refine j_getI (pc := 95) d_ShakeHands_count_95 fl_ShakeHands_298 ((sh_sheets h1).1) (by decide) rfl ?_
              refine j_if_eq (pc := 98) (tgt := 113) d_ShakeHands_count_98 (by decide) (fun _ => ?_) (fun _ => ?_)
              · refine j_bipush (pc := 113) d_ShakeHands_count_113 k_b_m4 ?_
                exact j_ireturn (pc := 115) d_ShakeHands_count_115 rfl
              · refine j_aload_n (pc := 101) (q := 0) d_ShakeHands_count_101 rfl rfl ?_
                refine j_getA (pc := 102) d_ShakeHands_count_102 fl_ShakeHands_61 sx_0 (by decide) rfl ?_
                refine j_iconst (pc := 105) d_ShakeHands_count_105 k_i_0 ?_
                refine j_aald1 (pc := 106) (ids := [41, 43, 45, 47]) d_ShakeHands_count_106 sx_40 (fun h2 => ?_)
                refine j_getI (pc := 107) d_ShakeHands_count_107 fl_ShakeHands_302 ((sh_sheets h2).1) (by decide) rfl ?_
                refine j_goto (pc := 110) (tgt := 115) d_ShakeHands_count_110 (by decide) ?_
                exact j_ireturn (pc := 115) d_ShakeHands_count_115 rfl
            · refine j_tableOut (tgt := 116) d_ShakeHands_count_1 ?_ (by decide) ?_
              · have e := sw_out5 h0 h1 h2 h3 h4 h5
                exact Or.imp (fun h => h) (fun h => h) e
              · refine j_iconst (pc := 116) d_ShakeHands_count_116 k_i_m1 ?_
                exact j_ireturn (pc := 117) d_ShakeHands_count_117 rfl

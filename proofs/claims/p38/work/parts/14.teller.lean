-- Teller.begin ()V
def mt_Teller_begin : Mt := ("ShakeHands$Teller", b_Teller_begin, 2, none, 3, SHx)
theorem d_Teller_begin_0 : decode b_Teller_begin 0 = .ok (.aload_n 0, 1) := by decide +kernel
theorem d_Teller_begin_1 : decode b_Teller_begin 1 = .ok (.getfield 12, 3) := by decide +kernel
theorem d_Teller_begin_4 : decode b_Teller_begin 4 = .ok (.invokevirtual 60, 3) := by decide +kernel
theorem d_Teller_begin_7 : decode b_Teller_begin 7 = .ok (.iconst 0, 1) := by decide +kernel
theorem d_Teller_begin_8 : decode b_Teller_begin 8 = .ok (.istore_n 1, 1) := by decide +kernel
theorem d_Teller_begin_9 : decode b_Teller_begin 9 = .ok (.iload_n 1, 1) := by decide +kernel
theorem d_Teller_begin_10 : decode b_Teller_begin 10 = .ok (.bipush 6, 2) := by decide +kernel
theorem d_Teller_begin_12 : decode b_Teller_begin 12 = .ok (.if_icmp .ge 16, 3) := by decide +kernel
theorem d_Teller_begin_15 : decode b_Teller_begin 15 = .ok (.aload_n 0, 1) := by decide +kernel
theorem d_Teller_begin_16 : decode b_Teller_begin 16 = .ok (.getfield 18, 3) := by decide +kernel
theorem d_Teller_begin_19 : decode b_Teller_begin 19 = .ok (.iload_n 1, 1) := by decide +kernel
theorem d_Teller_begin_20 : decode b_Teller_begin 20 = .ok (.lconst 0, 1) := by decide +kernel
theorem d_Teller_begin_21 : decode b_Teller_begin 21 = .ok (.lastore, 1) := by decide +kernel
theorem d_Teller_begin_22 : decode b_Teller_begin 22 = .ok (.iinc 1 1, 3) := by decide +kernel
theorem d_Teller_begin_25 : decode b_Teller_begin 25 = .ok (.goto (-16), 3) := by decide +kernel
theorem d_Teller_begin_28 : decode b_Teller_begin 28 = .ok (.aload_n 0, 1) := by decide +kernel
theorem d_Teller_begin_29 : decode b_Teller_begin 29 = .ok (.iconst 0, 1) := by decide +kernel
theorem d_Teller_begin_30 : decode b_Teller_begin 30 = .ok (.putfield 63, 3) := by decide +kernel
theorem d_Teller_begin_33 : decode b_Teller_begin 33 = .ok (.aload_n 0, 1) := by decide +kernel
theorem d_Teller_begin_34 : decode b_Teller_begin 34 = .ok (.iconst 0, 1) := by decide +kernel
theorem d_Teller_begin_35 : decode b_Teller_begin 35 = .ok (.putfield 45, 3) := by decide +kernel
theorem d_Teller_begin_38 : decode b_Teller_begin 38 = .ok (.aload_n 0, 1) := by decide +kernel
theorem d_Teller_begin_39 : decode b_Teller_begin 39 = .ok (.iconst 0, 1) := by decide +kernel
theorem d_Teller_begin_40 : decode b_Teller_begin 40 = .ok (.putfield 66, 3) := by decide +kernel
theorem d_Teller_begin_43 : decode b_Teller_begin 43 = .ok (.aload_n 0, 1) := by decide +kernel
theorem d_Teller_begin_44 : decode b_Teller_begin 44 = .ok (.iconst 0, 1) := by decide +kernel
theorem d_Teller_begin_45 : decode b_Teller_begin 45 = .ok (.putfield 69, 3) := by decide +kernel
theorem d_Teller_begin_48 : decode b_Teller_begin 48 = .ok (.aload_n 0, 1) := by decide +kernel
theorem d_Teller_begin_49 : decode b_Teller_begin 49 = .ok (.iconst 0, 1) := by decide +kernel
theorem d_Teller_begin_50 : decode b_Teller_begin 50 = .ok (.putfield 73, 3) := by decide +kernel
theorem d_Teller_begin_53 : decode b_Teller_begin 53 = .ok (.aload_n 0, 1) := by decide +kernel
theorem d_Teller_begin_54 : decode b_Teller_begin 54 = .ok (.iconst 0, 1) := by decide +kernel
theorem d_Teller_begin_55 : decode b_Teller_begin 55 = .ok (.putfield 76, 3) := by decide +kernel
theorem d_Teller_begin_58 : decode b_Teller_begin 58 = .ok (.aload_n 0, 1) := by decide +kernel
theorem d_Teller_begin_59 : decode b_Teller_begin 59 = .ok (.iconst 0, 1) := by decide +kernel
theorem d_Teller_begin_60 : decode b_Teller_begin 60 = .ok (.putfield 79, 3) := by decide +kernel
theorem d_Teller_begin_63 : decode b_Teller_begin 63 = .ok (.aload_n 0, 1) := by decide +kernel
theorem d_Teller_begin_64 : decode b_Teller_begin 64 = .ok (.iconst 0, 1) := by decide +kernel
theorem d_Teller_begin_65 : decode b_Teller_begin 65 = .ok (.putfield 82, 3) := by decide +kernel
theorem d_Teller_begin_68 : decode b_Teller_begin 68 = .ok (.return_, 1) := by decide +kernel
def X_Teller_begin_L9 (n : Nat) (kx28 : Mem → Option (Unit × Mem)) : Nat → Int32 → Mem → Option (Unit × Mem)
    | 0, _, _ => none
    | m + 1, v1, M => (if 6 ≤ v1 then
    kx28 M
    else
    gd v1 6 (
      X_Teller_begin_L9 n kx28 m (v1 + 1) (sl M 9 (v1.toNatClampNeg) 0)))
def X_Teller_begin (n : Nat) (M : Mem) : Option (Unit × Mem) :=
  bd (X_Circle_beAsAtFirst n M) fun _ M2 =>
  X_Teller_begin_L9 n (fun M3 => some ((), si (si (si (si (si (si (si (si M3 3 2 0) 3 3 0) 3 6 0) 3 10 0) 3 11 0) 3 12 0) 3 13 0) 3 14 0)) n 0 M2
set_option maxRecDepth 20000 in
set_option maxHeartbeats 4000000 in
theorem X_Teller_begin_L9_ok {n : Nat} {kx28 : Mem → Option (Unit × Mem)} (hkx28 : ∀ (M : Mem), J (mt_Teller_begin) wU 28 [(0, Value.ref 3)] [] M (kx28 M)) : ∀ (m : Nat) (v1 : Int32) (M : Mem), J (mt_Teller_begin) wU 9 [(0, Value.ref 3), (1, Value.int v1)] [] M (X_Teller_begin_L9 n kx28 m v1 M) := by
  intro m
  induction m with
  | zero => intro _ _; exact j_none
  | succ m ih =>
    intro v1 M
    show J _ _ _ _ _ _ ((if 6 ≤ v1 then
kx28 M
else
gd v1 6 (
X_Teller_begin_L9 n kx28 m (v1 + 1) (sl M 9 (v1.toNatClampNeg) 0))))
    refine j_iload_n (pc := 9) (q := 1) d_Teller_begin_9 rfl rfl ?_
    refine j_bipush (pc := 10) d_Teller_begin_10 k_b_6 ?_
    refine j_icmp_ge (pc := 12) (tgt := 28) d_Teller_begin_12 (by decide) (fun _ => ?_) (fun _ => ?_)
    · refine j_lv [0] rfl ?_
      exact hkx28 M
    · refine j_aload_n (pc := 15) (q := 0) d_Teller_begin_15 rfl rfl ?_
      refine j_getA (pc := 16) d_Teller_begin_16 fl_Teller_18 sx_3 (by decide) rfl ?_
      refine j_iload_n (pc := 19) (q := 1) d_Teller_begin_19 rfl rfl ?_
      refine j_lconst (pc := 20) d_Teller_begin_20 k_l_0 ?_
      refine j_last (pc := 21) d_Teller_begin_21 sx_9 (fun _ => ?_)
      refine j_iinc (pc := 22) (q := 1) d_Teller_begin_22 rfl (congrArg (v1 + ·) k_i_1) (by decide) rfl ?_
      refine j_goto (pc := 25) (tgt := 9) d_Teller_begin_25 (by decide) ?_
      refine j_lv [1, 0] rfl ?_
      exact ih (v1 + 1) (sl M 9 (v1.toNatClampNeg) 0)
set_option maxRecDepth 20000 in
set_option maxHeartbeats 4000000 in
theorem C_Teller_begin (n : Nat)    (M : Mem) : Ct y_Teller_begin mt_Teller_begin wU [Value.ref 3] M (X_Teller_begin n M) := by
  refine ct_of (by decide +kernel) rfl (Nat.le_of_ble_eq_true rfl) ?_
  show J _ _ _ [(0, Value.ref 3)] _ _ _
  unfold X_Teller_begin
  refine j_aload_n (pc := 0) (q := 0) d_Teller_begin_0 rfl rfl ?_
  refine j_getA (pc := 1) d_Teller_begin_1 fl_Teller_12 sx_3 (by decide) rfl ?_
  refine j_callV0 (pc := 4) d_Teller_begin_4 (C_Circle_beAsAtFirst n M) cV_Teller_60 cd_Circle_beAsAtFirst dn_Circle_beAsAtFirst rfl (by decide) (Nat.le_of_ble_eq_true rfl) (Nat.le_of_ble_eq_true rfl) nr_U sx_4 (by decide) rfl (fun r1 M2 => ?_)
  refine j_iconst (pc := 7) d_Teller_begin_7 k_i_0 ?_
  refine j_istore_n (pc := 8) d_Teller_begin_8 rfl (by decide) rfl ?_
  refine j_lv [1, 0] rfl ?_
  refine X_Teller_begin_L9_ok  (fun M3 => ?_) n 0 M2
  refine j_aload_n (pc := 28) (q := 0) d_Teller_begin_28 rfl rfl ?_
  refine j_iconst (pc := 29) d_Teller_begin_29 k_i_0 ?_
  refine j_putI (pc := 30) d_Teller_begin_30 fl_Teller_63 rfl sx_3 (by decide) rfl ?_
  refine j_aload_n (pc := 33) (q := 0) d_Teller_begin_33 rfl rfl ?_
  refine j_iconst (pc := 34) d_Teller_begin_34 k_i_0 ?_
  refine j_putI (pc := 35) d_Teller_begin_35 fl_Teller_45 rfl sx_3 (by decide) rfl ?_
  refine j_aload_n (pc := 38) (q := 0) d_Teller_begin_38 rfl rfl ?_
  refine j_iconst (pc := 39) d_Teller_begin_39 k_i_0 ?_
  refine j_putI (pc := 40) d_Teller_begin_40 fl_Teller_66 rfl sx_3 (by decide) rfl ?_
  refine j_aload_n (pc := 43) (q := 0) d_Teller_begin_43 rfl rfl ?_
  refine j_iconst (pc := 44) d_Teller_begin_44 k_i_0 ?_
  refine j_putZ (pc := 45) d_Teller_begin_45 fl_Teller_69 rfl rfl sx_3 (by decide) rfl ?_
  refine j_aload_n (pc := 48) (q := 0) d_Teller_begin_48 rfl rfl ?_
  refine j_iconst (pc := 49) d_Teller_begin_49 k_i_0 ?_
  refine j_putZ (pc := 50) d_Teller_begin_50 fl_Teller_73 rfl rfl sx_3 (by decide) rfl ?_
  refine j_aload_n (pc := 53) (q := 0) d_Teller_begin_53 rfl rfl ?_
  refine j_iconst (pc := 54) d_Teller_begin_54 k_i_0 ?_
  refine j_putI (pc := 55) d_Teller_begin_55 fl_Teller_76 rfl sx_3 (by decide) rfl ?_
  refine j_aload_n (pc := 58) (q := 0) d_Teller_begin_58 rfl rfl ?_
  refine j_iconst (pc := 59) d_Teller_begin_59 k_i_0 ?_
  refine j_putI (pc := 60) d_Teller_begin_60 fl_Teller_79 rfl sx_3 (by decide) rfl ?_
  refine j_aload_n (pc := 63) (q := 0) d_Teller_begin_63 rfl rfl ?_
  refine j_iconst (pc := 64) d_Teller_begin_64 k_i_0 ?_
  refine j_putI (pc := 65) d_Teller_begin_65 fl_Teller_82 rfl sx_3 (by decide) rfl ?_
  exact j_return (pc := 68) d_Teller_begin_68 rfl
-- Teller.refuse (I)V
def mt_Teller_refuse : Mt := ("ShakeHands$Teller", b_Teller_refuse, 2, none, 2, SHx)
theorem d_Teller_refuse_0 : decode b_Teller_refuse 0 = .ok (.aload_n 0, 1) := by decide +kernel
theorem d_Teller_refuse_1 : decode b_Teller_refuse 1 = .ok (.getfield 45, 3) := by decide +kernel
theorem d_Teller_refuse_4 : decode b_Teller_refuse 4 = .ok (.ifCond .ne 8, 3) := by decide +kernel
theorem d_Teller_refuse_7 : decode b_Teller_refuse 7 = .ok (.aload_n 0, 1) := by decide +kernel
theorem d_Teller_refuse_8 : decode b_Teller_refuse 8 = .ok (.iload_n 1, 1) := by decide +kernel
theorem d_Teller_refuse_9 : decode b_Teller_refuse 9 = .ok (.putfield 45, 3) := by decide +kernel
theorem d_Teller_refuse_12 : decode b_Teller_refuse 12 = .ok (.return_, 1) := by decide +kernel
def X_Teller_refuse (n : Nat) (p1 : Int32) (M : Mem) : Option (Unit × Mem) :=
  (if (M.1 3 3) = 0 then
    some ((), si M 3 3 p1)
    else
    some ((), M))
set_option maxRecDepth 20000 in
set_option maxHeartbeats 4000000 in
theorem C_Teller_refuse (n : Nat)   (p1 : Int32) (M : Mem) : Ct y_Teller_refuse mt_Teller_refuse wU [Value.ref 3, Value.int p1] M (X_Teller_refuse n p1 M) := by
  refine ct_of (by decide +kernel) rfl (Nat.le_of_ble_eq_true rfl) ?_
  show J _ _ _ [(0, Value.ref 3), (1, Value.int p1)] _ _ _
  unfold X_Teller_refuse
  refine j_aload_n (pc := 0) (q := 0) d_Teller_refuse_0 rfl rfl ?_
  refine j_getI (pc := 1) d_Teller_refuse_1 fl_Teller_45 sx_3 (by decide) rfl ?_
  refine j_if_ne (pc := 4) (tgt := 12) d_Teller_refuse_4 (by decide) (fun _ => ?_) (fun _ => ?_)
  · exact j_return (pc := 12) d_Teller_refuse_12 rfl
  · refine j_aload_n (pc := 7) (q := 0) d_Teller_refuse_7 rfl rfl ?_
    refine j_iload_n (pc := 8) (q := 1) d_Teller_refuse_8 rfl rfl ?_
    refine j_putI (pc := 9) d_Teller_refuse_9 fl_Teller_45 rfl sx_3 (by decide) rfl ?_
    exact j_return (pc := 12) d_Teller_refuse_12 rfl
-- Teller.lookBack ()V
def mt_Teller_lookBack : Mt := ("ShakeHands$Teller", b_Teller_lookBack, 1, none, 3, SHx)
theorem d_Teller_lookBack_0 : decode b_Teller_lookBack 0 = .ok (.aload_n 0, 1) := by decide +kernel
theorem d_Teller_lookBack_1 : decode b_Teller_lookBack 1 = .ok (.getfield 79, 3) := by decide +kernel
theorem d_Teller_lookBack_4 : decode b_Teller_lookBack 4 = .ok (.aload_n 0, 1) := by decide +kernel
theorem d_Teller_lookBack_5 : decode b_Teller_lookBack 5 = .ok (.getfield 12, 3) := by decide +kernel
theorem d_Teller_lookBack_8 : decode b_Teller_lookBack 8 = .ok (.getfield 85, 3) := by decide +kernel
theorem d_Teller_lookBack_11 : decode b_Teller_lookBack 11 = .ok (.if_icmp .lt 9, 3) := by decide +kernel
theorem d_Teller_lookBack_14 : decode b_Teller_lookBack 14 = .ok (.aload_n 0, 1) := by decide +kernel
theorem d_Teller_lookBack_15 : decode b_Teller_lookBack 15 = .ok (.bipush 6, 2) := by decide +kernel
theorem d_Teller_lookBack_17 : decode b_Teller_lookBack 17 = .ok (.invokevirtual 88, 3) := by decide +kernel
theorem d_Teller_lookBack_20 : decode b_Teller_lookBack 20 = .ok (.aload_n 0, 1) := by decide +kernel
theorem d_Teller_lookBack_21 : decode b_Teller_lookBack 21 = .ok (.getfield 82, 3) := by decide +kernel
theorem d_Teller_lookBack_24 : decode b_Teller_lookBack 24 = .ok (.aload_n 0, 1) := by decide +kernel
theorem d_Teller_lookBack_25 : decode b_Teller_lookBack 25 = .ok (.getfield 12, 3) := by decide +kernel
theorem d_Teller_lookBack_28 : decode b_Teller_lookBack 28 = .ok (.getfield 92, 3) := by decide +kernel
theorem d_Teller_lookBack_31 : decode b_Teller_lookBack 31 = .ok (.if_icmp .le 9, 3) := by decide +kernel
theorem d_Teller_lookBack_34 : decode b_Teller_lookBack 34 = .ok (.aload_n 0, 1) := by decide +kernel
theorem d_Teller_lookBack_35 : decode b_Teller_lookBack 35 = .ok (.bipush 7, 2) := by decide +kernel
theorem d_Teller_lookBack_37 : decode b_Teller_lookBack 37 = .ok (.invokevirtual 88, 3) := by decide +kernel
theorem d_Teller_lookBack_40 : decode b_Teller_lookBack 40 = .ok (.return_, 1) := by decide +kernel
def X_Teller_lookBack (n : Nat) (M : Mem) : Option (Unit × Mem) :=
  nm (fun (M1 : Mem) => ((if (M1.1 3 14) ≤ (M1.1 4 1) then
        some ((), M1)
        else
        bd (X_Teller_refuse n 7 M1) fun _ M3 =>
        some ((), M3)) : Option (Unit × Mem))) fun k20 =>
  (if (M.1 3 13) < (M.1 4 0) then
    k20 M
    else
    bd (X_Teller_refuse n 6 M) fun _ M5 =>
    k20 M5)
set_option maxRecDepth 20000 in
set_option maxHeartbeats 4000000 in
theorem C_Teller_lookBack (n : Nat)    (M : Mem) : Ct y_Teller_lookBack mt_Teller_lookBack wU [Value.ref 3] M (X_Teller_lookBack n M) := by
  refine ct_of (by decide +kernel) rfl (Nat.le_of_ble_eq_true rfl) ?_
  show J _ _ _ [(0, Value.ref 3)] _ _ _
  unfold X_Teller_lookBack
  refine j_aload_n (pc := 0) (q := 0) d_Teller_lookBack_0 rfl rfl ?_
  refine j_getI (pc := 1) d_Teller_lookBack_1 fl_Teller_79 sx_3 (by decide) rfl ?_
  refine j_aload_n (pc := 4) (q := 0) d_Teller_lookBack_4 rfl rfl ?_
  refine j_getA (pc := 5) d_Teller_lookBack_5 fl_Teller_12 sx_3 (by decide) rfl ?_
  refine j_getI (pc := 8) d_Teller_lookBack_8 fl_Teller_85 sx_4 (by decide) rfl ?_
  refine j_nmk (fun k => ∀ (M1 : Mem), J (mt_Teller_lookBack) wU 20 [(0, Value.ref 3)] [] M1 (k M1)) (fun M1 => ?_) (fun k20 hk20 => ?_)
  · refine j_aload_n (pc := 20) (q := 0) d_Teller_lookBack_20 rfl rfl ?_
    refine j_getI (pc := 21) d_Teller_lookBack_21 fl_Teller_82 sx_3 (by decide) rfl ?_
    refine j_aload_n (pc := 24) (q := 0) d_Teller_lookBack_24 rfl rfl ?_
    refine j_getA (pc := 25) d_Teller_lookBack_25 fl_Teller_12 sx_3 (by decide) rfl ?_
    refine j_getI (pc := 28) d_Teller_lookBack_28 fl_Teller_92 sx_4 (by decide) rfl ?_
    refine j_icmp_le (pc := 31) (tgt := 40) d_Teller_lookBack_31 (by decide) (fun _ => ?_) (fun _ => ?_)
    · exact j_return (pc := 40) d_Teller_lookBack_40 rfl
    · refine j_aload_n (pc := 34) (q := 0) d_Teller_lookBack_34 rfl rfl ?_
      refine j_bipush (pc := 35) d_Teller_lookBack_35 k_b_7 ?_
      refine j_callV1 (pc := 37) d_Teller_lookBack_37 (C_Teller_refuse n 7 M1) cV_Teller_88 cd_Teller_refuse dn_Teller_refuse rfl (by decide) (Nat.le_of_ble_eq_true rfl) (Nat.le_of_ble_eq_true rfl) nr_U sx_3 (by decide) rfl (fun r2 M3 => ?_)
      exact j_return (pc := 40) d_Teller_lookBack_40 rfl
  · refine j_icmp_lt (pc := 11) (tgt := 20) d_Teller_lookBack_11 (by decide) (fun _ => ?_) (fun _ => ?_)
    · exact hk20 M
    · refine j_aload_n (pc := 14) (q := 0) d_Teller_lookBack_14 rfl rfl ?_
      refine j_bipush (pc := 15) d_Teller_lookBack_15 k_b_6 ?_
      refine j_callV1 (pc := 17) d_Teller_lookBack_17 (C_Teller_refuse n 6 M) cV_Teller_88 cd_Teller_refuse dn_Teller_refuse rfl (by decide) (Nat.le_of_ble_eq_true rfl) (Nat.le_of_ble_eq_true rfl) nr_U sx_3 (by decide) rfl (fun r4 M5 => ?_)
      exact hk20 M5
-- Teller.isWithin (CC)Z
def mt_Teller_isWithin : Mt := ("ShakeHands$Teller", b_Teller_isWithin, 3, some .boolean, 2, SHx)
theorem d_Teller_isWithin_0 : decode b_Teller_isWithin 0 = .ok (.aload_n 0, 1) := by decide +kernel
theorem d_Teller_isWithin_1 : decode b_Teller_isWithin 1 = .ok (.getfield 66, 3) := by decide +kernel
theorem d_Teller_isWithin_4 : decode b_Teller_isWithin 4 = .ok (.aload_n 0, 1) := by decide +kernel
theorem d_Teller_isWithin_5 : decode b_Teller_isWithin 5 = .ok (.getfield 29, 3) := by decide +kernel
theorem d_Teller_isWithin_8 : decode b_Teller_isWithin 8 = .ok (.getfield 36, 3) := by decide +kernel
theorem d_Teller_isWithin_11 : decode b_Teller_isWithin 11 = .ok (.if_icmp .ge 39, 3) := by decide +kernel
theorem d_Teller_isWithin_14 : decode b_Teller_isWithin 14 = .ok (.aload_n 0, 1) := by decide +kernel
theorem d_Teller_isWithin_15 : decode b_Teller_isWithin 15 = .ok (.getfield 29, 3) := by decide +kernel
theorem d_Teller_isWithin_18 : decode b_Teller_isWithin 18 = .ok (.getfield 95, 3) := by decide +kernel
theorem d_Teller_isWithin_21 : decode b_Teller_isWithin 21 = .ok (.aload_n 0, 1) := by decide +kernel
theorem d_Teller_isWithin_22 : decode b_Teller_isWithin 22 = .ok (.getfield 66, 3) := by decide +kernel
theorem d_Teller_isWithin_25 : decode b_Teller_isWithin 25 = .ok (.baload, 1) := by decide +kernel
theorem d_Teller_isWithin_26 : decode b_Teller_isWithin 26 = .ok (.iload_n 1, 1) := by decide +kernel
theorem d_Teller_isWithin_27 : decode b_Teller_isWithin 27 = .ok (.if_icmp .lt 23, 3) := by decide +kernel
theorem d_Teller_isWithin_30 : decode b_Teller_isWithin 30 = .ok (.aload_n 0, 1) := by decide +kernel
theorem d_Teller_isWithin_31 : decode b_Teller_isWithin 31 = .ok (.getfield 29, 3) := by decide +kernel
theorem d_Teller_isWithin_34 : decode b_Teller_isWithin 34 = .ok (.getfield 95, 3) := by decide +kernel
theorem d_Teller_isWithin_37 : decode b_Teller_isWithin 37 = .ok (.aload_n 0, 1) := by decide +kernel
theorem d_Teller_isWithin_38 : decode b_Teller_isWithin 38 = .ok (.getfield 66, 3) := by decide +kernel
theorem d_Teller_isWithin_41 : decode b_Teller_isWithin 41 = .ok (.baload, 1) := by decide +kernel
theorem d_Teller_isWithin_42 : decode b_Teller_isWithin 42 = .ok (.iload_n 2, 1) := by decide +kernel
theorem d_Teller_isWithin_43 : decode b_Teller_isWithin 43 = .ok (.if_icmp .gt 7, 3) := by decide +kernel
theorem d_Teller_isWithin_46 : decode b_Teller_isWithin 46 = .ok (.iconst 1, 1) := by decide +kernel
theorem d_Teller_isWithin_47 : decode b_Teller_isWithin 47 = .ok (.goto 4, 3) := by decide +kernel
theorem d_Teller_isWithin_50 : decode b_Teller_isWithin 50 = .ok (.iconst 0, 1) := by decide +kernel
theorem d_Teller_isWithin_51 : decode b_Teller_isWithin 51 = .ok (.ireturn, 1) := by decide +kernel
def X_Teller_isWithin (n : Nat) (p1 : Int32) (p2 : Int32) (M : Mem) : Option (Int32 × Mem) :=
  (if (M.1 1 1) ≤ (M.1 3 6) then
    some (0, M)
    else
    gd (M.1 3 6) 320 (
      (if (M.1 2 (M.1 3 6).toNatClampNeg) < p1 then
        some (0, M)
        else
        gd (M.1 3 6) 320 (
          (if p2 < (M.1 2 (M.1 3 6).toNatClampNeg) then
            some (0, M)
            else
            some (1, M))))))
set_option maxRecDepth 20000 in
set_option maxHeartbeats 4000000 in
theorem C_Teller_isWithin (n : Nat)   (p1 : Int32) (p2 : Int32) (M : Mem) : Ct y_Teller_isWithin mt_Teller_isWithin wI [Value.ref 3, Value.int p1, Value.int p2] M (X_Teller_isWithin n p1 p2 M) := by
  refine ct_of (by decide +kernel) rfl (Nat.le_of_ble_eq_true rfl) ?_
  show J _ _ _ [(0, Value.ref 3), (1, Value.int p1), (2, Value.int p2)] _ _ _
  unfold X_Teller_isWithin
  refine j_aload_n (pc := 0) (q := 0) d_Teller_isWithin_0 rfl rfl ?_
  refine j_getI (pc := 1) d_Teller_isWithin_1 fl_Teller_66 sx_3 (by decide) rfl ?_
  refine j_aload_n (pc := 4) (q := 0) d_Teller_isWithin_4 rfl rfl ?_
  refine j_getA (pc := 5) d_Teller_isWithin_5 fl_Teller_29 sx_3 (by decide) rfl ?_
  refine j_getI (pc := 8) d_Teller_isWithin_8 fl_Teller_36 sx_1 (by decide) rfl ?_
  refine j_icmp_ge (pc := 11) (tgt := 50) d_Teller_isWithin_11 (by decide) (fun _ => ?_) (fun _ => ?_)
  · refine j_iconst (pc := 50) d_Teller_isWithin_50 k_i_0 ?_
    exact j_zreturn (pc := 51) d_Teller_isWithin_51 rfl rfl
  · refine j_aload_n (pc := 14) (q := 0) d_Teller_isWithin_14 rfl rfl ?_
    refine j_getA (pc := 15) d_Teller_isWithin_15 fl_Teller_29 sx_3 (by decide) rfl ?_
    refine j_getA (pc := 18) d_Teller_isWithin_18 fl_Teller_95 sx_1 (by decide) rfl ?_
    refine j_aload_n (pc := 21) (q := 0) d_Teller_isWithin_21 rfl rfl ?_
    refine j_getI (pc := 22) d_Teller_isWithin_22 fl_Teller_66 sx_3 (by decide) rfl ?_
    refine j_bald (pc := 25) d_Teller_isWithin_25 sx_2 (fun _ => ?_)
    refine j_iload_n (pc := 26) (q := 1) d_Teller_isWithin_26 rfl rfl ?_
    refine j_icmp_lt (pc := 27) (tgt := 50) d_Teller_isWithin_27 (by decide) (fun _ => ?_) (fun _ => ?_)
    · refine j_iconst (pc := 50) d_Teller_isWithin_50 k_i_0 ?_
      exact j_zreturn (pc := 51) d_Teller_isWithin_51 rfl rfl
    · refine j_aload_n (pc := 30) (q := 0) d_Teller_isWithin_30 rfl rfl ?_
      refine j_getA (pc := 31) d_Teller_isWithin_31 fl_Teller_29 sx_3 (by decide) rfl ?_
      refine j_getA (pc := 34) d_Teller_isWithin_34 fl_Teller_95 sx_1 (by decide) rfl ?_
      refine j_aload_n (pc := 37) (q := 0) d_Teller_isWithin_37 rfl rfl ?_
      refine j_getI (pc := 38) d_Teller_isWithin_38 fl_Teller_66 sx_3 (by decide) rfl ?_
      refine j_bald (pc := 41) d_Teller_isWithin_41 sx_2 (fun _ => ?_)
      refine j_iload_n (pc := 42) (q := 2) d_Teller_isWithin_42 rfl rfl ?_
      refine j_icmp_gt (pc := 43) (tgt := 50) d_Teller_isWithin_43 (by decide) (fun _ => ?_) (fun _ => ?_)
      · refine j_iconst (pc := 50) d_Teller_isWithin_50 k_i_0 ?_
        exact j_zreturn (pc := 51) d_Teller_isWithin_51 rfl rfl
      · refine j_iconst (pc := 46) d_Teller_isWithin_46 k_i_1 ?_
        refine j_goto (pc := 47) (tgt := 51) d_Teller_isWithin_47 (by decide) ?_
        exact j_zreturn (pc := 51) d_Teller_isWithin_51 rfl rfl
-- Teller.readToken ()V
def mt_Teller_readToken : Mt := ("ShakeHands$Teller", b_Teller_readToken, 1, none, 3, SHx)
theorem d_Teller_readToken_0 : decode b_Teller_readToken 0 = .ok (.aload_n 0, 1) := by decide +kernel
theorem d_Teller_readToken_1 : decode b_Teller_readToken 1 = .ok (.getfield 45, 3) := by decide +kernel
theorem d_Teller_readToken_4 : decode b_Teller_readToken 4 = .ok (.ifCond .eq 4, 3) := by decide +kernel
theorem d_Teller_readToken_7 : decode b_Teller_readToken 7 = .ok (.return_, 1) := by decide +kernel
theorem d_Teller_readToken_8 : decode b_Teller_readToken 8 = .ok (.aload_n 0, 1) := by decide +kernel
theorem d_Teller_readToken_9 : decode b_Teller_readToken 9 = .ok (.getfield 66, 3) := by decide +kernel
theorem d_Teller_readToken_12 : decode b_Teller_readToken 12 = .ok (.aload_n 0, 1) := by decide +kernel
theorem d_Teller_readToken_13 : decode b_Teller_readToken 13 = .ok (.getfield 29, 3) := by decide +kernel
theorem d_Teller_readToken_16 : decode b_Teller_readToken 16 = .ok (.getfield 36, 3) := by decide +kernel
theorem d_Teller_readToken_19 : decode b_Teller_readToken 19 = .ok (.if_icmp .ge 33, 3) := by decide +kernel
theorem d_Teller_readToken_22 : decode b_Teller_readToken 22 = .ok (.aload_n 0, 1) := by decide +kernel
theorem d_Teller_readToken_23 : decode b_Teller_readToken 23 = .ok (.getfield 29, 3) := by decide +kernel
theorem d_Teller_readToken_26 : decode b_Teller_readToken 26 = .ok (.getfield 95, 3) := by decide +kernel
theorem d_Teller_readToken_29 : decode b_Teller_readToken 29 = .ok (.aload_n 0, 1) := by decide +kernel
theorem d_Teller_readToken_30 : decode b_Teller_readToken 30 = .ok (.getfield 66, 3) := by decide +kernel
theorem d_Teller_readToken_33 : decode b_Teller_readToken 33 = .ok (.baload, 1) := by decide +kernel
theorem d_Teller_readToken_34 : decode b_Teller_readToken 34 = .ok (.bipush 32, 2) := by decide +kernel
theorem d_Teller_readToken_36 : decode b_Teller_readToken 36 = .ok (.if_icmp .ne 16, 3) := by decide +kernel
theorem d_Teller_readToken_39 : decode b_Teller_readToken 39 = .ok (.aload_n 0, 1) := by decide +kernel
theorem d_Teller_readToken_40 : decode b_Teller_readToken 40 = .ok (.dup, 1) := by decide +kernel
theorem d_Teller_readToken_41 : decode b_Teller_readToken 41 = .ok (.getfield 66, 3) := by decide +kernel
theorem d_Teller_readToken_44 : decode b_Teller_readToken 44 = .ok (.iconst 1, 1) := by decide +kernel
theorem d_Teller_readToken_45 : decode b_Teller_readToken 45 = .ok (.iadd, 1) := by decide +kernel
theorem d_Teller_readToken_46 : decode b_Teller_readToken 46 = .ok (.putfield 66, 3) := by decide +kernel
theorem d_Teller_readToken_49 : decode b_Teller_readToken 49 = .ok (.goto (-41), 3) := by decide +kernel
theorem d_Teller_readToken_52 : decode b_Teller_readToken 52 = .ok (.aload_n 0, 1) := by decide +kernel
theorem d_Teller_readToken_53 : decode b_Teller_readToken 53 = .ok (.aload_n 0, 1) := by decide +kernel
theorem d_Teller_readToken_54 : decode b_Teller_readToken 54 = .ok (.getfield 66, 3) := by decide +kernel
theorem d_Teller_readToken_57 : decode b_Teller_readToken 57 = .ok (.putfield 57, 3) := by decide +kernel
theorem d_Teller_readToken_60 : decode b_Teller_readToken 60 = .ok (.aload_n 0, 1) := by decide +kernel
theorem d_Teller_readToken_61 : decode b_Teller_readToken 61 = .ok (.getfield 66, 3) := by decide +kernel
theorem d_Teller_readToken_64 : decode b_Teller_readToken 64 = .ok (.aload_n 0, 1) := by decide +kernel
theorem d_Teller_readToken_65 : decode b_Teller_readToken 65 = .ok (.getfield 29, 3) := by decide +kernel
theorem d_Teller_readToken_68 : decode b_Teller_readToken 68 = .ok (.getfield 36, 3) := by decide +kernel
theorem d_Teller_readToken_71 : decode b_Teller_readToken 71 = .ok (.if_icmp .lt 11, 3) := by decide +kernel
theorem d_Teller_readToken_74 : decode b_Teller_readToken 74 = .ok (.aload_n 0, 1) := by decide +kernel
theorem d_Teller_readToken_75 : decode b_Teller_readToken 75 = .ok (.iconst 0, 1) := by decide +kernel
theorem d_Teller_readToken_76 : decode b_Teller_readToken 76 = .ok (.putfield 48, 3) := by decide +kernel
theorem d_Teller_readToken_79 : decode b_Teller_readToken 79 = .ok (.goto 198, 3) := by decide +kernel
theorem d_Teller_readToken_82 : decode b_Teller_readToken 82 = .ok (.aload_n 0, 1) := by decide +kernel
theorem d_Teller_readToken_83 : decode b_Teller_readToken 83 = .ok (.bipush 97, 2) := by decide +kernel
theorem d_Teller_readToken_85 : decode b_Teller_readToken 85 = .ok (.bipush 122, 2) := by decide +kernel
theorem d_Teller_readToken_87 : decode b_Teller_readToken 87 = .ok (.invokevirtual 99, 3) := by decide +kernel
theorem d_Teller_readToken_90 : decode b_Teller_readToken 90 = .ok (.ifCond .eq 46, 3) := by decide +kernel
theorem d_Teller_readToken_93 : decode b_Teller_readToken 93 = .ok (.aload_n 0, 1) := by decide +kernel
theorem d_Teller_readToken_94 : decode b_Teller_readToken 94 = .ok (.iconst 1, 1) := by decide +kernel
theorem d_Teller_readToken_95 : decode b_Teller_readToken 95 = .ok (.putfield 48, 3) := by decide +kernel
theorem d_Teller_readToken_98 : decode b_Teller_readToken 98 = .ok (.aload_n 0, 1) := by decide +kernel
theorem d_Teller_readToken_99 : decode b_Teller_readToken 99 = .ok (.getfield 66, 3) := by decide +kernel
theorem d_Teller_readToken_102 : decode b_Teller_readToken 102 = .ok (.aload_n 0, 1) := by decide +kernel
theorem d_Teller_readToken_103 : decode b_Teller_readToken 103 = .ok (.getfield 29, 3) := by decide +kernel
theorem d_Teller_readToken_106 : decode b_Teller_readToken 106 = .ok (.getfield 36, 3) := by decide +kernel
theorem d_Teller_readToken_109 : decode b_Teller_readToken 109 = .ok (.if_icmp .ge 168, 3) := by decide +kernel
theorem d_Teller_readToken_112 : decode b_Teller_readToken 112 = .ok (.aload_n 0, 1) := by decide +kernel
theorem d_Teller_readToken_113 : decode b_Teller_readToken 113 = .ok (.bipush 97, 2) := by decide +kernel
theorem d_Teller_readToken_115 : decode b_Teller_readToken 115 = .ok (.bipush 122, 2) := by decide +kernel
theorem d_Teller_readToken_117 : decode b_Teller_readToken 117 = .ok (.invokevirtual 99, 3) := by decide +kernel
theorem d_Teller_readToken_120 : decode b_Teller_readToken 120 = .ok (.ifCond .eq 157, 3) := by decide +kernel
theorem d_Teller_readToken_123 : decode b_Teller_readToken 123 = .ok (.aload_n 0, 1) := by decide +kernel
theorem d_Teller_readToken_124 : decode b_Teller_readToken 124 = .ok (.dup, 1) := by decide +kernel
theorem d_Teller_readToken_125 : decode b_Teller_readToken 125 = .ok (.getfield 66, 3) := by decide +kernel
theorem d_Teller_readToken_128 : decode b_Teller_readToken 128 = .ok (.iconst 1, 1) := by decide +kernel
theorem d_Teller_readToken_129 : decode b_Teller_readToken 129 = .ok (.iadd, 1) := by decide +kernel
theorem d_Teller_readToken_130 : decode b_Teller_readToken 130 = .ok (.putfield 66, 3) := by decide +kernel
theorem d_Teller_readToken_133 : decode b_Teller_readToken 133 = .ok (.goto (-35), 3) := by decide +kernel
theorem d_Teller_readToken_136 : decode b_Teller_readToken 136 = .ok (.aload_n 0, 1) := by decide +kernel
theorem d_Teller_readToken_137 : decode b_Teller_readToken 137 = .ok (.bipush 48, 2) := by decide +kernel
theorem d_Teller_readToken_139 : decode b_Teller_readToken 139 = .ok (.bipush 57, 2) := by decide +kernel
theorem d_Teller_readToken_141 : decode b_Teller_readToken 141 = .ok (.invokevirtual 99, 3) := by decide +kernel
theorem d_Teller_readToken_144 : decode b_Teller_readToken 144 = .ok (.ifCond .eq 99, 3) := by decide +kernel
theorem d_Teller_readToken_147 : decode b_Teller_readToken 147 = .ok (.aload_n 0, 1) := by decide +kernel
theorem d_Teller_readToken_148 : decode b_Teller_readToken 148 = .ok (.iconst 2, 1) := by decide +kernel
theorem d_Teller_readToken_149 : decode b_Teller_readToken 149 = .ok (.putfield 48, 3) := by decide +kernel
theorem d_Teller_readToken_152 : decode b_Teller_readToken 152 = .ok (.aload_n 0, 1) := by decide +kernel
theorem d_Teller_readToken_153 : decode b_Teller_readToken 153 = .ok (.iconst 0, 1) := by decide +kernel
theorem d_Teller_readToken_154 : decode b_Teller_readToken 154 = .ok (.putfield 103, 3) := by decide +kernel
theorem d_Teller_readToken_157 : decode b_Teller_readToken 157 = .ok (.aload_n 0, 1) := by decide +kernel
theorem d_Teller_readToken_158 : decode b_Teller_readToken 158 = .ok (.getfield 66, 3) := by decide +kernel
theorem d_Teller_readToken_161 : decode b_Teller_readToken 161 = .ok (.aload_n 0, 1) := by decide +kernel
theorem d_Teller_readToken_162 : decode b_Teller_readToken 162 = .ok (.getfield 29, 3) := by decide +kernel
theorem d_Teller_readToken_165 : decode b_Teller_readToken 165 = .ok (.getfield 36, 3) := by decide +kernel
theorem d_Teller_readToken_168 : decode b_Teller_readToken 168 = .ok (.if_icmp .ge 54, 3) := by decide +kernel
theorem d_Teller_readToken_171 : decode b_Teller_readToken 171 = .ok (.aload_n 0, 1) := by decide +kernel
theorem d_Teller_readToken_172 : decode b_Teller_readToken 172 = .ok (.bipush 48, 2) := by decide +kernel
theorem d_Teller_readToken_174 : decode b_Teller_readToken 174 = .ok (.bipush 57, 2) := by decide +kernel
theorem d_Teller_readToken_176 : decode b_Teller_readToken 176 = .ok (.invokevirtual 99, 3) := by decide +kernel
theorem d_Teller_readToken_179 : decode b_Teller_readToken 179 = .ok (.ifCond .eq 43, 3) := by decide +kernel
theorem d_Teller_readToken_182 : decode b_Teller_readToken 182 = .ok (.aload_n 0, 1) := by decide +kernel
theorem d_Teller_readToken_183 : decode b_Teller_readToken 183 = .ok (.bipush 10, 2) := by decide +kernel
theorem d_Teller_readToken_185 : decode b_Teller_readToken 185 = .ok (.aload_n 0, 1) := by decide +kernel
theorem d_Teller_readToken_186 : decode b_Teller_readToken 186 = .ok (.getfield 103, 3) := by decide +kernel
theorem d_Teller_readToken_189 : decode b_Teller_readToken 189 = .ok (.imul, 1) := by decide +kernel
theorem d_Teller_readToken_190 : decode b_Teller_readToken 190 = .ok (.aload_n 0, 1) := by decide +kernel
theorem d_Teller_readToken_191 : decode b_Teller_readToken 191 = .ok (.getfield 29, 3) := by decide +kernel
theorem d_Teller_readToken_194 : decode b_Teller_readToken 194 = .ok (.getfield 95, 3) := by decide +kernel
theorem d_Teller_readToken_197 : decode b_Teller_readToken 197 = .ok (.aload_n 0, 1) := by decide +kernel
theorem d_Teller_readToken_198 : decode b_Teller_readToken 198 = .ok (.getfield 66, 3) := by decide +kernel
theorem d_Teller_readToken_201 : decode b_Teller_readToken 201 = .ok (.baload, 1) := by decide +kernel
theorem d_Teller_readToken_202 : decode b_Teller_readToken 202 = .ok (.iadd, 1) := by decide +kernel
theorem d_Teller_readToken_203 : decode b_Teller_readToken 203 = .ok (.bipush 48, 2) := by decide +kernel
theorem d_Teller_readToken_205 : decode b_Teller_readToken 205 = .ok (.isub, 1) := by decide +kernel
theorem d_Teller_readToken_206 : decode b_Teller_readToken 206 = .ok (.putfield 103, 3) := by decide +kernel
theorem d_Teller_readToken_209 : decode b_Teller_readToken 209 = .ok (.aload_n 0, 1) := by decide +kernel
theorem d_Teller_readToken_210 : decode b_Teller_readToken 210 = .ok (.dup, 1) := by decide +kernel
theorem d_Teller_readToken_211 : decode b_Teller_readToken 211 = .ok (.getfield 66, 3) := by decide +kernel
theorem d_Teller_readToken_214 : decode b_Teller_readToken 214 = .ok (.iconst 1, 1) := by decide +kernel
theorem d_Teller_readToken_215 : decode b_Teller_readToken 215 = .ok (.iadd, 1) := by decide +kernel
theorem d_Teller_readToken_216 : decode b_Teller_readToken 216 = .ok (.putfield 66, 3) := by decide +kernel
theorem d_Teller_readToken_219 : decode b_Teller_readToken 219 = .ok (.goto (-62), 3) := by decide +kernel
theorem d_Teller_readToken_222 : decode b_Teller_readToken 222 = .ok (.aload_n 0, 1) := by decide +kernel
theorem d_Teller_readToken_223 : decode b_Teller_readToken 223 = .ok (.getfield 66, 3) := by decide +kernel
theorem d_Teller_readToken_226 : decode b_Teller_readToken 226 = .ok (.aload_n 0, 1) := by decide +kernel
theorem d_Teller_readToken_227 : decode b_Teller_readToken 227 = .ok (.getfield 57, 3) := by decide +kernel
theorem d_Teller_readToken_230 : decode b_Teller_readToken 230 = .ok (.isub, 1) := by decide +kernel
theorem d_Teller_readToken_231 : decode b_Teller_readToken 231 = .ok (.iconst 2, 1) := by decide +kernel
theorem d_Teller_readToken_232 : decode b_Teller_readToken 232 = .ok (.if_icmp .le 45, 3) := by decide +kernel
theorem d_Teller_readToken_235 : decode b_Teller_readToken 235 = .ok (.aload_n 0, 1) := by decide +kernel
theorem d_Teller_readToken_236 : decode b_Teller_readToken 236 = .ok (.iconst 1, 1) := by decide +kernel
theorem d_Teller_readToken_237 : decode b_Teller_readToken 237 = .ok (.invokevirtual 88, 3) := by decide +kernel
theorem d_Teller_readToken_240 : decode b_Teller_readToken 240 = .ok (.goto 37, 3) := by decide +kernel
theorem d_Teller_readToken_243 : decode b_Teller_readToken 243 = .ok (.aload_n 0, 1) := by decide +kernel
theorem d_Teller_readToken_244 : decode b_Teller_readToken 244 = .ok (.bipush 59, 2) := by decide +kernel
theorem d_Teller_readToken_246 : decode b_Teller_readToken 246 = .ok (.bipush 59, 2) := by decide +kernel
theorem d_Teller_readToken_248 : decode b_Teller_readToken 248 = .ok (.invokevirtual 99, 3) := by decide +kernel
theorem d_Teller_readToken_251 : decode b_Teller_readToken 251 = .ok (.ifCond .eq 21, 3) := by decide +kernel
theorem d_Teller_readToken_254 : decode b_Teller_readToken 254 = .ok (.aload_n 0, 1) := by decide +kernel
theorem d_Teller_readToken_255 : decode b_Teller_readToken 255 = .ok (.iconst 3, 1) := by decide +kernel
theorem d_Teller_readToken_256 : decode b_Teller_readToken 256 = .ok (.putfield 48, 3) := by decide +kernel
theorem d_Teller_readToken_259 : decode b_Teller_readToken 259 = .ok (.aload_n 0, 1) := by decide +kernel
theorem d_Teller_readToken_260 : decode b_Teller_readToken 260 = .ok (.dup, 1) := by decide +kernel
theorem d_Teller_readToken_261 : decode b_Teller_readToken 261 = .ok (.getfield 66, 3) := by decide +kernel
theorem d_Teller_readToken_264 : decode b_Teller_readToken 264 = .ok (.iconst 1, 1) := by decide +kernel
theorem d_Teller_readToken_265 : decode b_Teller_readToken 265 = .ok (.iadd, 1) := by decide +kernel
theorem d_Teller_readToken_266 : decode b_Teller_readToken 266 = .ok (.putfield 66, 3) := by decide +kernel
theorem d_Teller_readToken_269 : decode b_Teller_readToken 269 = .ok (.goto 8, 3) := by decide +kernel
theorem d_Teller_readToken_272 : decode b_Teller_readToken 272 = .ok (.aload_n 0, 1) := by decide +kernel
theorem d_Teller_readToken_273 : decode b_Teller_readToken 273 = .ok (.iconst 1, 1) := by decide +kernel
theorem d_Teller_readToken_274 : decode b_Teller_readToken 274 = .ok (.invokevirtual 88, 3) := by decide +kernel
theorem d_Teller_readToken_277 : decode b_Teller_readToken 277 = .ok (.return_, 1) := by decide +kernel
def X_Teller_readToken_L8 (n : Nat) (kx52 : Mem → Option (Unit × Mem)) : Nat → Mem → Option (Unit × Mem)
    | 0, _ => none
    | m + 1, M => (if (M.1 1 1) ≤ (M.1 3 6) then
    kx52 M
    else
    gd (M.1 3 6) 320 (
      (if (M.1 2 (M.1 3 6).toNatClampNeg) = 32 then
        X_Teller_readToken_L8 n kx52 m (si M 3 6 ((M.1 3 6) + 1))
        else
        kx52 M)))
def X_Teller_readToken_L157 (n : Nat) (kx222 : Mem → Option (Unit × Mem)) : Nat → Mem → Option (Unit × Mem)
    | 0, _ => none
    | m + 1, M => (if (M.1 1 1) ≤ (M.1 3 6) then
    kx222 M
    else
    bd (X_Teller_isWithin n 48 57 M) fun r12 M13 =>
    (if r12 = 0 then
      kx222 M13
      else
      gd (M13.1 3 6) 320 (
        nm (si M13 3 9 ((((10 : Int32) * (M13.1 3 9)) + (M13.1 2 (M13.1 3 6).toNatClampNeg)) - 48)) fun N14 =>
        X_Teller_readToken_L157 n kx222 m (si N14 3 6 ((N14.1 3 6) + 1)))))
def X_Teller_readToken_L98 (n : Nat) : Nat → Mem → Option (Unit × Mem)
    | 0, _ => none
    | m + 1, M => (if (M.1 1 1) ≤ (M.1 3 6) then
    some ((), M)
    else
    bd (X_Teller_isWithin n 97 122 M) fun r18 M19 =>
    (if r18 = 0 then
      some ((), M19)
      else
      X_Teller_readToken_L98 n m (si M19 3 6 ((M19.1 3 6) + 1))))
def X_Teller_readToken (n : Nat) (M : Mem) : Option (Unit × Mem) :=
  (if (M.1 3 3) = 0 then
    X_Teller_readToken_L8 n (fun M1 => nm (si M1 3 8 (M1.1 3 6)) fun N2 =>
      (if (N2.1 3 6) < (N2.1 1 1) then
        bd (X_Teller_isWithin n 97 122 N2) fun r3 M4 =>
        (if r3 = 0 then
          bd (X_Teller_isWithin n 48 57 M4) fun r5 M6 =>
          (if r5 = 0 then
            bd (X_Teller_isWithin n 59 59 M6) fun r7 M8 =>
            (if r7 = 0 then
              bd (X_Teller_refuse n 1 M8) fun _ M10 =>
              some ((), M10)
              else
              nm (si M8 3 7 3) fun N11 =>
              some ((), si N11 3 6 ((N11.1 3 6) + 1)))
            else
            X_Teller_readToken_L157 n (fun M15 => (if ((M15.1 3 6) - (M15.1 3 8)) ≤ 2 then
                some ((), M15)
                else
                bd (X_Teller_refuse n 1 M15) fun _ M17 =>
                some ((), M17))) n (si (si M6 3 7 2) 3 9 0))
          else
          X_Teller_readToken_L98 n n (si M4 3 7 1))
        else
        some ((), si N2 3 7 0))) n M
    else
    some ((), M))
set_option maxRecDepth 20000 in
set_option maxHeartbeats 4000000 in
theorem X_Teller_readToken_L8_ok {n : Nat} {kx52 : Mem → Option (Unit × Mem)} (hkx52 : ∀ (M : Mem), J (mt_Teller_readToken) wU 52 [(0, Value.ref 3)] [] M (kx52 M)) : ∀ (m : Nat) (M : Mem), J (mt_Teller_readToken) wU 8 [(0, Value.ref 3)] [] M (X_Teller_readToken_L8 n kx52 m M) := by
  intro m
  induction m with
  | zero => intro _; exact j_none
  | succ m ih =>
    intro M
    show J _ _ _ _ _ _ ((if (M.1 1 1) ≤ (M.1 3 6) then
kx52 M
else
gd (M.1 3 6) 320 (
(if (M.1 2 (M.1 3 6).toNatClampNeg) = 32 then
X_Teller_readToken_L8 n kx52 m (si M 3 6 ((M.1 3 6) + 1))
else
kx52 M))))
    refine j_aload_n (pc := 8) (q := 0) d_Teller_readToken_8 rfl rfl ?_
    refine j_getI (pc := 9) d_Teller_readToken_9 fl_Teller_66 sx_3 (by decide) rfl ?_
    refine j_aload_n (pc := 12) (q := 0) d_Teller_readToken_12 rfl rfl ?_
    refine j_getA (pc := 13) d_Teller_readToken_13 fl_Teller_29 sx_3 (by decide) rfl ?_
    refine j_getI (pc := 16) d_Teller_readToken_16 fl_Teller_36 sx_1 (by decide) rfl ?_
    refine j_icmp_ge (pc := 19) (tgt := 52) d_Teller_readToken_19 (by decide) (fun _ => ?_) (fun _ => ?_)
    · exact hkx52 M
    · refine j_aload_n (pc := 22) (q := 0) d_Teller_readToken_22 rfl rfl ?_
      refine j_getA (pc := 23) d_Teller_readToken_23 fl_Teller_29 sx_3 (by decide) rfl ?_
      refine j_getA (pc := 26) d_Teller_readToken_26 fl_Teller_95 sx_1 (by decide) rfl ?_
      refine j_aload_n (pc := 29) (q := 0) d_Teller_readToken_29 rfl rfl ?_
      refine j_getI (pc := 30) d_Teller_readToken_30 fl_Teller_66 sx_3 (by decide) rfl ?_
      refine j_bald (pc := 33) d_Teller_readToken_33 sx_2 (fun _ => ?_)
      refine j_bipush (pc := 34) d_Teller_readToken_34 k_b_32 ?_
      refine j_icmp_ne (pc := 36) (tgt := 52) d_Teller_readToken_36 (by decide) (fun _ => ?_) (fun _ => ?_)
      · exact hkx52 M
      · refine j_aload_n (pc := 39) (q := 0) d_Teller_readToken_39 rfl rfl ?_
        refine j_dup (pc := 40) d_Teller_readToken_40 rfl ?_
        refine j_getI (pc := 41) d_Teller_readToken_41 fl_Teller_66 sx_3 (by decide) rfl ?_
        refine j_iconst (pc := 44) d_Teller_readToken_44 k_i_1 ?_
        refine j_iadd (pc := 45) d_Teller_readToken_45 ?_
        refine j_putI (pc := 46) d_Teller_readToken_46 fl_Teller_66 rfl sx_3 (by decide) rfl ?_
        refine j_goto (pc := 49) (tgt := 8) d_Teller_readToken_49 (by decide) ?_
        exact ih (si M 3 6 ((M.1 3 6) + 1))
set_option maxRecDepth 20000 in
set_option maxHeartbeats 4000000 in
theorem X_Teller_readToken_L157_ok {n : Nat} {kx222 : Mem → Option (Unit × Mem)} (hkx222 : ∀ (M : Mem), J (mt_Teller_readToken) wU 222 [(0, Value.ref 3)] [] M (kx222 M)) : ∀ (m : Nat) (M : Mem), J (mt_Teller_readToken) wU 157 [(0, Value.ref 3)] [] M (X_Teller_readToken_L157 n kx222 m M) := by
  intro m
  induction m with
  | zero => intro _; exact j_none
  | succ m ih =>
    intro M
    show J _ _ _ _ _ _ ((if (M.1 1 1) ≤ (M.1 3 6) then
kx222 M
else
bd (X_Teller_isWithin n 48 57 M) fun r12 M13 =>
(if r12 = 0 then
kx222 M13
else
gd (M13.1 3 6) 320 (
nm (si M13 3 9 ((((10 : Int32) * (M13.1 3 9)) + (M13.1 2 (M13.1 3 6).toNatClampNeg)) - 48)) fun N14 =>
X_Teller_readToken_L157 n kx222 m (si N14 3 6 ((N14.1 3 6) + 1))))))
    refine j_aload_n (pc := 157) (q := 0) d_Teller_readToken_157 rfl rfl ?_
    refine j_getI (pc := 158) d_Teller_readToken_158 fl_Teller_66 sx_3 (by decide) rfl ?_
    refine j_aload_n (pc := 161) (q := 0) d_Teller_readToken_161 rfl rfl ?_
    refine j_getA (pc := 162) d_Teller_readToken_162 fl_Teller_29 sx_3 (by decide) rfl ?_
    refine j_getI (pc := 165) d_Teller_readToken_165 fl_Teller_36 sx_1 (by decide) rfl ?_
    refine j_icmp_ge (pc := 168) (tgt := 222) d_Teller_readToken_168 (by decide) (fun _ => ?_) (fun _ => ?_)
    · exact hkx222 M
    · refine j_aload_n (pc := 171) (q := 0) d_Teller_readToken_171 rfl rfl ?_
      refine j_bipush (pc := 172) d_Teller_readToken_172 k_b_48 ?_
      refine j_bipush (pc := 174) d_Teller_readToken_174 k_b_57 ?_
      refine j_callV2 (pc := 176) d_Teller_readToken_176 (C_Teller_isWithin n 48 57 M) cV_Teller_99 cd_Teller_isWithin dn_Teller_isWithin rfl (by decide) (Nat.le_of_ble_eq_true rfl) (Nat.le_of_ble_eq_true rfl) nr_I sx_3 (by decide) rfl (fun r12 M13 => ?_)
      refine j_if_eq (pc := 179) (tgt := 222) d_Teller_readToken_179 (by decide) (fun _ => ?_) (fun _ => ?_)
      · exact hkx222 M13
      · refine j_aload_n (pc := 182) (q := 0) d_Teller_readToken_182 rfl rfl ?_
        refine j_bipush (pc := 183) d_Teller_readToken_183 k_b_10 ?_
        refine j_aload_n (pc := 185) (q := 0) d_Teller_readToken_185 rfl rfl ?_
        refine j_getI (pc := 186) d_Teller_readToken_186 fl_Teller_103 sx_3 (by decide) rfl ?_
        refine j_imul (pc := 189) d_Teller_readToken_189 ?_
        refine j_aload_n (pc := 190) (q := 0) d_Teller_readToken_190 rfl rfl ?_
        refine j_getA (pc := 191) d_Teller_readToken_191 fl_Teller_29 sx_3 (by decide) rfl ?_
        refine j_getA (pc := 194) d_Teller_readToken_194 fl_Teller_95 sx_1 (by decide) rfl ?_
        refine j_aload_n (pc := 197) (q := 0) d_Teller_readToken_197 rfl rfl ?_
        refine j_getI (pc := 198) d_Teller_readToken_198 fl_Teller_66 sx_3 (by decide) rfl ?_
        refine j_bald (pc := 201) d_Teller_readToken_201 sx_2 (fun _ => ?_)
        refine j_iadd (pc := 202) d_Teller_readToken_202 ?_
        refine j_bipush (pc := 203) d_Teller_readToken_203 k_b_48 ?_
        refine j_isub (pc := 205) d_Teller_readToken_205 ?_
        refine j_putI (pc := 206) d_Teller_readToken_206 fl_Teller_103 rfl sx_3 (by decide) rfl ?_
        refine j_aload_n (pc := 209) (q := 0) d_Teller_readToken_209 rfl rfl ?_
        refine j_dup (pc := 210) d_Teller_readToken_210 rfl ?_
        refine j_nmM (fun N14 => ?_)
        refine j_getI (pc := 211) d_Teller_readToken_211 fl_Teller_66 sx_3 (by decide) rfl ?_
        refine j_iconst (pc := 214) d_Teller_readToken_214 k_i_1 ?_
        refine j_iadd (pc := 215) d_Teller_readToken_215 ?_
        refine j_putI (pc := 216) d_Teller_readToken_216 fl_Teller_66 rfl sx_3 (by decide) rfl ?_
        refine j_goto (pc := 219) (tgt := 157) d_Teller_readToken_219 (by decide) ?_
        exact ih (si N14 3 6 ((N14.1 3 6) + 1))
set_option maxRecDepth 20000 in
set_option maxHeartbeats 4000000 in
theorem X_Teller_readToken_L98_ok {n : Nat} : ∀ (m : Nat) (M : Mem), J (mt_Teller_readToken) wU 98 [(0, Value.ref 3)] [] M (X_Teller_readToken_L98 n m M) := by
  intro m
  induction m with
  | zero => intro _; exact j_none
  | succ m ih =>
    intro M
    show J _ _ _ _ _ _ ((if (M.1 1 1) ≤ (M.1 3 6) then
some ((), M)
else
bd (X_Teller_isWithin n 97 122 M) fun r18 M19 =>
(if r18 = 0 then
some ((), M19)
else
X_Teller_readToken_L98 n m (si M19 3 6 ((M19.1 3 6) + 1)))))
    refine j_aload_n (pc := 98) (q := 0) d_Teller_readToken_98 rfl rfl ?_
    refine j_getI (pc := 99) d_Teller_readToken_99 fl_Teller_66 sx_3 (by decide) rfl ?_
    refine j_aload_n (pc := 102) (q := 0) d_Teller_readToken_102 rfl rfl ?_
    refine j_getA (pc := 103) d_Teller_readToken_103 fl_Teller_29 sx_3 (by decide) rfl ?_
    refine j_getI (pc := 106) d_Teller_readToken_106 fl_Teller_36 sx_1 (by decide) rfl ?_
    refine j_icmp_ge (pc := 109) (tgt := 277) d_Teller_readToken_109 (by decide) (fun _ => ?_) (fun _ => ?_)
    · exact j_return (pc := 277) d_Teller_readToken_277 rfl
    · refine j_aload_n (pc := 112) (q := 0) d_Teller_readToken_112 rfl rfl ?_
      refine j_bipush (pc := 113) d_Teller_readToken_113 k_b_97 ?_
      refine j_bipush (pc := 115) d_Teller_readToken_115 k_b_122 ?_
      refine j_callV2 (pc := 117) d_Teller_readToken_117 (C_Teller_isWithin n 97 122 M) cV_Teller_99 cd_Teller_isWithin dn_Teller_isWithin rfl (by decide) (Nat.le_of_ble_eq_true rfl) (Nat.le_of_ble_eq_true rfl) nr_I sx_3 (by decide) rfl (fun r18 M19 => ?_)
      refine j_if_eq (pc := 120) (tgt := 277) d_Teller_readToken_120 (by decide) (fun _ => ?_) (fun _ => ?_)
      · exact j_return (pc := 277) d_Teller_readToken_277 rfl
      · refine j_aload_n (pc := 123) (q := 0) d_Teller_readToken_123 rfl rfl ?_
        refine j_dup (pc := 124) d_Teller_readToken_124 rfl ?_
        refine j_getI (pc := 125) d_Teller_readToken_125 fl_Teller_66 sx_3 (by decide) rfl ?_
        refine j_iconst (pc := 128) d_Teller_readToken_128 k_i_1 ?_
        refine j_iadd (pc := 129) d_Teller_readToken_129 ?_
        refine j_putI (pc := 130) d_Teller_readToken_130 fl_Teller_66 rfl sx_3 (by decide) rfl ?_
        refine j_goto (pc := 133) (tgt := 98) d_Teller_readToken_133 (by decide) ?_
        exact ih (si M19 3 6 ((M19.1 3 6) + 1))
set_option maxRecDepth 20000 in
set_option maxHeartbeats 4000000 in
theorem C_Teller_readToken (n : Nat)    (M : Mem) : Ct y_Teller_readToken mt_Teller_readToken wU [Value.ref 3] M (X_Teller_readToken n M) := by
  refine ct_of (by decide +kernel) rfl (Nat.le_of_ble_eq_true rfl) ?_
  show J _ _ _ [(0, Value.ref 3)] _ _ _
  unfold X_Teller_readToken
  refine j_aload_n (pc := 0) (q := 0) d_Teller_readToken_0 rfl rfl ?_
  refine j_getI (pc := 1) d_Teller_readToken_1 fl_Teller_45 sx_3 (by decide) rfl ?_
  refine j_if_eq (pc := 4) (tgt := 8) d_Teller_readToken_4 (by decide) (fun _ => ?_) (fun _ => ?_)
  · refine X_Teller_readToken_L8_ok  (fun M1 => ?_) n M
    refine j_aload_n (pc := 52) (q := 0) d_Teller_readToken_52 rfl rfl ?_
    refine j_aload_n (pc := 53) (q := 0) d_Teller_readToken_53 rfl rfl ?_
    refine j_getI (pc := 54) d_Teller_readToken_54 fl_Teller_66 sx_3 (by decide) rfl ?_
    refine j_putI (pc := 57) d_Teller_readToken_57 fl_Teller_57 rfl sx_3 (by decide) rfl ?_
    refine j_aload_n (pc := 60) (q := 0) d_Teller_readToken_60 rfl rfl ?_
    refine j_nmM (fun N2 => ?_)
    refine j_getI (pc := 61) d_Teller_readToken_61 fl_Teller_66 sx_3 (by decide) rfl ?_
    refine j_aload_n (pc := 64) (q := 0) d_Teller_readToken_64 rfl rfl ?_
    refine j_getA (pc := 65) d_Teller_readToken_65 fl_Teller_29 sx_3 (by decide) rfl ?_
    refine j_getI (pc := 68) d_Teller_readToken_68 fl_Teller_36 sx_1 (by decide) rfl ?_
    refine j_icmp_lt (pc := 71) (tgt := 82) d_Teller_readToken_71 (by decide) (fun _ => ?_) (fun _ => ?_)
    · refine j_aload_n (pc := 82) (q := 0) d_Teller_readToken_82 rfl rfl ?_
      refine j_bipush (pc := 83) d_Teller_readToken_83 k_b_97 ?_
      refine j_bipush (pc := 85) d_Teller_readToken_85 k_b_122 ?_
      refine j_callV2 (pc := 87) d_Teller_readToken_87 (C_Teller_isWithin n 97 122 N2) cV_Teller_99 cd_Teller_isWithin dn_Teller_isWithin rfl (by decide) (Nat.le_of_ble_eq_true rfl) (Nat.le_of_ble_eq_true rfl) nr_I sx_3 (by decide) rfl (fun r3 M4 => ?_)
      refine j_if_eq (pc := 90) (tgt := 136) d_Teller_readToken_90 (by decide) (fun _ => ?_) (fun _ => ?_)
      · refine j_aload_n (pc := 136) (q := 0) d_Teller_readToken_136 rfl rfl ?_
        refine j_bipush (pc := 137) d_Teller_readToken_137 k_b_48 ?_
        refine j_bipush (pc := 139) d_Teller_readToken_139 k_b_57 ?_
        refine j_callV2 (pc := 141) d_Teller_readToken_141 (C_Teller_isWithin n 48 57 M4) cV_Teller_99 cd_Teller_isWithin dn_Teller_isWithin rfl (by decide) (Nat.le_of_ble_eq_true rfl) (Nat.le_of_ble_eq_true rfl) nr_I sx_3 (by decide) rfl (fun r5 M6 => ?_)
        refine j_if_eq (pc := 144) (tgt := 243) d_Teller_readToken_144 (by decide) (fun _ => ?_) (fun _ => ?_)
        · refine j_aload_n (pc := 243) (q := 0) d_Teller_readToken_243 rfl rfl ?_
          refine j_bipush (pc := 244) d_Teller_readToken_244 k_b_59 ?_
          refine j_bipush (pc := 246) d_Teller_readToken_246 k_b_59 ?_
          refine j_callV2 (pc := 248) d_Teller_readToken_248 (C_Teller_isWithin n 59 59 M6) cV_Teller_99 cd_Teller_isWithin dn_Teller_isWithin rfl (by decide) (Nat.le_of_ble_eq_true rfl) (Nat.le_of_ble_eq_true rfl) nr_I sx_3 (by decide) rfl (fun r7 M8 => ?_)
          refine j_if_eq (pc := 251) (tgt := 272) d_Teller_readToken_251 (by decide) (fun _ => ?_) (fun _ => ?_)
          · refine j_aload_n (pc := 272) (q := 0) d_Teller_readToken_272 rfl rfl ?_
            refine j_iconst (pc := 273) d_Teller_readToken_273 k_i_1 ?_
            refine j_callV1 (pc := 274) d_Teller_readToken_274 (C_Teller_refuse n 1 M8) cV_Teller_88 cd_Teller_refuse dn_Teller_refuse rfl (by decide) (Nat.le_of_ble_eq_true rfl) (Nat.le_of_ble_eq_true rfl) nr_U sx_3 (by decide) rfl (fun r9 M10 => ?_)
            exact j_return (pc := 277) d_Teller_readToken_277 rfl
          · refine j_aload_n (pc := 254) (q := 0) d_Teller_readToken_254 rfl rfl ?_
            refine j_iconst (pc := 255) d_Teller_readToken_255 k_i_3 ?_
            refine j_putI (pc := 256) d_Teller_readToken_256 fl_Teller_48 rfl sx_3 (by decide) rfl ?_
            refine j_aload_n (pc := 259) (q := 0) d_Teller_readToken_259 rfl rfl ?_
            refine j_dup (pc := 260) d_Teller_readToken_260 rfl ?_
            refine j_nmM (fun N11 => ?_)
            refine j_getI (pc := 261) d_Teller_readToken_261 fl_Teller_66 sx_3 (by decide) rfl ?_
            refine j_iconst (pc := 264) d_Teller_readToken_264 k_i_1 ?_
            refine j_iadd (pc := 265) d_Teller_readToken_265 ?_
            refine j_putI (pc := 266) d_Teller_readToken_266 fl_Teller_66 rfl sx_3 (by decide) rfl ?_
            refine j_goto (pc := 269) (tgt := 277) d_Teller_readToken_269 (by decide) ?_
            exact j_return (pc := 277) d_Teller_readToken_277 rfl
        · refine j_aload_n (pc := 147) (q := 0) d_Teller_readToken_147 rfl rfl ?_
          refine j_iconst (pc := 148) d_Teller_readToken_148 k_i_2 ?_
          refine j_putI (pc := 149) d_Teller_readToken_149 fl_Teller_48 rfl sx_3 (by decide) rfl ?_
          refine j_aload_n (pc := 152) (q := 0) d_Teller_readToken_152 rfl rfl ?_
          refine j_iconst (pc := 153) d_Teller_readToken_153 k_i_0 ?_
          refine j_putI (pc := 154) d_Teller_readToken_154 fl_Teller_103 rfl sx_3 (by decide) rfl ?_
          refine X_Teller_readToken_L157_ok  (fun M15 => ?_) n (si (si M6 3 7 2) 3 9 0)
          refine j_aload_n (pc := 222) (q := 0) d_Teller_readToken_222 rfl rfl ?_
          refine j_getI (pc := 223) d_Teller_readToken_223 fl_Teller_66 sx_3 (by decide) rfl ?_
          refine j_aload_n (pc := 226) (q := 0) d_Teller_readToken_226 rfl rfl ?_
          refine j_getI (pc := 227) d_Teller_readToken_227 fl_Teller_57 sx_3 (by decide) rfl ?_
          refine j_isub (pc := 230) d_Teller_readToken_230 ?_
          refine j_iconst (pc := 231) d_Teller_readToken_231 k_i_2 ?_
          refine j_icmp_le (pc := 232) (tgt := 277) d_Teller_readToken_232 (by decide) (fun _ => ?_) (fun _ => ?_)
          · exact j_return (pc := 277) d_Teller_readToken_277 rfl
          · refine j_aload_n (pc := 235) (q := 0) d_Teller_readToken_235 rfl rfl ?_
            refine j_iconst (pc := 236) d_Teller_readToken_236 k_i_1 ?_
            refine j_callV1 (pc := 237) d_Teller_readToken_237 (C_Teller_refuse n 1 M15) cV_Teller_88 cd_Teller_refuse dn_Teller_refuse rfl (by decide) (Nat.le_of_ble_eq_true rfl) (Nat.le_of_ble_eq_true rfl) nr_U sx_3 (by decide) rfl (fun r16 M17 => ?_)
            refine j_goto (pc := 240) (tgt := 277) d_Teller_readToken_240 (by decide) ?_
            exact j_return (pc := 277) d_Teller_readToken_277 rfl
      · refine j_aload_n (pc := 93) (q := 0) d_Teller_readToken_93 rfl rfl ?_
        refine j_iconst (pc := 94) d_Teller_readToken_94 k_i_1 ?_
        refine j_putI (pc := 95) d_Teller_readToken_95 fl_Teller_48 rfl sx_3 (by decide) rfl ?_
        exact X_Teller_readToken_L98_ok   n (si M4 3 7 1)
    · refine j_aload_n (pc := 74) (q := 0) d_Teller_readToken_74 rfl rfl ?_
      refine j_iconst (pc := 75) d_Teller_readToken_75 k_i_0 ?_
      refine j_putI (pc := 76) d_Teller_readToken_76 fl_Teller_48 rfl sx_3 (by decide) rfl ?_
      refine j_goto (pc := 79) (tgt := 277) d_Teller_readToken_79 (by decide) ?_
      exact j_return (pc := 277) d_Teller_readToken_277 rfl
  · exact j_return (pc := 7) d_Teller_readToken_7 rfl
-- Teller.isCalled (Ljava/lang/String;)Z
def mt_Teller_isCalled : Mt := ("ShakeHands$Teller", b_Teller_isCalled, 3, some .boolean, 12, SHx)
theorem d_Teller_isCalled_0 : decode b_Teller_isCalled 0 = .ok (.aload_n 0, 1) := by decide +kernel
theorem d_Teller_isCalled_1 : decode b_Teller_isCalled 1 = .ok (.getfield 66, 3) := by decide +kernel
theorem d_Teller_isCalled_4 : decode b_Teller_isCalled 4 = .ok (.aload_n 0, 1) := by decide +kernel
theorem d_Teller_isCalled_5 : decode b_Teller_isCalled 5 = .ok (.getfield 57, 3) := by decide +kernel
theorem d_Teller_isCalled_8 : decode b_Teller_isCalled 8 = .ok (.isub, 1) := by decide +kernel
theorem d_Teller_isCalled_9 : decode b_Teller_isCalled 9 = .ok (.aload_n 1, 1) := by decide +kernel
theorem d_Teller_isCalled_10 : decode b_Teller_isCalled 10 = .ok (.invokevirtual 106, 3) := by decide +kernel
theorem d_Teller_isCalled_13 : decode b_Teller_isCalled 13 = .ok (.if_icmp .eq 5, 3) := by decide +kernel
theorem d_Teller_isCalled_16 : decode b_Teller_isCalled 16 = .ok (.iconst 0, 1) := by decide +kernel
theorem d_Teller_isCalled_17 : decode b_Teller_isCalled 17 = .ok (.ireturn, 1) := by decide +kernel
theorem d_Teller_isCalled_18 : decode b_Teller_isCalled 18 = .ok (.iconst 0, 1) := by decide +kernel
theorem d_Teller_isCalled_19 : decode b_Teller_isCalled 19 = .ok (.istore_n 2, 1) := by decide +kernel
theorem d_Teller_isCalled_20 : decode b_Teller_isCalled 20 = .ok (.iload_n 2, 1) := by decide +kernel
theorem d_Teller_isCalled_21 : decode b_Teller_isCalled 21 = .ok (.aload_n 1, 1) := by decide +kernel
theorem d_Teller_isCalled_22 : decode b_Teller_isCalled 22 = .ok (.invokevirtual 106, 3) := by decide +kernel
theorem d_Teller_isCalled_25 : decode b_Teller_isCalled 25 = .ok (.if_icmp .ge 33, 3) := by decide +kernel
theorem d_Teller_isCalled_28 : decode b_Teller_isCalled 28 = .ok (.aload_n 0, 1) := by decide +kernel
theorem d_Teller_isCalled_29 : decode b_Teller_isCalled 29 = .ok (.getfield 29, 3) := by decide +kernel
theorem d_Teller_isCalled_32 : decode b_Teller_isCalled 32 = .ok (.getfield 95, 3) := by decide +kernel
theorem d_Teller_isCalled_35 : decode b_Teller_isCalled 35 = .ok (.aload_n 0, 1) := by decide +kernel
theorem d_Teller_isCalled_36 : decode b_Teller_isCalled 36 = .ok (.getfield 57, 3) := by decide +kernel
theorem d_Teller_isCalled_39 : decode b_Teller_isCalled 39 = .ok (.iload_n 2, 1) := by decide +kernel
theorem d_Teller_isCalled_40 : decode b_Teller_isCalled 40 = .ok (.iadd, 1) := by decide +kernel
theorem d_Teller_isCalled_41 : decode b_Teller_isCalled 41 = .ok (.baload, 1) := by decide +kernel
theorem d_Teller_isCalled_42 : decode b_Teller_isCalled 42 = .ok (.aload_n 1, 1) := by decide +kernel
theorem d_Teller_isCalled_43 : decode b_Teller_isCalled 43 = .ok (.iload_n 2, 1) := by decide +kernel
theorem d_Teller_isCalled_44 : decode b_Teller_isCalled 44 = .ok (.invokevirtual 111, 3) := by decide +kernel
theorem d_Teller_isCalled_47 : decode b_Teller_isCalled 47 = .ok (.if_icmp .eq 5, 3) := by decide +kernel
theorem d_Teller_isCalled_50 : decode b_Teller_isCalled 50 = .ok (.iconst 0, 1) := by decide +kernel
theorem d_Teller_isCalled_51 : decode b_Teller_isCalled 51 = .ok (.ireturn, 1) := by decide +kernel
theorem d_Teller_isCalled_52 : decode b_Teller_isCalled 52 = .ok (.iinc 2 1, 3) := by decide +kernel
theorem d_Teller_isCalled_55 : decode b_Teller_isCalled 55 = .ok (.goto (-35), 3) := by decide +kernel
theorem d_Teller_isCalled_58 : decode b_Teller_isCalled 58 = .ok (.iconst 1, 1) := by decide +kernel
theorem d_Teller_isCalled_59 : decode b_Teller_isCalled 59 = .ok (.ireturn, 1) := by decide +kernel
def X_Teller_isCalled_L20 (n : Nat) (k : Nat) : Nat → Int32 → Mem → Option (Int32 × Mem)
    | 0, _, _ => none
    | m + 1, v2, M => bd (some (nI (stLen.getD k 0) >>> ((0 : Int32) &&& 31), M)) fun r3 M4 =>
  (if r3 ≤ v2 then
    some (1, M4)
    else
    gd ((M4.1 3 8) + v2) 320 (
      bd (X_charAt k v2 M4) fun r5 M6 =>
      (if (M4.1 2 ((M4.1 3 8) + v2).toNatClampNeg) = r5 then
        X_Teller_isCalled_L20 n k m (v2 + 1) M6
        else
        some (0, M6))))
def X_Teller_isCalled (n : Nat) (k : Nat) (M : Mem) : Option (Int32 × Mem) :=
  bd (some (nI (stLen.getD k 0) >>> ((0 : Int32) &&& 31), M)) fun r1 M2 =>
  (if ((M.1 3 6) - (M.1 3 8)) = r1 then
    X_Teller_isCalled_L20 n k n 0 M2
    else
    some (0, M2))
set_option maxRecDepth 20000 in
set_option maxHeartbeats 4000000 in
theorem X_Teller_isCalled_L20_ok {n : Nat} {k : Nat} (h_k : k < 7) : ∀ (m : Nat) (v2 : Int32) (M : Mem), J (mt_Teller_isCalled) wI 20 [(0, Value.ref 3), (1, Value.ref (210 + k)), (2, Value.int v2)] [] M (X_Teller_isCalled_L20 n k m v2 M) := by
  intro m
  induction m with
  | zero => intro _ _; exact j_none
  | succ m ih =>
    intro v2 M
    show J _ _ _ _ _ _ (bd (some (nI (stLen.getD k 0) >>> ((0 : Int32) &&& 31), M)) fun r3 M4 =>
(if r3 ≤ v2 then
some (1, M4)
else
gd ((M4.1 3 8) + v2) 320 (
bd (X_charAt k v2 M4) fun r5 M6 =>
(if (M4.1 2 ((M4.1 3 8) + v2).toNatClampNeg) = r5 then
X_Teller_isCalled_L20 n k m (v2 + 1) M6
else
some (0, M6)))))
    refine j_iload_n (pc := 20) (q := 2) d_Teller_isCalled_20 rfl rfl ?_
    refine j_aload_n (pc := 21) (q := 1) d_Teller_isCalled_21 rfl rfl ?_
    refine j_callVS0 (pc := 22) d_Teller_isCalled_22 (C_String_length k h_k M) cV_Teller_106 cd_String_length dn_String_length rfl (by decide) (Nat.le_of_ble_eq_true rfl) (Nat.le_of_ble_eq_true rfl) nr_I h_k rfl (fun r3 M4 => ?_)
    refine j_icmp_ge (pc := 25) (tgt := 58) d_Teller_isCalled_25 (by decide) (fun _ => ?_) (fun _ => ?_)
    · refine j_iconst (pc := 58) d_Teller_isCalled_58 k_i_1 ?_
      exact j_zreturn (pc := 59) d_Teller_isCalled_59 rfl rfl
    · refine j_aload_n (pc := 28) (q := 0) d_Teller_isCalled_28 rfl rfl ?_
      refine j_getA (pc := 29) d_Teller_isCalled_29 fl_Teller_29 sx_3 (by decide) rfl ?_
      refine j_getA (pc := 32) d_Teller_isCalled_32 fl_Teller_95 sx_1 (by decide) rfl ?_
      refine j_aload_n (pc := 35) (q := 0) d_Teller_isCalled_35 rfl rfl ?_
      refine j_getI (pc := 36) d_Teller_isCalled_36 fl_Teller_57 sx_3 (by decide) rfl ?_
      refine j_iload_n (pc := 39) (q := 2) d_Teller_isCalled_39 rfl rfl ?_
      refine j_iadd (pc := 40) d_Teller_isCalled_40 ?_
      refine j_bald (pc := 41) d_Teller_isCalled_41 sx_2 (fun _ => ?_)
      refine j_aload_n (pc := 42) (q := 1) d_Teller_isCalled_42 rfl rfl ?_
      refine j_iload_n (pc := 43) (q := 2) d_Teller_isCalled_43 rfl rfl ?_
      refine j_callVS1 (pc := 44) d_Teller_isCalled_44 (C_String_charAt k h_k v2 M4) cV_Teller_111 cd_String_charAt dn_String_charAt rfl (by decide) (Nat.le_of_ble_eq_true rfl) (Nat.le_of_ble_eq_true rfl) nr_I h_k rfl (fun r5 M6 => ?_)
      refine j_icmp_eq (pc := 47) (tgt := 52) d_Teller_isCalled_47 (by decide) (fun _ => ?_) (fun _ => ?_)
      · refine j_iinc (pc := 52) (q := 2) d_Teller_isCalled_52 rfl (congrArg (v2 + ·) k_i_1) (by decide) rfl ?_
        refine j_goto (pc := 55) (tgt := 20) d_Teller_isCalled_55 (by decide) ?_
        refine j_lv [1, 2, 0] rfl ?_
        exact ih (v2 + 1) M6
      · refine j_iconst (pc := 50) d_Teller_isCalled_50 k_i_0 ?_
        exact j_zreturn (pc := 51) d_Teller_isCalled_51 rfl rfl
set_option maxRecDepth 20000 in
set_option maxHeartbeats 4000000 in
theorem C_Teller_isCalled (n : Nat) (k : Nat) (h_k : k < 7)  (M : Mem) : Ct y_Teller_isCalled mt_Teller_isCalled wI [Value.ref 3, Value.ref (210 + k)] M (X_Teller_isCalled n k M) := by
  refine ct_of (by decide +kernel) rfl (Nat.le_of_ble_eq_true rfl) ?_
  show J _ _ _ [(0, Value.ref 3), (1, Value.ref (210 + k))] _ _ _
  unfold X_Teller_isCalled
  refine j_aload_n (pc := 0) (q := 0) d_Teller_isCalled_0 rfl rfl ?_
  refine j_getI (pc := 1) d_Teller_isCalled_1 fl_Teller_66 sx_3 (by decide) rfl ?_
  refine j_aload_n (pc := 4) (q := 0) d_Teller_isCalled_4 rfl rfl ?_
  refine j_getI (pc := 5) d_Teller_isCalled_5 fl_Teller_57 sx_3 (by decide) rfl ?_
  refine j_isub (pc := 8) d_Teller_isCalled_8 ?_
  refine j_aload_n (pc := 9) (q := 1) d_Teller_isCalled_9 rfl rfl ?_
  refine j_callVS0 (pc := 10) d_Teller_isCalled_10 (C_String_length k h_k M) cV_Teller_106 cd_String_length dn_String_length rfl (by decide) (Nat.le_of_ble_eq_true rfl) (Nat.le_of_ble_eq_true rfl) nr_I h_k rfl (fun r1 M2 => ?_)
  refine j_icmp_eq (pc := 13) (tgt := 18) d_Teller_isCalled_13 (by decide) (fun _ => ?_) (fun _ => ?_)
  · refine j_iconst (pc := 18) d_Teller_isCalled_18 k_i_0 ?_
    refine j_istore_n (pc := 19) d_Teller_isCalled_19 rfl (by decide) rfl ?_
    refine j_lv [1, 2, 0] rfl ?_
    exact X_Teller_isCalled_L20_ok h_k  n 0 M2
  · refine j_iconst (pc := 16) d_Teller_isCalled_16 k_i_0 ?_
    exact j_zreturn (pc := 17) d_Teller_isCalled_17 rfl rfl
-- Teller.boundedValue (II)I
def mt_Teller_boundedValue : Mt := ("ShakeHands$Teller", b_Teller_boundedValue, 3, some .int, 3, SHx)
theorem d_Teller_boundedValue_0 : decode b_Teller_boundedValue 0 = .ok (.aload_n 0, 1) := by decide +kernel
theorem d_Teller_boundedValue_1 : decode b_Teller_boundedValue 1 = .ok (.getfield 45, 3) := by decide +kernel
theorem d_Teller_boundedValue_4 : decode b_Teller_boundedValue 4 = .ok (.ifCond .ne 24, 3) := by decide +kernel
theorem d_Teller_boundedValue_7 : decode b_Teller_boundedValue 7 = .ok (.aload_n 0, 1) := by decide +kernel
theorem d_Teller_boundedValue_8 : decode b_Teller_boundedValue 8 = .ok (.getfield 103, 3) := by decide +kernel
theorem d_Teller_boundedValue_11 : decode b_Teller_boundedValue 11 = .ok (.iload_n 1, 1) := by decide +kernel
theorem d_Teller_boundedValue_12 : decode b_Teller_boundedValue 12 = .ok (.if_icmp .lt 11, 3) := by decide +kernel
theorem d_Teller_boundedValue_15 : decode b_Teller_boundedValue 15 = .ok (.aload_n 0, 1) := by decide +kernel
theorem d_Teller_boundedValue_16 : decode b_Teller_boundedValue 16 = .ok (.getfield 103, 3) := by decide +kernel
theorem d_Teller_boundedValue_19 : decode b_Teller_boundedValue 19 = .ok (.iload_n 2, 1) := by decide +kernel
theorem d_Teller_boundedValue_20 : decode b_Teller_boundedValue 20 = .ok (.if_icmp .le 8, 3) := by decide +kernel
theorem d_Teller_boundedValue_23 : decode b_Teller_boundedValue 23 = .ok (.aload_n 0, 1) := by decide +kernel
theorem d_Teller_boundedValue_24 : decode b_Teller_boundedValue 24 = .ok (.iconst 3, 1) := by decide +kernel
theorem d_Teller_boundedValue_25 : decode b_Teller_boundedValue 25 = .ok (.invokevirtual 88, 3) := by decide +kernel
theorem d_Teller_boundedValue_28 : decode b_Teller_boundedValue 28 = .ok (.aload_n 0, 1) := by decide +kernel
theorem d_Teller_boundedValue_29 : decode b_Teller_boundedValue 29 = .ok (.getfield 45, 3) := by decide +kernel
theorem d_Teller_boundedValue_32 : decode b_Teller_boundedValue 32 = .ok (.ifCond .ne 10, 3) := by decide +kernel
theorem d_Teller_boundedValue_35 : decode b_Teller_boundedValue 35 = .ok (.aload_n 0, 1) := by decide +kernel
theorem d_Teller_boundedValue_36 : decode b_Teller_boundedValue 36 = .ok (.getfield 103, 3) := by decide +kernel
theorem d_Teller_boundedValue_39 : decode b_Teller_boundedValue 39 = .ok (.goto 4, 3) := by decide +kernel
theorem d_Teller_boundedValue_42 : decode b_Teller_boundedValue 42 = .ok (.iload_n 1, 1) := by decide +kernel
theorem d_Teller_boundedValue_43 : decode b_Teller_boundedValue 43 = .ok (.ireturn, 1) := by decide +kernel
def X_Teller_boundedValue (n : Nat) (p1 : Int32) (p2 : Int32) (M : Mem) : Option (Int32 × Mem) :=
  nm (fun (M1 : Mem) => ((if (M1.1 3 3) = 0 then
        some ((M1.1 3 9), M1)
        else
        some (p1, M1)) : Option (Int32 × Mem))) fun k28 =>
  (if (M.1 3 3) = 0 then
    nm (bd (X_Teller_refuse n 3 M) fun _ M3 =>
      k28 M3 : Option (Int32 × Mem)) fun k23 =>
    (if (M.1 3 9) < p1 then
      k23
      else
      (if (M.1 3 9) ≤ p2 then
        k28 M
        else
        k23))
    else
    k28 M)
set_option maxRecDepth 20000 in
set_option maxHeartbeats 4000000 in
theorem C_Teller_boundedValue (n : Nat)   (p1 : Int32) (p2 : Int32) (M : Mem) : Ct y_Teller_boundedValue mt_Teller_boundedValue wI [Value.ref 3, Value.int p1, Value.int p2] M (X_Teller_boundedValue n p1 p2 M) := by
  refine ct_of (by decide +kernel) rfl (Nat.le_of_ble_eq_true rfl) ?_
  show J _ _ _ [(0, Value.ref 3), (1, Value.int p1), (2, Value.int p2)] _ _ _
  unfold X_Teller_boundedValue
  refine j_aload_n (pc := 0) (q := 0) d_Teller_boundedValue_0 rfl rfl ?_
  refine j_getI (pc := 1) d_Teller_boundedValue_1 fl_Teller_45 sx_3 (by decide) rfl ?_
  refine j_nmk (fun k => ∀ (M1 : Mem), J (mt_Teller_boundedValue) wI 28 [(0, Value.ref 3), (1, Value.int p1)] [] M1 (k M1)) (fun M1 => ?_) (fun k28 hk28 => ?_)
  · refine j_aload_n (pc := 28) (q := 0) d_Teller_boundedValue_28 rfl rfl ?_
    refine j_getI (pc := 29) d_Teller_boundedValue_29 fl_Teller_45 sx_3 (by decide) rfl ?_
    refine j_if_ne (pc := 32) (tgt := 42) d_Teller_boundedValue_32 (by decide) (fun _ => ?_) (fun _ => ?_)
    · refine j_iload_n (pc := 42) (q := 1) d_Teller_boundedValue_42 rfl rfl ?_
      exact j_ireturn (pc := 43) d_Teller_boundedValue_43 rfl
    · refine j_aload_n (pc := 35) (q := 0) d_Teller_boundedValue_35 rfl rfl ?_
      refine j_getI (pc := 36) d_Teller_boundedValue_36 fl_Teller_103 sx_3 (by decide) rfl ?_
      refine j_goto (pc := 39) (tgt := 43) d_Teller_boundedValue_39 (by decide) ?_
      exact j_ireturn (pc := 43) d_Teller_boundedValue_43 rfl
  · refine j_if_ne (pc := 4) (tgt := 28) d_Teller_boundedValue_4 (by decide) (fun _ => ?_) (fun _ => ?_)
    · refine j_lv [0, 1] rfl ?_
      exact hk28 M
    · refine j_aload_n (pc := 7) (q := 0) d_Teller_boundedValue_7 rfl rfl ?_
      refine j_getI (pc := 8) d_Teller_boundedValue_8 fl_Teller_103 sx_3 (by decide) rfl ?_
      refine j_iload_n (pc := 11) (q := 1) d_Teller_boundedValue_11 rfl rfl ?_
      refine j_nmk (fun k => J (mt_Teller_boundedValue) wI 23 [(0, Value.ref 3), (1, Value.int p1)] [] M k) (?_) (fun k23 hk23 => ?_)
      · refine j_aload_n (pc := 23) (q := 0) d_Teller_boundedValue_23 rfl rfl ?_
        refine j_iconst (pc := 24) d_Teller_boundedValue_24 k_i_3 ?_
        refine j_callV1 (pc := 25) d_Teller_boundedValue_25 (C_Teller_refuse n 3 M) cV_Teller_88 cd_Teller_refuse dn_Teller_refuse rfl (by decide) (Nat.le_of_ble_eq_true rfl) (Nat.le_of_ble_eq_true rfl) nr_U sx_3 (by decide) rfl (fun r2 M3 => ?_)
        exact hk28 M3
      · refine j_icmp_lt (pc := 12) (tgt := 23) d_Teller_boundedValue_12 (by decide) (fun _ => ?_) (fun _ => ?_)
        · refine j_lv [0, 1] rfl ?_
          exact hk23
        · refine j_aload_n (pc := 15) (q := 0) d_Teller_boundedValue_15 rfl rfl ?_
          refine j_getI (pc := 16) d_Teller_boundedValue_16 fl_Teller_103 sx_3 (by decide) rfl ?_
          refine j_iload_n (pc := 19) (q := 2) d_Teller_boundedValue_19 rfl rfl ?_
          refine j_icmp_le (pc := 20) (tgt := 28) d_Teller_boundedValue_20 (by decide) (fun _ => ?_) (fun _ => ?_)
          · refine j_lv [0, 1] rfl ?_
            exact hk28 M
          · refine j_lv [0, 1] rfl ?_
            exact hk23
-- Teller.takeNumber (II)I
def mt_Teller_takeNumber : Mt := ("ShakeHands$Teller", b_Teller_takeNumber, 3, some .int, 4, SHx)
theorem d_Teller_takeNumber_0 : decode b_Teller_takeNumber 0 = .ok (.aload_n 0, 1) := by decide +kernel
theorem d_Teller_takeNumber_1 : decode b_Teller_takeNumber 1 = .ok (.invokevirtual 42, 3) := by decide +kernel
theorem d_Teller_takeNumber_4 : decode b_Teller_takeNumber 4 = .ok (.aload_n 0, 1) := by decide +kernel
theorem d_Teller_takeNumber_5 : decode b_Teller_takeNumber 5 = .ok (.getfield 45, 3) := by decide +kernel
theorem d_Teller_takeNumber_8 : decode b_Teller_takeNumber 8 = .ok (.ifCond .ne 16, 3) := by decide +kernel
theorem d_Teller_takeNumber_11 : decode b_Teller_takeNumber 11 = .ok (.aload_n 0, 1) := by decide +kernel
theorem d_Teller_takeNumber_12 : decode b_Teller_takeNumber 12 = .ok (.getfield 48, 3) := by decide +kernel
theorem d_Teller_takeNumber_15 : decode b_Teller_takeNumber 15 = .ok (.iconst 2, 1) := by decide +kernel
theorem d_Teller_takeNumber_16 : decode b_Teller_takeNumber 16 = .ok (.if_icmp .eq 8, 3) := by decide +kernel
theorem d_Teller_takeNumber_19 : decode b_Teller_takeNumber 19 = .ok (.aload_n 0, 1) := by decide +kernel
theorem d_Teller_takeNumber_20 : decode b_Teller_takeNumber 20 = .ok (.iconst 2, 1) := by decide +kernel
theorem d_Teller_takeNumber_21 : decode b_Teller_takeNumber 21 = .ok (.invokevirtual 88, 3) := by decide +kernel
theorem d_Teller_takeNumber_24 : decode b_Teller_takeNumber 24 = .ok (.aload_n 0, 1) := by decide +kernel
theorem d_Teller_takeNumber_25 : decode b_Teller_takeNumber 25 = .ok (.iload_n 1, 1) := by decide +kernel
theorem d_Teller_takeNumber_26 : decode b_Teller_takeNumber 26 = .ok (.iload_n 2, 1) := by decide +kernel
theorem d_Teller_takeNumber_27 : decode b_Teller_takeNumber 27 = .ok (.invokevirtual 181, 3) := by decide +kernel
theorem d_Teller_takeNumber_30 : decode b_Teller_takeNumber 30 = .ok (.ireturn, 1) := by decide +kernel
def X_Teller_takeNumber (n : Nat) (p1 : Int32) (p2 : Int32) (M : Mem) : Option (Int32 × Mem) :=
  bd (X_Teller_readToken n M) fun _ M2 =>
  nm (fun (M3 : Mem) => (bd (X_Teller_boundedValue n p1 p2 M3) fun r4 M5 =>
      some (r4, M5) : Option (Int32 × Mem))) fun k24 =>
  (if (M2.1 3 3) = 0 then
    (if (M2.1 3 7) = 2 then
      k24 M2
      else
      bd (X_Teller_refuse n 2 M2) fun _ M7 =>
      k24 M7)
    else
    k24 M2)
set_option maxRecDepth 20000 in
set_option maxHeartbeats 4000000 in
theorem C_Teller_takeNumber (n : Nat)   (p1 : Int32) (p2 : Int32) (M : Mem) : Ct y_Teller_takeNumber mt_Teller_takeNumber wI [Value.ref 3, Value.int p1, Value.int p2] M (X_Teller_takeNumber n p1 p2 M) := by
  refine ct_of (by decide +kernel) rfl (Nat.le_of_ble_eq_true rfl) ?_
  show J _ _ _ [(0, Value.ref 3), (1, Value.int p1), (2, Value.int p2)] _ _ _
  unfold X_Teller_takeNumber
  refine j_aload_n (pc := 0) (q := 0) d_Teller_takeNumber_0 rfl rfl ?_
  refine j_callV0 (pc := 1) d_Teller_takeNumber_1 (C_Teller_readToken n M) cV_Teller_42 cd_Teller_readToken dn_Teller_readToken rfl (by decide) (Nat.le_of_ble_eq_true rfl) (Nat.le_of_ble_eq_true rfl) nr_U sx_3 (by decide) rfl (fun r1 M2 => ?_)
  refine j_aload_n (pc := 4) (q := 0) d_Teller_takeNumber_4 rfl rfl ?_
  refine j_getI (pc := 5) d_Teller_takeNumber_5 fl_Teller_45 sx_3 (by decide) rfl ?_
  refine j_nmk (fun k => ∀ (M3 : Mem), J (mt_Teller_takeNumber) wI 24 [(0, Value.ref 3), (1, Value.int p1), (2, Value.int p2)] [] M3 (k M3)) (fun M3 => ?_) (fun k24 hk24 => ?_)
  · refine j_aload_n (pc := 24) (q := 0) d_Teller_takeNumber_24 rfl rfl ?_
    refine j_iload_n (pc := 25) (q := 1) d_Teller_takeNumber_25 rfl rfl ?_
    refine j_iload_n (pc := 26) (q := 2) d_Teller_takeNumber_26 rfl rfl ?_
    refine j_callV2 (pc := 27) d_Teller_takeNumber_27 (C_Teller_boundedValue n p1 p2 M3) cV_Teller_181 cd_Teller_boundedValue dn_Teller_boundedValue rfl (by decide) (Nat.le_of_ble_eq_true rfl) (Nat.le_of_ble_eq_true rfl) nr_I sx_3 (by decide) rfl (fun r4 M5 => ?_)
    exact j_ireturn (pc := 30) d_Teller_takeNumber_30 rfl
  · refine j_if_ne (pc := 8) (tgt := 24) d_Teller_takeNumber_8 (by decide) (fun _ => ?_) (fun _ => ?_)
    · exact hk24 M2
    · refine j_aload_n (pc := 11) (q := 0) d_Teller_takeNumber_11 rfl rfl ?_
      refine j_getI (pc := 12) d_Teller_takeNumber_12 fl_Teller_48 sx_3 (by decide) rfl ?_
      refine j_iconst (pc := 15) d_Teller_takeNumber_15 k_i_2 ?_
      refine j_icmp_eq (pc := 16) (tgt := 24) d_Teller_takeNumber_16 (by decide) (fun _ => ?_) (fun _ => ?_)
      · exact hk24 M2
      · refine j_aload_n (pc := 19) (q := 0) d_Teller_takeNumber_19 rfl rfl ?_
        refine j_iconst (pc := 20) d_Teller_takeNumber_20 k_i_2 ?_
        refine j_callV1 (pc := 21) d_Teller_takeNumber_21 (C_Teller_refuse n 2 M2) cV_Teller_88 cd_Teller_refuse dn_Teller_refuse rfl (by decide) (Nat.le_of_ble_eq_true rfl) (Nat.le_of_ble_eq_true rfl) nr_U sx_3 (by decide) rfl (fun r6 M7 => ?_)
        exact hk24 M7
-- Teller.takeSign ()V
def mt_Teller_takeSign : Mt := ("ShakeHands$Teller", b_Teller_takeSign, 1, none, 4, SHx)
theorem d_Teller_takeSign_0 : decode b_Teller_takeSign 0 = .ok (.aload_n 0, 1) := by decide +kernel
theorem d_Teller_takeSign_1 : decode b_Teller_takeSign 1 = .ok (.invokevirtual 42, 3) := by decide +kernel
theorem d_Teller_takeSign_4 : decode b_Teller_takeSign 4 = .ok (.aload_n 0, 1) := by decide +kernel
theorem d_Teller_takeSign_5 : decode b_Teller_takeSign 5 = .ok (.getfield 48, 3) := by decide +kernel
theorem d_Teller_takeSign_8 : decode b_Teller_takeSign 8 = .ok (.iconst 3, 1) := by decide +kernel
theorem d_Teller_takeSign_9 : decode b_Teller_takeSign 9 = .ok (.if_icmp .eq 8, 3) := by decide +kernel
theorem d_Teller_takeSign_12 : decode b_Teller_takeSign 12 = .ok (.aload_n 0, 1) := by decide +kernel
theorem d_Teller_takeSign_13 : decode b_Teller_takeSign 13 = .ok (.iconst 2, 1) := by decide +kernel
theorem d_Teller_takeSign_14 : decode b_Teller_takeSign 14 = .ok (.invokevirtual 88, 3) := by decide +kernel
theorem d_Teller_takeSign_17 : decode b_Teller_takeSign 17 = .ok (.return_, 1) := by decide +kernel
def X_Teller_takeSign (n : Nat) (M : Mem) : Option (Unit × Mem) :=
  bd (X_Teller_readToken n M) fun _ M2 =>
  (if (M2.1 3 7) = 3 then
    some ((), M2)
    else
    bd (X_Teller_refuse n 2 M2) fun _ M4 =>
    some ((), M4))
set_option maxRecDepth 20000 in
set_option maxHeartbeats 4000000 in
theorem C_Teller_takeSign (n : Nat)    (M : Mem) : Ct y_Teller_takeSign mt_Teller_takeSign wU [Value.ref 3] M (X_Teller_takeSign n M) := by
  refine ct_of (by decide +kernel) rfl (Nat.le_of_ble_eq_true rfl) ?_
  show J _ _ _ [(0, Value.ref 3)] _ _ _
  unfold X_Teller_takeSign
  refine j_aload_n (pc := 0) (q := 0) d_Teller_takeSign_0 rfl rfl ?_
  refine j_callV0 (pc := 1) d_Teller_takeSign_1 (C_Teller_readToken n M) cV_Teller_42 cd_Teller_readToken dn_Teller_readToken rfl (by decide) (Nat.le_of_ble_eq_true rfl) (Nat.le_of_ble_eq_true rfl) nr_U sx_3 (by decide) rfl (fun r1 M2 => ?_)
  refine j_aload_n (pc := 4) (q := 0) d_Teller_takeSign_4 rfl rfl ?_
  refine j_getI (pc := 5) d_Teller_takeSign_5 fl_Teller_48 sx_3 (by decide) rfl ?_
  refine j_iconst (pc := 8) d_Teller_takeSign_8 k_i_3 ?_
  refine j_icmp_eq (pc := 9) (tgt := 17) d_Teller_takeSign_9 (by decide) (fun _ => ?_) (fun _ => ?_)
  · exact j_return (pc := 17) d_Teller_takeSign_17 rfl
  · refine j_aload_n (pc := 12) (q := 0) d_Teller_takeSign_12 rfl rfl ?_
    refine j_iconst (pc := 13) d_Teller_takeSign_13 k_i_2 ?_
    refine j_callV1 (pc := 14) d_Teller_takeSign_14 (C_Teller_refuse n 2 M2) cV_Teller_88 cd_Teller_refuse dn_Teller_refuse rfl (by decide) (Nat.le_of_ble_eq_true rfl) (Nat.le_of_ble_eq_true rfl) nr_U sx_3 (by decide) rfl (fun r3 M4 => ?_)
    exact j_return (pc := 17) d_Teller_takeSign_17 rfl
-- Teller.tellGlove ()V
def mt_Teller_tellGlove : Mt := ("ShakeHands$Teller", b_Teller_tellGlove, 2, none, 5, SHx)
theorem d_Teller_tellGlove_0 : decode b_Teller_tellGlove 0 = .ok (.aload_n 0, 1) := by decide +kernel
theorem d_Teller_tellGlove_1 : decode b_Teller_tellGlove 1 = .ok (.iconst 0, 1) := by decide +kernel
theorem d_Teller_tellGlove_2 : decode b_Teller_tellGlove 2 = .ok (.iconst 5, 1) := by decide +kernel
theorem d_Teller_tellGlove_3 : decode b_Teller_tellGlove 3 = .ok (.invokevirtual 162, 3) := by decide +kernel
theorem d_Teller_tellGlove_6 : decode b_Teller_tellGlove 6 = .ok (.istore_n 1, 1) := by decide +kernel
theorem d_Teller_tellGlove_7 : decode b_Teller_tellGlove 7 = .ok (.aload_n 0, 1) := by decide +kernel
theorem d_Teller_tellGlove_8 : decode b_Teller_tellGlove 8 = .ok (.getfield 63, 3) := by decide +kernel
theorem d_Teller_tellGlove_11 : decode b_Teller_tellGlove 11 = .ok (.iload_n 1, 1) := by decide +kernel
theorem d_Teller_tellGlove_12 : decode b_Teller_tellGlove 12 = .ok (.iushr, 1) := by decide +kernel
theorem d_Teller_tellGlove_13 : decode b_Teller_tellGlove 13 = .ok (.iconst 1, 1) := by decide +kernel
theorem d_Teller_tellGlove_14 : decode b_Teller_tellGlove 14 = .ok (.iand, 1) := by decide +kernel
theorem d_Teller_tellGlove_15 : decode b_Teller_tellGlove 15 = .ok (.ifCond .eq 8, 3) := by decide +kernel
theorem d_Teller_tellGlove_18 : decode b_Teller_tellGlove 18 = .ok (.aload_n 0, 1) := by decide +kernel
theorem d_Teller_tellGlove_19 : decode b_Teller_tellGlove 19 = .ok (.iconst 4, 1) := by decide +kernel
theorem d_Teller_tellGlove_20 : decode b_Teller_tellGlove 20 = .ok (.invokevirtual 88, 3) := by decide +kernel
theorem d_Teller_tellGlove_23 : decode b_Teller_tellGlove 23 = .ok (.aload_n 0, 1) := by decide +kernel
theorem d_Teller_tellGlove_24 : decode b_Teller_tellGlove 24 = .ok (.dup, 1) := by decide +kernel
theorem d_Teller_tellGlove_25 : decode b_Teller_tellGlove 25 = .ok (.getfield 63, 3) := by decide +kernel
theorem d_Teller_tellGlove_28 : decode b_Teller_tellGlove 28 = .ok (.iconst 1, 1) := by decide +kernel
theorem d_Teller_tellGlove_29 : decode b_Teller_tellGlove 29 = .ok (.iload_n 1, 1) := by decide +kernel
theorem d_Teller_tellGlove_30 : decode b_Teller_tellGlove 30 = .ok (.ishl, 1) := by decide +kernel
theorem d_Teller_tellGlove_31 : decode b_Teller_tellGlove 31 = .ok (.ior, 1) := by decide +kernel
theorem d_Teller_tellGlove_32 : decode b_Teller_tellGlove 32 = .ok (.putfield 63, 3) := by decide +kernel
theorem d_Teller_tellGlove_35 : decode b_Teller_tellGlove 35 = .ok (.aload_n 0, 1) := by decide +kernel
theorem d_Teller_tellGlove_36 : decode b_Teller_tellGlove 36 = .ok (.aload_n 0, 1) := by decide +kernel
theorem d_Teller_tellGlove_37 : decode b_Teller_tellGlove 37 = .ok (.getfield 79, 3) := by decide +kernel
theorem d_Teller_tellGlove_40 : decode b_Teller_tellGlove 40 = .ok (.iload_n 1, 1) := by decide +kernel
theorem d_Teller_tellGlove_41 : decode b_Teller_tellGlove 41 = .ok (.invokestatic 169, 3) := by decide +kernel
theorem d_Teller_tellGlove_44 : decode b_Teller_tellGlove 44 = .ok (.putfield 79, 3) := by decide +kernel
theorem d_Teller_tellGlove_47 : decode b_Teller_tellGlove 47 = .ok (.aload_n 0, 1) := by decide +kernel
theorem d_Teller_tellGlove_48 : decode b_Teller_tellGlove 48 = .ok (.invokevirtual 166, 3) := by decide +kernel
theorem d_Teller_tellGlove_51 : decode b_Teller_tellGlove 51 = .ok (.return_, 1) := by decide +kernel
def X_Teller_tellGlove (n : Nat) (M : Mem) : Option (Unit × Mem) :=
  bd (X_Teller_takeNumber n 0 5 M) fun r1 M2 =>
  nm (fun (M3 : Mem) => (nm (si M3 3 2 ((M3.1 3 2) ||| ((1 : Int32) <<< (r1 &&& 31)))) fun N4 =>
      nm (si N4 3 13 (if (N4.1 3 13) < r1 then r1 else (N4.1 3 13))) fun N5 =>
      bd (X_Teller_takeSign n N5) fun _ M7 =>
      some ((), M7) : Option (Unit × Mem))) fun k23 =>
  (if ((((M2.1 3 2).toUInt32 >>> (r1.toUInt32 &&& Int32.toUInt32 31)).toInt32) &&& 1) = 0 then
    k23 M2
    else
    bd (X_Teller_refuse n 4 M2) fun _ M9 =>
    k23 M9)
set_option maxRecDepth 20000 in
set_option maxHeartbeats 4000000 in
theorem C_Teller_tellGlove (n : Nat)    (M : Mem) : Ct y_Teller_tellGlove mt_Teller_tellGlove wU [Value.ref 3] M (X_Teller_tellGlove n M) := by
  refine ct_of (by decide +kernel) rfl (Nat.le_of_ble_eq_true rfl) ?_
  show J _ _ _ [(0, Value.ref 3)] _ _ _
  unfold X_Teller_tellGlove
  refine j_aload_n (pc := 0) (q := 0) d_Teller_tellGlove_0 rfl rfl ?_
  refine j_iconst (pc := 1) d_Teller_tellGlove_1 k_i_0 ?_
  refine j_iconst (pc := 2) d_Teller_tellGlove_2 k_i_5 ?_
  refine j_callV2 (pc := 3) d_Teller_tellGlove_3 (C_Teller_takeNumber n 0 5 M) cV_Teller_162 cd_Teller_takeNumber dn_Teller_takeNumber rfl (by decide) (Nat.le_of_ble_eq_true rfl) (Nat.le_of_ble_eq_true rfl) nr_I sx_3 (by decide) rfl (fun r1 M2 => ?_)
  refine j_istore_n (pc := 6) d_Teller_tellGlove_6 rfl (by decide) rfl ?_
  refine j_aload_n (pc := 7) (q := 1) d_Teller_tellGlove_7 rfl rfl ?_
  refine j_getI (pc := 8) d_Teller_tellGlove_8 fl_Teller_63 sx_3 (by decide) rfl ?_
  refine j_iload_n (pc := 11) (q := 0) d_Teller_tellGlove_11 rfl rfl ?_
  refine j_iushr (pc := 12) d_Teller_tellGlove_12 ?_
  refine j_iconst (pc := 13) d_Teller_tellGlove_13 k_i_1 ?_
  refine j_iand (pc := 14) d_Teller_tellGlove_14 ?_
  refine j_nmk (fun k => ∀ (M3 : Mem), J (mt_Teller_tellGlove) wU 23 [(0, Value.ref 3), (1, Value.int r1)] [] M3 (k M3)) (fun M3 => ?_) (fun k23 hk23 => ?_)
  · refine j_aload_n (pc := 23) (q := 0) d_Teller_tellGlove_23 rfl rfl ?_
    refine j_dup (pc := 24) d_Teller_tellGlove_24 rfl ?_
    refine j_getI (pc := 25) d_Teller_tellGlove_25 fl_Teller_63 sx_3 (by decide) rfl ?_
    refine j_iconst (pc := 28) d_Teller_tellGlove_28 k_i_1 ?_
    refine j_iload_n (pc := 29) (q := 1) d_Teller_tellGlove_29 rfl rfl ?_
    refine j_ishl (pc := 30) d_Teller_tellGlove_30 ?_
    refine j_ior (pc := 31) d_Teller_tellGlove_31 ?_
    refine j_putI (pc := 32) d_Teller_tellGlove_32 fl_Teller_63 rfl sx_3 (by decide) rfl ?_
    refine j_aload_n (pc := 35) (q := 0) d_Teller_tellGlove_35 rfl rfl ?_
    refine j_aload_n (pc := 36) (q := 0) d_Teller_tellGlove_36 rfl rfl ?_
    refine j_nmM (fun N4 => ?_)
    refine j_getI (pc := 37) d_Teller_tellGlove_37 fl_Teller_79 sx_3 (by decide) rfl ?_
    refine j_iload_n (pc := 40) (q := 1) d_Teller_tellGlove_40 rfl rfl ?_
    refine j_mmax (pc := 41) d_Teller_tellGlove_41 mw_Teller_169 ms_max mc_max (by decide) (Nat.le_of_ble_eq_true rfl) ?_
    refine j_putI (pc := 44) d_Teller_tellGlove_44 fl_Teller_79 rfl sx_3 (by decide) rfl ?_
    refine j_aload_n (pc := 47) (q := 0) d_Teller_tellGlove_47 rfl rfl ?_
    refine j_nmM (fun N5 => ?_)
    refine j_callV0 (pc := 48) d_Teller_tellGlove_48 (C_Teller_takeSign n N5) cV_Teller_166 cd_Teller_takeSign dn_Teller_takeSign rfl (by decide) (Nat.le_of_ble_eq_true rfl) (Nat.le_of_ble_eq_true rfl) nr_U sx_3 (by decide) rfl (fun r6 M7 => ?_)
    exact j_return (pc := 51) d_Teller_tellGlove_51 rfl
  · refine j_if_eq (pc := 15) (tgt := 23) d_Teller_tellGlove_15 (by decide) (fun _ => ?_) (fun _ => ?_)
    · refine j_lv [1, 0] rfl ?_
      exact hk23 M2
    · refine j_aload_n (pc := 18) (q := 1) d_Teller_tellGlove_18 rfl rfl ?_
      refine j_iconst (pc := 19) d_Teller_tellGlove_19 k_i_4 ?_
      refine j_callV1 (pc := 20) d_Teller_tellGlove_20 (C_Teller_refuse n 4 M2) cV_Teller_88 cd_Teller_refuse dn_Teller_refuse rfl (by decide) (Nat.le_of_ble_eq_true rfl) (Nat.le_of_ble_eq_true rfl) nr_U sx_3 (by decide) rfl (fun r8 M9 => ?_)
      refine j_lv [1, 0] rfl ?_
      exact hk23 M9
-- Teller.tellHold ()V
def mt_Teller_tellHold : Mt := ("ShakeHands$Teller", b_Teller_tellHold, 1, none, 5, SHx)
theorem d_Teller_tellHold_0 : decode b_Teller_tellHold 0 = .ok (.aload_n 0, 1) := by decide +kernel
theorem d_Teller_tellHold_1 : decode b_Teller_tellHold 1 = .ok (.getfield 73, 3) := by decide +kernel
theorem d_Teller_tellHold_4 : decode b_Teller_tellHold 4 = .ok (.ifCond .eq 8, 3) := by decide +kernel
theorem d_Teller_tellHold_7 : decode b_Teller_tellHold 7 = .ok (.aload_n 0, 1) := by decide +kernel
theorem d_Teller_tellHold_8 : decode b_Teller_tellHold 8 = .ok (.iconst 4, 1) := by decide +kernel
theorem d_Teller_tellHold_9 : decode b_Teller_tellHold 9 = .ok (.invokevirtual 88, 3) := by decide +kernel
theorem d_Teller_tellHold_12 : decode b_Teller_tellHold 12 = .ok (.aload_n 0, 1) := by decide +kernel
theorem d_Teller_tellHold_13 : decode b_Teller_tellHold 13 = .ok (.iconst 1, 1) := by decide +kernel
theorem d_Teller_tellHold_14 : decode b_Teller_tellHold 14 = .ok (.putfield 73, 3) := by decide +kernel
theorem d_Teller_tellHold_17 : decode b_Teller_tellHold 17 = .ok (.aload_n 0, 1) := by decide +kernel
theorem d_Teller_tellHold_18 : decode b_Teller_tellHold 18 = .ok (.getfield 12, 3) := by decide +kernel
theorem d_Teller_tellHold_21 : decode b_Teller_tellHold 21 = .ok (.aload_n 0, 1) := by decide +kernel
theorem d_Teller_tellHold_22 : decode b_Teller_tellHold 22 = .ok (.iconst 1, 1) := by decide +kernel
theorem d_Teller_tellHold_23 : decode b_Teller_tellHold 23 = .ok (.bipush 9, 2) := by decide +kernel
theorem d_Teller_tellHold_25 : decode b_Teller_tellHold 25 = .ok (.invokevirtual 162, 3) := by decide +kernel
theorem d_Teller_tellHold_28 : decode b_Teller_tellHold 28 = .ok (.putfield 92, 3) := by decide +kernel
theorem d_Teller_tellHold_31 : decode b_Teller_tellHold 31 = .ok (.aload_n 0, 1) := by decide +kernel
theorem d_Teller_tellHold_32 : decode b_Teller_tellHold 32 = .ok (.invokevirtual 166, 3) := by decide +kernel
theorem d_Teller_tellHold_35 : decode b_Teller_tellHold 35 = .ok (.return_, 1) := by decide +kernel
def X_Teller_tellHold (n : Nat) (M : Mem) : Option (Unit × Mem) :=
  nm (fun (M1 : Mem) => (nm (si M1 3 11 1) fun N2 =>
      bd (X_Teller_takeNumber n 1 9 N2) fun r3 M4 =>
      nm (si M4 4 1 r3) fun N5 =>
      bd (X_Teller_takeSign n N5) fun _ M7 =>
      some ((), M7) : Option (Unit × Mem))) fun k12 =>
  (if (M.1 3 11) = 0 then
    k12 M
    else
    bd (X_Teller_refuse n 4 M) fun _ M9 =>
    k12 M9)
set_option maxRecDepth 20000 in
set_option maxHeartbeats 4000000 in
theorem C_Teller_tellHold (n : Nat)    (M : Mem) : Ct y_Teller_tellHold mt_Teller_tellHold wU [Value.ref 3] M (X_Teller_tellHold n M) := by
  refine ct_of (by decide +kernel) rfl (Nat.le_of_ble_eq_true rfl) ?_
  show J _ _ _ [(0, Value.ref 3)] _ _ _
  unfold X_Teller_tellHold
  refine j_aload_n (pc := 0) (q := 0) d_Teller_tellHold_0 rfl rfl ?_
  refine j_getI (pc := 1) d_Teller_tellHold_1 fl_Teller_73 sx_3 (by decide) rfl ?_
  refine j_nmk (fun k => ∀ (M1 : Mem), J (mt_Teller_tellHold) wU 12 [(0, Value.ref 3)] [] M1 (k M1)) (fun M1 => ?_) (fun k12 hk12 => ?_)
  · refine j_aload_n (pc := 12) (q := 0) d_Teller_tellHold_12 rfl rfl ?_
    refine j_iconst (pc := 13) d_Teller_tellHold_13 k_i_1 ?_
    refine j_putZ (pc := 14) d_Teller_tellHold_14 fl_Teller_73 rfl rfl sx_3 (by decide) rfl ?_
    refine j_aload_n (pc := 17) (q := 0) d_Teller_tellHold_17 rfl rfl ?_
    refine j_getA (pc := 18) d_Teller_tellHold_18 fl_Teller_12 sx_3 (by decide) rfl ?_
    refine j_aload_n (pc := 21) (q := 0) d_Teller_tellHold_21 rfl rfl ?_
    refine j_iconst (pc := 22) d_Teller_tellHold_22 k_i_1 ?_
    refine j_bipush (pc := 23) d_Teller_tellHold_23 k_b_9 ?_
    refine j_nmM (fun N2 => ?_)
    refine j_callV2 (pc := 25) d_Teller_tellHold_25 (C_Teller_takeNumber n 1 9 N2) cV_Teller_162 cd_Teller_takeNumber dn_Teller_takeNumber rfl (by decide) (Nat.le_of_ble_eq_true rfl) (Nat.le_of_ble_eq_true rfl) nr_I sx_3 (by decide) rfl (fun r3 M4 => ?_)
    refine j_putI (pc := 28) d_Teller_tellHold_28 fl_Teller_92 rfl sx_4 (by decide) rfl ?_
    refine j_aload_n (pc := 31) (q := 0) d_Teller_tellHold_31 rfl rfl ?_
    refine j_nmM (fun N5 => ?_)
    refine j_callV0 (pc := 32) d_Teller_tellHold_32 (C_Teller_takeSign n N5) cV_Teller_166 cd_Teller_takeSign dn_Teller_takeSign rfl (by decide) (Nat.le_of_ble_eq_true rfl) (Nat.le_of_ble_eq_true rfl) nr_U sx_3 (by decide) rfl (fun r6 M7 => ?_)
    exact j_return (pc := 35) d_Teller_tellHold_35 rfl
  · refine j_if_eq (pc := 4) (tgt := 12) d_Teller_tellHold_4 (by decide) (fun _ => ?_) (fun _ => ?_)
    · exact hk12 M
    · refine j_aload_n (pc := 7) (q := 0) d_Teller_tellHold_7 rfl rfl ?_
      refine j_iconst (pc := 8) d_Teller_tellHold_8 k_i_4 ?_
      refine j_callV1 (pc := 9) d_Teller_tellHold_9 (C_Teller_refuse n 4 M) cV_Teller_88 cd_Teller_refuse dn_Teller_refuse rfl (by decide) (Nat.le_of_ble_eq_true rfl) (Nat.le_of_ble_eq_true rfl) nr_U sx_3 (by decide) rfl (fun r8 M9 => ?_)
      exact hk12 M9
-- Teller.tellJoin ()V
def mt_Teller_tellJoin : Mt := ("ShakeHands$Teller", b_Teller_tellJoin, 5, none, 5, SHx)
theorem d_Teller_tellJoin_0 : decode b_Teller_tellJoin 0 = .ok (.aload_n 0, 1) := by decide +kernel
theorem d_Teller_tellJoin_1 : decode b_Teller_tellJoin 1 = .ok (.getfield 12, 3) := by decide +kernel
theorem d_Teller_tellJoin_4 : decode b_Teller_tellJoin 4 = .ok (.getfield 200, 3) := by decide +kernel
theorem d_Teller_tellJoin_7 : decode b_Teller_tellJoin 7 = .ok (.iconst 4, 1) := by decide +kernel
theorem d_Teller_tellJoin_8 : decode b_Teller_tellJoin 8 = .ok (.if_icmp .lt 9, 3) := by decide +kernel
theorem d_Teller_tellJoin_11 : decode b_Teller_tellJoin 11 = .ok (.aload_n 0, 1) := by decide +kernel
theorem d_Teller_tellJoin_12 : decode b_Teller_tellJoin 12 = .ok (.iconst 5, 1) := by decide +kernel
theorem d_Teller_tellJoin_13 : decode b_Teller_tellJoin 13 = .ok (.invokevirtual 88, 3) := by decide +kernel
theorem d_Teller_tellJoin_16 : decode b_Teller_tellJoin 16 = .ok (.return_, 1) := by decide +kernel
theorem d_Teller_tellJoin_17 : decode b_Teller_tellJoin 17 = .ok (.aload_n 0, 1) := by decide +kernel
theorem d_Teller_tellJoin_18 : decode b_Teller_tellJoin 18 = .ok (.iconst 0, 1) := by decide +kernel
theorem d_Teller_tellJoin_19 : decode b_Teller_tellJoin 19 = .ok (.bipush 15, 2) := by decide +kernel
theorem d_Teller_tellJoin_21 : decode b_Teller_tellJoin 21 = .ok (.invokevirtual 162, 3) := by decide +kernel
theorem d_Teller_tellJoin_24 : decode b_Teller_tellJoin 24 = .ok (.istore_n 1, 1) := by decide +kernel
theorem d_Teller_tellJoin_25 : decode b_Teller_tellJoin 25 = .ok (.aload_n 0, 1) := by decide +kernel
theorem d_Teller_tellJoin_26 : decode b_Teller_tellJoin 26 = .ok (.iconst 0, 1) := by decide +kernel
theorem d_Teller_tellJoin_27 : decode b_Teller_tellJoin 27 = .ok (.bipush 15, 2) := by decide +kernel
theorem d_Teller_tellJoin_29 : decode b_Teller_tellJoin 29 = .ok (.invokevirtual 162, 3) := by decide +kernel
theorem d_Teller_tellJoin_32 : decode b_Teller_tellJoin 32 = .ok (.istore_n 2, 1) := by decide +kernel
theorem d_Teller_tellJoin_33 : decode b_Teller_tellJoin 33 = .ok (.iload_n 2, 1) := by decide +kernel
theorem d_Teller_tellJoin_34 : decode b_Teller_tellJoin 34 = .ok (.iload_n 1, 1) := by decide +kernel
theorem d_Teller_tellJoin_35 : decode b_Teller_tellJoin 35 = .ok (.if_icmp .ne 8, 3) := by decide +kernel
theorem d_Teller_tellJoin_38 : decode b_Teller_tellJoin 38 = .ok (.aload_n 0, 1) := by decide +kernel
theorem d_Teller_tellJoin_39 : decode b_Teller_tellJoin 39 = .ok (.iconst 4, 1) := by decide +kernel
theorem d_Teller_tellJoin_40 : decode b_Teller_tellJoin 40 = .ok (.invokevirtual 88, 3) := by decide +kernel
theorem d_Teller_tellJoin_43 : decode b_Teller_tellJoin 43 = .ok (.aload_n 0, 1) := by decide +kernel
theorem d_Teller_tellJoin_44 : decode b_Teller_tellJoin 44 = .ok (.iconst 0, 1) := by decide +kernel
theorem d_Teller_tellJoin_45 : decode b_Teller_tellJoin 45 = .ok (.bipush 15, 2) := by decide +kernel
theorem d_Teller_tellJoin_47 : decode b_Teller_tellJoin 47 = .ok (.invokevirtual 162, 3) := by decide +kernel
theorem d_Teller_tellJoin_50 : decode b_Teller_tellJoin 50 = .ok (.istore_n 3, 1) := by decide +kernel
theorem d_Teller_tellJoin_51 : decode b_Teller_tellJoin 51 = .ok (.iload_n 3, 1) := by decide +kernel
theorem d_Teller_tellJoin_52 : decode b_Teller_tellJoin 52 = .ok (.iload_n 1, 1) := by decide +kernel
theorem d_Teller_tellJoin_53 : decode b_Teller_tellJoin 53 = .ok (.if_icmp .eq 8, 3) := by decide +kernel
theorem d_Teller_tellJoin_56 : decode b_Teller_tellJoin 56 = .ok (.iload_n 3, 1) := by decide +kernel
theorem d_Teller_tellJoin_57 : decode b_Teller_tellJoin 57 = .ok (.iload_n 2, 1) := by decide +kernel
theorem d_Teller_tellJoin_58 : decode b_Teller_tellJoin 58 = .ok (.if_icmp .ne 8, 3) := by decide +kernel
theorem d_Teller_tellJoin_61 : decode b_Teller_tellJoin 61 = .ok (.aload_n 0, 1) := by decide +kernel
theorem d_Teller_tellJoin_62 : decode b_Teller_tellJoin 62 = .ok (.iconst 4, 1) := by decide +kernel
theorem d_Teller_tellJoin_63 : decode b_Teller_tellJoin 63 = .ok (.invokevirtual 88, 3) := by decide +kernel
theorem d_Teller_tellJoin_66 : decode b_Teller_tellJoin 66 = .ok (.aload_n 0, 1) := by decide +kernel
theorem d_Teller_tellJoin_67 : decode b_Teller_tellJoin 67 = .ok (.invokevirtual 166, 3) := by decide +kernel
theorem d_Teller_tellJoin_70 : decode b_Teller_tellJoin 70 = .ok (.iconst 3, 1) := by decide +kernel
theorem d_Teller_tellJoin_71 : decode b_Teller_tellJoin 71 = .ok (.aload_n 0, 1) := by decide +kernel
theorem d_Teller_tellJoin_72 : decode b_Teller_tellJoin 72 = .ok (.getfield 12, 3) := by decide +kernel
theorem d_Teller_tellJoin_75 : decode b_Teller_tellJoin 75 = .ok (.getfield 200, 3) := by decide +kernel
theorem d_Teller_tellJoin_78 : decode b_Teller_tellJoin 78 = .ok (.imul, 1) := by decide +kernel
theorem d_Teller_tellJoin_79 : decode b_Teller_tellJoin 79 = .ok (.istore 4, 2) := by decide +kernel
theorem d_Teller_tellJoin_81 : decode b_Teller_tellJoin 81 = .ok (.aload_n 0, 1) := by decide +kernel
theorem d_Teller_tellJoin_82 : decode b_Teller_tellJoin 82 = .ok (.getfield 12, 3) := by decide +kernel
theorem d_Teller_tellJoin_85 : decode b_Teller_tellJoin 85 = .ok (.getfield 203, 3) := by decide +kernel
theorem d_Teller_tellJoin_88 : decode b_Teller_tellJoin 88 = .ok (.iload 4, 2) := by decide +kernel
theorem d_Teller_tellJoin_90 : decode b_Teller_tellJoin 90 = .ok (.iload_n 1, 1) := by decide +kernel
theorem d_Teller_tellJoin_91 : decode b_Teller_tellJoin 91 = .ok (.iastore, 1) := by decide +kernel
theorem d_Teller_tellJoin_92 : decode b_Teller_tellJoin 92 = .ok (.aload_n 0, 1) := by decide +kernel
theorem d_Teller_tellJoin_93 : decode b_Teller_tellJoin 93 = .ok (.getfield 12, 3) := by decide +kernel
theorem d_Teller_tellJoin_96 : decode b_Teller_tellJoin 96 = .ok (.getfield 203, 3) := by decide +kernel
theorem d_Teller_tellJoin_99 : decode b_Teller_tellJoin 99 = .ok (.iload 4, 2) := by decide +kernel
theorem d_Teller_tellJoin_101 : decode b_Teller_tellJoin 101 = .ok (.iconst 1, 1) := by decide +kernel
theorem d_Teller_tellJoin_102 : decode b_Teller_tellJoin 102 = .ok (.iadd, 1) := by decide +kernel
theorem d_Teller_tellJoin_103 : decode b_Teller_tellJoin 103 = .ok (.iload_n 2, 1) := by decide +kernel
theorem d_Teller_tellJoin_104 : decode b_Teller_tellJoin 104 = .ok (.iastore, 1) := by decide +kernel
theorem d_Teller_tellJoin_105 : decode b_Teller_tellJoin 105 = .ok (.aload_n 0, 1) := by decide +kernel
theorem d_Teller_tellJoin_106 : decode b_Teller_tellJoin 106 = .ok (.getfield 12, 3) := by decide +kernel
theorem d_Teller_tellJoin_109 : decode b_Teller_tellJoin 109 = .ok (.getfield 203, 3) := by decide +kernel
theorem d_Teller_tellJoin_112 : decode b_Teller_tellJoin 112 = .ok (.iload 4, 2) := by decide +kernel
theorem d_Teller_tellJoin_114 : decode b_Teller_tellJoin 114 = .ok (.iconst 2, 1) := by decide +kernel
theorem d_Teller_tellJoin_115 : decode b_Teller_tellJoin 115 = .ok (.iadd, 1) := by decide +kernel
theorem d_Teller_tellJoin_116 : decode b_Teller_tellJoin 116 = .ok (.iload_n 3, 1) := by decide +kernel
theorem d_Teller_tellJoin_117 : decode b_Teller_tellJoin 117 = .ok (.iastore, 1) := by decide +kernel
theorem d_Teller_tellJoin_118 : decode b_Teller_tellJoin 118 = .ok (.aload_n 0, 1) := by decide +kernel
theorem d_Teller_tellJoin_119 : decode b_Teller_tellJoin 119 = .ok (.getfield 12, 3) := by decide +kernel
theorem d_Teller_tellJoin_122 : decode b_Teller_tellJoin 122 = .ok (.dup, 1) := by decide +kernel
theorem d_Teller_tellJoin_123 : decode b_Teller_tellJoin 123 = .ok (.getfield 200, 3) := by decide +kernel
theorem d_Teller_tellJoin_126 : decode b_Teller_tellJoin 126 = .ok (.iconst 1, 1) := by decide +kernel
theorem d_Teller_tellJoin_127 : decode b_Teller_tellJoin 127 = .ok (.iadd, 1) := by decide +kernel
theorem d_Teller_tellJoin_128 : decode b_Teller_tellJoin 128 = .ok (.putfield 200, 3) := by decide +kernel
theorem d_Teller_tellJoin_131 : decode b_Teller_tellJoin 131 = .ok (.return_, 1) := by decide +kernel
def X_Teller_tellJoin (n : Nat) (M : Mem) : Option (Unit × Mem) :=
  (if (M.1 4 3) < 4 then
    bd (X_Teller_takeNumber n 0 15 M) fun r1 M2 =>
    bd (X_Teller_takeNumber n 0 15 M2) fun r3 M4 =>
    nm (fun (M5 : Mem) => (bd (X_Teller_takeNumber n 0 15 M5) fun r6 M7 =>
        nm (fun (M8 : Mem) => (bd (X_Teller_takeSign n M8) fun _ M10 =>
            nm ((3 : Int32) * (M10.1 4 3)) fun x11 =>
            gd x11 12 (
              gd (x11 + 1) 12 (
                gd (x11 + 2) 12 (
                  nm (si (si (si M10 5 (x11.toNatClampNeg) r1) 5 ((x11 + 1).toNatClampNeg) r3) 5 ((x11 + 2).toNatClampNeg) r6) fun N12 =>
                  some ((), si N12 4 3 ((N12.1 4 3) + 1))))) : Option (Unit × Mem))) fun k66 =>
        nm (bd (X_Teller_refuse n 4 M7) fun _ M14 =>
          k66 M14 : Option (Unit × Mem)) fun k61 =>
        (if r6 = r1 then
          k61
          else
          (if r6 = r3 then
            k61
            else
            k66 M7)) : Option (Unit × Mem))) fun k43 =>
    (if r3 = r1 then
      bd (X_Teller_refuse n 4 M4) fun _ M16 =>
      k43 M16
      else
      k43 M4)
    else
    bd (X_Teller_refuse n 5 M) fun _ M18 =>
    some ((), M18))
set_option maxRecDepth 20000 in
set_option maxHeartbeats 4000000 in
theorem C_Teller_tellJoin (n : Nat)    (M : Mem) : Ct y_Teller_tellJoin mt_Teller_tellJoin wU [Value.ref 3] M (X_Teller_tellJoin n M) := by
  refine ct_of (by decide +kernel) rfl (Nat.le_of_ble_eq_true rfl) ?_
  show J _ _ _ [(0, Value.ref 3)] _ _ _
  unfold X_Teller_tellJoin
  refine j_aload_n (pc := 0) (q := 0) d_Teller_tellJoin_0 rfl rfl ?_
  refine j_getA (pc := 1) d_Teller_tellJoin_1 fl_Teller_12 sx_3 (by decide) rfl ?_
  refine j_getI (pc := 4) d_Teller_tellJoin_4 fl_Teller_200 sx_4 (by decide) rfl ?_
  refine j_iconst (pc := 7) d_Teller_tellJoin_7 k_i_4 ?_
  refine j_icmp_lt (pc := 8) (tgt := 17) d_Teller_tellJoin_8 (by decide) (fun _ => ?_) (fun _ => ?_)
  · refine j_aload_n (pc := 17) (q := 0) d_Teller_tellJoin_17 rfl rfl ?_
    refine j_iconst (pc := 18) d_Teller_tellJoin_18 k_i_0 ?_
    refine j_bipush (pc := 19) d_Teller_tellJoin_19 k_b_15 ?_
    refine j_callV2 (pc := 21) d_Teller_tellJoin_21 (C_Teller_takeNumber n 0 15 M) cV_Teller_162 cd_Teller_takeNumber dn_Teller_takeNumber rfl (by decide) (Nat.le_of_ble_eq_true rfl) (Nat.le_of_ble_eq_true rfl) nr_I sx_3 (by decide) rfl (fun r1 M2 => ?_)
    refine j_istore_n (pc := 24) d_Teller_tellJoin_24 rfl (by decide) rfl ?_
    refine j_aload_n (pc := 25) (q := 1) d_Teller_tellJoin_25 rfl rfl ?_
    refine j_iconst (pc := 26) d_Teller_tellJoin_26 k_i_0 ?_
    refine j_bipush (pc := 27) d_Teller_tellJoin_27 k_b_15 ?_
    refine j_callV2 (pc := 29) d_Teller_tellJoin_29 (C_Teller_takeNumber n 0 15 M2) cV_Teller_162 cd_Teller_takeNumber dn_Teller_takeNumber rfl (by decide) (Nat.le_of_ble_eq_true rfl) (Nat.le_of_ble_eq_true rfl) nr_I sx_3 (by decide) rfl (fun r3 M4 => ?_)
    refine j_istore_n (pc := 32) d_Teller_tellJoin_32 rfl (by decide) rfl ?_
    refine j_iload_n (pc := 33) (q := 0) d_Teller_tellJoin_33 rfl rfl ?_
    refine j_iload_n (pc := 34) (q := 1) d_Teller_tellJoin_34 rfl rfl ?_
    refine j_nmk (fun k => ∀ (M5 : Mem), J (mt_Teller_tellJoin) wU 43 [(0, Value.ref 3), (1, Value.int r1), (2, Value.int r3)] [] M5 (k M5)) (fun M5 => ?_) (fun k43 hk43 => ?_)
    · refine j_aload_n (pc := 43) (q := 0) d_Teller_tellJoin_43 rfl rfl ?_
      refine j_iconst (pc := 44) d_Teller_tellJoin_44 k_i_0 ?_
      refine j_bipush (pc := 45) d_Teller_tellJoin_45 k_b_15 ?_
      refine j_callV2 (pc := 47) d_Teller_tellJoin_47 (C_Teller_takeNumber n 0 15 M5) cV_Teller_162 cd_Teller_takeNumber dn_Teller_takeNumber rfl (by decide) (Nat.le_of_ble_eq_true rfl) (Nat.le_of_ble_eq_true rfl) nr_I sx_3 (by decide) rfl (fun r6 M7 => ?_)
      refine j_istore_n (pc := 50) d_Teller_tellJoin_50 rfl (by decide) rfl ?_
      refine j_iload_n (pc := 51) (q := 0) d_Teller_tellJoin_51 rfl rfl ?_
      refine j_iload_n (pc := 52) (q := 2) d_Teller_tellJoin_52 rfl rfl ?_
      refine j_nmk (fun k => ∀ (M8 : Mem), J (mt_Teller_tellJoin) wU 66 [(0, Value.ref 3), (1, Value.int r1), (2, Value.int r3), (3, Value.int r6)] [] M8 (k M8)) (fun M8 => ?_) (fun k66 hk66 => ?_)
      · refine j_aload_n (pc := 66) (q := 0) d_Teller_tellJoin_66 rfl rfl ?_
        refine j_callV0 (pc := 67) d_Teller_tellJoin_67 (C_Teller_takeSign n M8) cV_Teller_166 cd_Teller_takeSign dn_Teller_takeSign rfl (by decide) (Nat.le_of_ble_eq_true rfl) (Nat.le_of_ble_eq_true rfl) nr_U sx_3 (by decide) rfl (fun r9 M10 => ?_)
        refine j_iconst (pc := 70) d_Teller_tellJoin_70 k_i_3 ?_
        refine j_aload_n (pc := 71) (q := 0) d_Teller_tellJoin_71 rfl rfl ?_
        refine j_getA (pc := 72) d_Teller_tellJoin_72 fl_Teller_12 sx_3 (by decide) rfl ?_
        refine j_getI (pc := 75) d_Teller_tellJoin_75 fl_Teller_200 sx_4 (by decide) rfl ?_
        refine j_imul (pc := 78) d_Teller_tellJoin_78 ?_
        refine j_nmi (fun x11 => ?_)
        refine j_istore (pc := 79) d_Teller_tellJoin_79 (by decide) rfl ?_
        refine j_aload_n (pc := 81) (q := 1) d_Teller_tellJoin_81 rfl rfl ?_
        refine j_getA (pc := 82) d_Teller_tellJoin_82 fl_Teller_12 sx_3 (by decide) rfl ?_
        refine j_getA (pc := 85) d_Teller_tellJoin_85 fl_Teller_203 sx_4 (by decide) rfl ?_
        refine j_iload (pc := 88) (q := 0) d_Teller_tellJoin_88 rfl ?_
        refine j_iload_n (pc := 90) (q := 2) d_Teller_tellJoin_90 rfl rfl ?_
        refine j_iast (pc := 91) d_Teller_tellJoin_91 sx_5 (fun _ => ?_)
        refine j_aload_n (pc := 92) (q := 1) d_Teller_tellJoin_92 rfl rfl ?_
        refine j_getA (pc := 93) d_Teller_tellJoin_93 fl_Teller_12 sx_3 (by decide) rfl ?_
        refine j_getA (pc := 96) d_Teller_tellJoin_96 fl_Teller_203 sx_4 (by decide) rfl ?_
        refine j_iload (pc := 99) (q := 0) d_Teller_tellJoin_99 rfl ?_
        refine j_iconst (pc := 101) d_Teller_tellJoin_101 k_i_1 ?_
        refine j_iadd (pc := 102) d_Teller_tellJoin_102 ?_
        refine j_iload_n (pc := 103) (q := 3) d_Teller_tellJoin_103 rfl rfl ?_
        refine j_iast (pc := 104) d_Teller_tellJoin_104 sx_5 (fun _ => ?_)
        refine j_aload_n (pc := 105) (q := 1) d_Teller_tellJoin_105 rfl rfl ?_
        refine j_getA (pc := 106) d_Teller_tellJoin_106 fl_Teller_12 sx_3 (by decide) rfl ?_
        refine j_getA (pc := 109) d_Teller_tellJoin_109 fl_Teller_203 sx_4 (by decide) rfl ?_
        refine j_iload (pc := 112) (q := 0) d_Teller_tellJoin_112 rfl ?_
        refine j_iconst (pc := 114) d_Teller_tellJoin_114 k_i_2 ?_
        refine j_iadd (pc := 115) d_Teller_tellJoin_115 ?_
        refine j_iload_n (pc := 116) (q := 4) d_Teller_tellJoin_116 rfl rfl ?_
        refine j_iast (pc := 117) d_Teller_tellJoin_117 sx_5 (fun _ => ?_)
        refine j_aload_n (pc := 118) (q := 1) d_Teller_tellJoin_118 rfl rfl ?_
        refine j_getA (pc := 119) d_Teller_tellJoin_119 fl_Teller_12 sx_3 (by decide) rfl ?_
        refine j_dup (pc := 122) d_Teller_tellJoin_122 rfl ?_
        refine j_nmM (fun N12 => ?_)
        refine j_getI (pc := 123) d_Teller_tellJoin_123 fl_Teller_200 sx_4 (by decide) rfl ?_
        refine j_iconst (pc := 126) d_Teller_tellJoin_126 k_i_1 ?_
        refine j_iadd (pc := 127) d_Teller_tellJoin_127 ?_
        refine j_putI (pc := 128) d_Teller_tellJoin_128 fl_Teller_200 rfl sx_4 (by decide) rfl ?_
        exact j_return (pc := 131) d_Teller_tellJoin_131 rfl
      · refine j_nmk (fun k => J (mt_Teller_tellJoin) wU 61 [(0, Value.ref 3), (1, Value.int r1), (2, Value.int r3), (3, Value.int r6)] [] M7 k) (?_) (fun k61 hk61 => ?_)
        · refine j_aload_n (pc := 61) (q := 0) d_Teller_tellJoin_61 rfl rfl ?_
          refine j_iconst (pc := 62) d_Teller_tellJoin_62 k_i_4 ?_
          refine j_callV1 (pc := 63) d_Teller_tellJoin_63 (C_Teller_refuse n 4 M7) cV_Teller_88 cd_Teller_refuse dn_Teller_refuse rfl (by decide) (Nat.le_of_ble_eq_true rfl) (Nat.le_of_ble_eq_true rfl) nr_U sx_3 (by decide) rfl (fun r13 M14 => ?_)
          exact hk66 M14
        · refine j_icmp_eq (pc := 53) (tgt := 61) d_Teller_tellJoin_53 (by decide) (fun _ => ?_) (fun _ => ?_)
          · refine j_lv [1, 2, 3, 0] rfl ?_
            exact hk61
          · refine j_iload_n (pc := 56) (q := 0) d_Teller_tellJoin_56 rfl rfl ?_
            refine j_iload_n (pc := 57) (q := 3) d_Teller_tellJoin_57 rfl rfl ?_
            refine j_icmp_ne (pc := 58) (tgt := 66) d_Teller_tellJoin_58 (by decide) (fun _ => ?_) (fun _ => ?_)
            · refine j_lv [1, 2, 3, 0] rfl ?_
              exact hk66 M7
            · refine j_lv [1, 2, 3, 0] rfl ?_
              exact hk61
    · refine j_icmp_ne (pc := 35) (tgt := 43) d_Teller_tellJoin_35 (by decide) (fun _ => ?_) (fun _ => ?_)
      · refine j_lv [2, 1, 0] rfl ?_
        exact hk43 M4
      · refine j_aload_n (pc := 38) (q := 2) d_Teller_tellJoin_38 rfl rfl ?_
        refine j_iconst (pc := 39) d_Teller_tellJoin_39 k_i_4 ?_
        refine j_callV1 (pc := 40) d_Teller_tellJoin_40 (C_Teller_refuse n 4 M4) cV_Teller_88 cd_Teller_refuse dn_Teller_refuse rfl (by decide) (Nat.le_of_ble_eq_true rfl) (Nat.le_of_ble_eq_true rfl) nr_U sx_3 (by decide) rfl (fun r15 M16 => ?_)
        refine j_lv [2, 1, 0] rfl ?_
        exact hk43 M16
  · refine j_aload_n (pc := 11) (q := 0) d_Teller_tellJoin_11 rfl rfl ?_
    refine j_iconst (pc := 12) d_Teller_tellJoin_12 k_i_5 ?_
    refine j_callV1 (pc := 13) d_Teller_tellJoin_13 (C_Teller_refuse n 5 M) cV_Teller_88 cd_Teller_refuse dn_Teller_refuse rfl (by decide) (Nat.le_of_ble_eq_true rfl) (Nat.le_of_ble_eq_true rfl) nr_U sx_3 (by decide) rfl (fun r17 M18 => ?_)
    exact j_return (pc := 16) d_Teller_tellJoin_16 rfl
-- Teller.tellPair ([II)I
def mt_Teller_tellPair : Mt := ("ShakeHands$Teller", b_Teller_tellPair, 5, some .int, 5, SHx)
theorem d_Teller_tellPair_0 : decode b_Teller_tellPair 0 = .ok (.iload_n 2, 1) := by decide +kernel
theorem d_Teller_tellPair_1 : decode b_Teller_tellPair 1 = .ok (.aload_n 1, 1) := by decide +kernel
theorem d_Teller_tellPair_2 : decode b_Teller_tellPair 2 = .ok (.arraylength, 1) := by decide +kernel
theorem d_Teller_tellPair_3 : decode b_Teller_tellPair 3 = .ok (.if_icmp .lt 10, 3) := by decide +kernel
theorem d_Teller_tellPair_6 : decode b_Teller_tellPair 6 = .ok (.aload_n 0, 1) := by decide +kernel
theorem d_Teller_tellPair_7 : decode b_Teller_tellPair 7 = .ok (.iconst 5, 1) := by decide +kernel
theorem d_Teller_tellPair_8 : decode b_Teller_tellPair 8 = .ok (.invokevirtual 88, 3) := by decide +kernel
theorem d_Teller_tellPair_11 : decode b_Teller_tellPair 11 = .ok (.iload_n 2, 1) := by decide +kernel
theorem d_Teller_tellPair_12 : decode b_Teller_tellPair 12 = .ok (.ireturn, 1) := by decide +kernel
theorem d_Teller_tellPair_13 : decode b_Teller_tellPair 13 = .ok (.aload_n 0, 1) := by decide +kernel
theorem d_Teller_tellPair_14 : decode b_Teller_tellPair 14 = .ok (.iconst 0, 1) := by decide +kernel
theorem d_Teller_tellPair_15 : decode b_Teller_tellPair 15 = .ok (.iconst 5, 1) := by decide +kernel
theorem d_Teller_tellPair_16 : decode b_Teller_tellPair 16 = .ok (.invokevirtual 162, 3) := by decide +kernel
theorem d_Teller_tellPair_19 : decode b_Teller_tellPair 19 = .ok (.istore_n 3, 1) := by decide +kernel
theorem d_Teller_tellPair_20 : decode b_Teller_tellPair 20 = .ok (.aload_n 0, 1) := by decide +kernel
theorem d_Teller_tellPair_21 : decode b_Teller_tellPair 21 = .ok (.iconst 0, 1) := by decide +kernel
theorem d_Teller_tellPair_22 : decode b_Teller_tellPair 22 = .ok (.iconst 5, 1) := by decide +kernel
theorem d_Teller_tellPair_23 : decode b_Teller_tellPair 23 = .ok (.invokevirtual 162, 3) := by decide +kernel
theorem d_Teller_tellPair_26 : decode b_Teller_tellPair 26 = .ok (.istore 4, 2) := by decide +kernel
theorem d_Teller_tellPair_28 : decode b_Teller_tellPair 28 = .ok (.iload 4, 2) := by decide +kernel
theorem d_Teller_tellPair_30 : decode b_Teller_tellPair 30 = .ok (.iload_n 3, 1) := by decide +kernel
theorem d_Teller_tellPair_31 : decode b_Teller_tellPair 31 = .ok (.if_icmp .ne 8, 3) := by decide +kernel
theorem d_Teller_tellPair_34 : decode b_Teller_tellPair 34 = .ok (.aload_n 0, 1) := by decide +kernel
theorem d_Teller_tellPair_35 : decode b_Teller_tellPair 35 = .ok (.iconst 4, 1) := by decide +kernel
theorem d_Teller_tellPair_36 : decode b_Teller_tellPair 36 = .ok (.invokevirtual 88, 3) := by decide +kernel
theorem d_Teller_tellPair_39 : decode b_Teller_tellPair 39 = .ok (.aload_n 0, 1) := by decide +kernel
theorem d_Teller_tellPair_40 : decode b_Teller_tellPair 40 = .ok (.aload_n 0, 1) := by decide +kernel
theorem d_Teller_tellPair_41 : decode b_Teller_tellPair 41 = .ok (.getfield 79, 3) := by decide +kernel
theorem d_Teller_tellPair_44 : decode b_Teller_tellPair 44 = .ok (.iload_n 3, 1) := by decide +kernel
theorem d_Teller_tellPair_45 : decode b_Teller_tellPair 45 = .ok (.iload 4, 2) := by decide +kernel
theorem d_Teller_tellPair_47 : decode b_Teller_tellPair 47 = .ok (.invokestatic 169, 3) := by decide +kernel
theorem d_Teller_tellPair_50 : decode b_Teller_tellPair 50 = .ok (.invokestatic 169, 3) := by decide +kernel
theorem d_Teller_tellPair_53 : decode b_Teller_tellPair 53 = .ok (.putfield 79, 3) := by decide +kernel
theorem d_Teller_tellPair_56 : decode b_Teller_tellPair 56 = .ok (.aload_n 0, 1) := by decide +kernel
theorem d_Teller_tellPair_57 : decode b_Teller_tellPair 57 = .ok (.invokevirtual 166, 3) := by decide +kernel
theorem d_Teller_tellPair_60 : decode b_Teller_tellPair 60 = .ok (.aload_n 1, 1) := by decide +kernel
theorem d_Teller_tellPair_61 : decode b_Teller_tellPair 61 = .ok (.iload_n 2, 1) := by decide +kernel
theorem d_Teller_tellPair_62 : decode b_Teller_tellPair 62 = .ok (.aload_n 0, 1) := by decide +kernel
theorem d_Teller_tellPair_63 : decode b_Teller_tellPair 63 = .ok (.getfield 45, 3) := by decide +kernel
theorem d_Teller_tellPair_66 : decode b_Teller_tellPair 66 = .ok (.ifCond .ne 12, 3) := by decide +kernel
theorem d_Teller_tellPair_69 : decode b_Teller_tellPair 69 = .ok (.iload_n 3, 1) := by decide +kernel
theorem d_Teller_tellPair_70 : decode b_Teller_tellPair 70 = .ok (.iload 4, 2) := by decide +kernel
theorem d_Teller_tellPair_72 : decode b_Teller_tellPair 72 = .ok (.invokestatic 206, 3) := by decide +kernel
theorem d_Teller_tellPair_75 : decode b_Teller_tellPair 75 = .ok (.goto 4, 3) := by decide +kernel
theorem d_Teller_tellPair_78 : decode b_Teller_tellPair 78 = .ok (.iconst 0, 1) := by decide +kernel
theorem d_Teller_tellPair_79 : decode b_Teller_tellPair 79 = .ok (.iastore, 1) := by decide +kernel
theorem d_Teller_tellPair_80 : decode b_Teller_tellPair 80 = .ok (.iload_n 2, 1) := by decide +kernel
theorem d_Teller_tellPair_81 : decode b_Teller_tellPair 81 = .ok (.iconst 1, 1) := by decide +kernel
theorem d_Teller_tellPair_82 : decode b_Teller_tellPair 82 = .ok (.iadd, 1) := by decide +kernel
theorem d_Teller_tellPair_83 : decode b_Teller_tellPair 83 = .ok (.ireturn, 1) := by decide +kernel
def X_Teller_tellPair (n : Nat) (list ln : Nat) (p2 : Int32) (M : Mem) : Option (Int32 × Mem) :=
  (if p2 < (nI ln) then
    bd (X_Teller_takeNumber n 0 5 M) fun r1 M2 =>
    bd (X_Teller_takeNumber n 0 5 M2) fun r3 M4 =>
    nm (fun (M5 : Mem) => (nm (si M5 3 13 (if (M5.1 3 13) < (if r1 < r3 then r3 else r1) then (if r1 < r3 then r3 else r1) else (M5.1 3 13))) fun N6 =>
        bd (X_Teller_takeSign n N6) fun _ M8 =>
        nm (fun (u9 : Int32) (M10 : Mem) => (gd p2 ln (
              some ((p2 + 1), si M10 list (p2.toNatClampNeg) u9)) : Option (Int32 × Mem))) fun k79 =>
        (if (M8.1 3 3) = 0 then
          bd (X_ShakeHands_pairOf n r1 r3 M8) fun r11 M12 =>
          k79 r11 M12
          else
          k79 0 M8) : Option (Int32 × Mem))) fun k39 =>
    (if r3 = r1 then
      bd (X_Teller_refuse n 4 M4) fun _ M14 =>
      k39 M14
      else
      k39 M4)
    else
    bd (X_Teller_refuse n 5 M) fun _ M16 =>
    some (p2, M16))
set_option maxRecDepth 20000 in
set_option maxHeartbeats 4000000 in
theorem C_Teller_tellPair (n : Nat) (list ln : Nat) (h_list : SHx[list]? = some (100, [ln])) (p2 : Int32) (M : Mem) : Ct y_Teller_tellPair mt_Teller_tellPair wI [Value.ref 3, Value.ref list, Value.int p2] M (X_Teller_tellPair n list ln p2 M) := by
  refine ct_of (by decide +kernel) rfl (Nat.le_of_ble_eq_true rfl) ?_
  show J _ _ _ [(0, Value.ref 3), (1, Value.ref list), (2, Value.int p2)] _ _ _
  unfold X_Teller_tellPair
  refine j_iload_n (pc := 0) (q := 2) d_Teller_tellPair_0 rfl rfl ?_
  refine j_aload_n (pc := 1) (q := 1) d_Teller_tellPair_1 rfl rfl ?_
  refine j_alen (pc := 2) (t := 0) d_Teller_tellPair_2 h_list (by decide) ?_
  refine j_icmp_lt (pc := 3) (tgt := 13) d_Teller_tellPair_3 (by decide) (fun _ => ?_) (fun _ => ?_)
  · refine j_aload_n (pc := 13) (q := 0) d_Teller_tellPair_13 rfl rfl ?_
    refine j_iconst (pc := 14) d_Teller_tellPair_14 k_i_0 ?_
    refine j_iconst (pc := 15) d_Teller_tellPair_15 k_i_5 ?_
    refine j_callV2 (pc := 16) d_Teller_tellPair_16 (C_Teller_takeNumber n 0 5 M) cV_Teller_162 cd_Teller_takeNumber dn_Teller_takeNumber rfl (by decide) (Nat.le_of_ble_eq_true rfl) (Nat.le_of_ble_eq_true rfl) nr_I sx_3 (by decide) rfl (fun r1 M2 => ?_)
    refine j_istore_n (pc := 19) d_Teller_tellPair_19 rfl (by decide) rfl ?_
    refine j_aload_n (pc := 20) (q := 1) d_Teller_tellPair_20 rfl rfl ?_
    refine j_iconst (pc := 21) d_Teller_tellPair_21 k_i_0 ?_
    refine j_iconst (pc := 22) d_Teller_tellPair_22 k_i_5 ?_
    refine j_callV2 (pc := 23) d_Teller_tellPair_23 (C_Teller_takeNumber n 0 5 M2) cV_Teller_162 cd_Teller_takeNumber dn_Teller_takeNumber rfl (by decide) (Nat.le_of_ble_eq_true rfl) (Nat.le_of_ble_eq_true rfl) nr_I sx_3 (by decide) rfl (fun r3 M4 => ?_)
    refine j_istore (pc := 26) d_Teller_tellPair_26 (by decide) rfl ?_
    refine j_iload (pc := 28) (q := 0) d_Teller_tellPair_28 rfl ?_
    refine j_iload_n (pc := 30) (q := 1) d_Teller_tellPair_30 rfl rfl ?_
    refine j_nmk (fun k => ∀ (M5 : Mem), J (mt_Teller_tellPair) wI 39 [(0, Value.ref 3), (1, Value.ref list), (2, Value.int p2), (3, Value.int r1), (4, Value.int r3)] [] M5 (k M5)) (fun M5 => ?_) (fun k39 hk39 => ?_)
    · refine j_aload_n (pc := 39) (q := 0) d_Teller_tellPair_39 rfl rfl ?_
      refine j_aload_n (pc := 40) (q := 0) d_Teller_tellPair_40 rfl rfl ?_
      refine j_getI (pc := 41) d_Teller_tellPair_41 fl_Teller_79 sx_3 (by decide) rfl ?_
      refine j_iload_n (pc := 44) (q := 3) d_Teller_tellPair_44 rfl rfl ?_
      refine j_iload (pc := 45) (q := 4) d_Teller_tellPair_45 rfl ?_
      refine j_mmax (pc := 47) d_Teller_tellPair_47 mw_Teller_169 ms_max mc_max (by decide) (Nat.le_of_ble_eq_true rfl) ?_
      refine j_mmax (pc := 50) d_Teller_tellPair_50 mw_Teller_169 ms_max mc_max (by decide) (Nat.le_of_ble_eq_true rfl) ?_
      refine j_putI (pc := 53) d_Teller_tellPair_53 fl_Teller_79 rfl sx_3 (by decide) rfl ?_
      refine j_aload_n (pc := 56) (q := 0) d_Teller_tellPair_56 rfl rfl ?_
      refine j_nmM (fun N6 => ?_)
      refine j_callV0 (pc := 57) d_Teller_tellPair_57 (C_Teller_takeSign n N6) cV_Teller_166 cd_Teller_takeSign dn_Teller_takeSign rfl (by decide) (Nat.le_of_ble_eq_true rfl) (Nat.le_of_ble_eq_true rfl) nr_U sx_3 (by decide) rfl (fun r7 M8 => ?_)
      refine j_aload_n (pc := 60) (q := 1) d_Teller_tellPair_60 rfl rfl ?_
      refine j_iload_n (pc := 61) (q := 2) d_Teller_tellPair_61 rfl rfl ?_
      refine j_aload_n (pc := 62) (q := 0) d_Teller_tellPair_62 rfl rfl ?_
      refine j_getI (pc := 63) d_Teller_tellPair_63 fl_Teller_45 sx_3 (by decide) rfl ?_
      refine j_nmk (fun k => ∀ (u9 : Int32) (M10 : Mem), J (mt_Teller_tellPair) wI 79 [(2, Value.int p2)] [Value.int u9, Value.int p2, Value.ref list] M10 (k u9 M10)) (fun u9 M10 => ?_) (fun k79 hk79 => ?_)
      · refine j_iast (pc := 79) d_Teller_tellPair_79 h_list (fun _ => ?_)
        refine j_iload_n (pc := 80) (q := 0) d_Teller_tellPair_80 rfl rfl ?_
        refine j_iconst (pc := 81) d_Teller_tellPair_81 k_i_1 ?_
        refine j_iadd (pc := 82) d_Teller_tellPair_82 ?_
        exact j_ireturn (pc := 83) d_Teller_tellPair_83 rfl
      · refine j_if_ne (pc := 66) (tgt := 78) d_Teller_tellPair_66 (by decide) (fun _ => ?_) (fun _ => ?_)
        · refine j_iconst (pc := 78) d_Teller_tellPair_78 k_i_0 ?_
          refine j_lv [2] rfl ?_
          exact hk79 0 M8
        · refine j_iload_n (pc := 69) (q := 3) d_Teller_tellPair_69 rfl rfl ?_
          refine j_iload (pc := 70) (q := 4) d_Teller_tellPair_70 rfl ?_
          refine j_callSN2 (pc := 72) d_Teller_tellPair_72 (C_ShakeHands_pairOf n r1 r3 M8) cSN_Teller_206 cd_ShakeHands_pairOf dn_ShakeHands_pairOf rfl (by decide) (Nat.le_of_ble_eq_true rfl) (Nat.le_of_ble_eq_true rfl) nr_I (fun r11 M12 => ?_)
          refine j_goto (pc := 75) (tgt := 79) d_Teller_tellPair_75 (by decide) ?_
          refine j_lv [2] rfl ?_
          exact hk79 r11 M12
    · refine j_icmp_ne (pc := 31) (tgt := 39) d_Teller_tellPair_31 (by decide) (fun _ => ?_) (fun _ => ?_)
      · refine j_lv [2, 3, 4, 1, 0] rfl ?_
        exact hk39 M4
      · refine j_aload_n (pc := 34) (q := 2) d_Teller_tellPair_34 rfl rfl ?_
        refine j_iconst (pc := 35) d_Teller_tellPair_35 k_i_4 ?_
        refine j_callV1 (pc := 36) d_Teller_tellPair_36 (C_Teller_refuse n 4 M4) cV_Teller_88 cd_Teller_refuse dn_Teller_refuse rfl (by decide) (Nat.le_of_ble_eq_true rfl) (Nat.le_of_ble_eq_true rfl) nr_U sx_3 (by decide) rfl (fun r13 M14 => ?_)
        refine j_lv [2, 3, 4, 1, 0] rfl ?_
        exact hk39 M14
  · refine j_aload_n (pc := 6) (q := 0) d_Teller_tellPair_6 rfl rfl ?_
    refine j_iconst (pc := 7) d_Teller_tellPair_7 k_i_5 ?_
    refine j_callV1 (pc := 8) d_Teller_tellPair_8 (C_Teller_refuse n 5 M) cV_Teller_88 cd_Teller_refuse dn_Teller_refuse rfl (by decide) (Nat.le_of_ble_eq_true rfl) (Nat.le_of_ble_eq_true rfl) nr_U sx_3 (by decide) rfl (fun r15 M16 => ?_)
    refine j_iload_n (pc := 11) (q := 2) d_Teller_tellPair_11 rfl rfl ?_
    exact j_ireturn (pc := 12) d_Teller_tellPair_12 rfl
-- Teller.tellPeople ()V
def mt_Teller_tellPeople : Mt := ("ShakeHands$Teller", b_Teller_tellPeople, 1, none, 5, SHx)
theorem d_Teller_tellPeople_0 : decode b_Teller_tellPeople 0 = .ok (.aload_n 0, 1) := by decide +kernel
theorem d_Teller_tellPeople_1 : decode b_Teller_tellPeople 1 = .ok (.getfield 69, 3) := by decide +kernel
theorem d_Teller_tellPeople_4 : decode b_Teller_tellPeople 4 = .ok (.ifCond .eq 8, 3) := by decide +kernel
theorem d_Teller_tellPeople_7 : decode b_Teller_tellPeople 7 = .ok (.aload_n 0, 1) := by decide +kernel
theorem d_Teller_tellPeople_8 : decode b_Teller_tellPeople 8 = .ok (.iconst 4, 1) := by decide +kernel
theorem d_Teller_tellPeople_9 : decode b_Teller_tellPeople 9 = .ok (.invokevirtual 88, 3) := by decide +kernel
theorem d_Teller_tellPeople_12 : decode b_Teller_tellPeople 12 = .ok (.aload_n 0, 1) := by decide +kernel
theorem d_Teller_tellPeople_13 : decode b_Teller_tellPeople 13 = .ok (.iconst 1, 1) := by decide +kernel
theorem d_Teller_tellPeople_14 : decode b_Teller_tellPeople 14 = .ok (.putfield 69, 3) := by decide +kernel
theorem d_Teller_tellPeople_17 : decode b_Teller_tellPeople 17 = .ok (.aload_n 0, 1) := by decide +kernel
theorem d_Teller_tellPeople_18 : decode b_Teller_tellPeople 18 = .ok (.getfield 12, 3) := by decide +kernel
theorem d_Teller_tellPeople_21 : decode b_Teller_tellPeople 21 = .ok (.aload_n 0, 1) := by decide +kernel
theorem d_Teller_tellPeople_22 : decode b_Teller_tellPeople 22 = .ok (.iconst 2, 1) := by decide +kernel
theorem d_Teller_tellPeople_23 : decode b_Teller_tellPeople 23 = .ok (.bipush 6, 2) := by decide +kernel
theorem d_Teller_tellPeople_25 : decode b_Teller_tellPeople 25 = .ok (.invokevirtual 162, 3) := by decide +kernel
theorem d_Teller_tellPeople_28 : decode b_Teller_tellPeople 28 = .ok (.putfield 85, 3) := by decide +kernel
theorem d_Teller_tellPeople_31 : decode b_Teller_tellPeople 31 = .ok (.aload_n 0, 1) := by decide +kernel
theorem d_Teller_tellPeople_32 : decode b_Teller_tellPeople 32 = .ok (.invokevirtual 166, 3) := by decide +kernel
theorem d_Teller_tellPeople_35 : decode b_Teller_tellPeople 35 = .ok (.return_, 1) := by decide +kernel
def X_Teller_tellPeople (n : Nat) (M : Mem) : Option (Unit × Mem) :=
  nm (fun (M1 : Mem) => (nm (si M1 3 10 1) fun N2 =>
      bd (X_Teller_takeNumber n 2 6 N2) fun r3 M4 =>
      nm (si M4 4 0 r3) fun N5 =>
      bd (X_Teller_takeSign n N5) fun _ M7 =>
      some ((), M7) : Option (Unit × Mem))) fun k12 =>
  (if (M.1 3 10) = 0 then
    k12 M
    else
    bd (X_Teller_refuse n 4 M) fun _ M9 =>
    k12 M9)
set_option maxRecDepth 20000 in
set_option maxHeartbeats 4000000 in
theorem C_Teller_tellPeople (n : Nat)    (M : Mem) : Ct y_Teller_tellPeople mt_Teller_tellPeople wU [Value.ref 3] M (X_Teller_tellPeople n M) := by
  refine ct_of (by decide +kernel) rfl (Nat.le_of_ble_eq_true rfl) ?_
  show J _ _ _ [(0, Value.ref 3)] _ _ _
  unfold X_Teller_tellPeople
  refine j_aload_n (pc := 0) (q := 0) d_Teller_tellPeople_0 rfl rfl ?_
  refine j_getI (pc := 1) d_Teller_tellPeople_1 fl_Teller_69 sx_3 (by decide) rfl ?_
  refine j_nmk (fun k => ∀ (M1 : Mem), J (mt_Teller_tellPeople) wU 12 [(0, Value.ref 3)] [] M1 (k M1)) (fun M1 => ?_) (fun k12 hk12 => ?_)
  · refine j_aload_n (pc := 12) (q := 0) d_Teller_tellPeople_12 rfl rfl ?_
    refine j_iconst (pc := 13) d_Teller_tellPeople_13 k_i_1 ?_
    refine j_putZ (pc := 14) d_Teller_tellPeople_14 fl_Teller_69 rfl rfl sx_3 (by decide) rfl ?_
    refine j_aload_n (pc := 17) (q := 0) d_Teller_tellPeople_17 rfl rfl ?_
    refine j_getA (pc := 18) d_Teller_tellPeople_18 fl_Teller_12 sx_3 (by decide) rfl ?_
    refine j_aload_n (pc := 21) (q := 0) d_Teller_tellPeople_21 rfl rfl ?_
    refine j_iconst (pc := 22) d_Teller_tellPeople_22 k_i_2 ?_
    refine j_bipush (pc := 23) d_Teller_tellPeople_23 k_b_6 ?_
    refine j_nmM (fun N2 => ?_)
    refine j_callV2 (pc := 25) d_Teller_tellPeople_25 (C_Teller_takeNumber n 2 6 N2) cV_Teller_162 cd_Teller_takeNumber dn_Teller_takeNumber rfl (by decide) (Nat.le_of_ble_eq_true rfl) (Nat.le_of_ble_eq_true rfl) nr_I sx_3 (by decide) rfl (fun r3 M4 => ?_)
    refine j_putI (pc := 28) d_Teller_tellPeople_28 fl_Teller_85 rfl sx_4 (by decide) rfl ?_
    refine j_aload_n (pc := 31) (q := 0) d_Teller_tellPeople_31 rfl rfl ?_
    refine j_nmM (fun N5 => ?_)
    refine j_callV0 (pc := 32) d_Teller_tellPeople_32 (C_Teller_takeSign n N5) cV_Teller_166 cd_Teller_takeSign dn_Teller_takeSign rfl (by decide) (Nat.le_of_ble_eq_true rfl) (Nat.le_of_ble_eq_true rfl) nr_U sx_3 (by decide) rfl (fun r6 M7 => ?_)
    exact j_return (pc := 35) d_Teller_tellPeople_35 rfl
  · refine j_if_eq (pc := 4) (tgt := 12) d_Teller_tellPeople_4 (by decide) (fun _ => ?_) (fun _ => ?_)
    · exact hk12 M
    · refine j_aload_n (pc := 7) (q := 0) d_Teller_tellPeople_7 rfl rfl ?_
      refine j_iconst (pc := 8) d_Teller_tellPeople_8 k_i_4 ?_
      refine j_callV1 (pc := 9) d_Teller_tellPeople_9 (C_Teller_refuse n 4 M) cV_Teller_88 cd_Teller_refuse dn_Teller_refuse rfl (by decide) (Nat.le_of_ble_eq_true rfl) (Nat.le_of_ble_eq_true rfl) nr_U sx_3 (by decide) rfl (fun r8 M9 => ?_)
      exact hk12 M9
-- Teller.tellThing (I)V
def mt_Teller_tellThing : Mt := ("ShakeHands$Teller", b_Teller_tellThing, 2, none, 4, SHx)
theorem d_Teller_tellThing_0 : decode b_Teller_tellThing 0 = .ok (.aload_n 0, 1) := by decide +kernel
theorem d_Teller_tellThing_1 : decode b_Teller_tellThing 1 = .ok (.getfield 25, 3) := by decide +kernel
theorem d_Teller_tellThing_4 : decode b_Teller_tellThing 4 = .ok (.getfield 184, 3) := by decide +kernel
theorem d_Teller_tellThing_7 : decode b_Teller_tellThing 7 = .ok (.iload_n 1, 1) := by decide +kernel
theorem d_Teller_tellThing_8 : decode b_Teller_tellThing 8 = .ok (.iushr, 1) := by decide +kernel
theorem d_Teller_tellThing_9 : decode b_Teller_tellThing 9 = .ok (.iconst 1, 1) := by decide +kernel
theorem d_Teller_tellThing_10 : decode b_Teller_tellThing 10 = .ok (.iand, 1) := by decide +kernel
theorem d_Teller_tellThing_11 : decode b_Teller_tellThing 11 = .ok (.ifCond .eq 11, 3) := by decide +kernel
theorem d_Teller_tellThing_14 : decode b_Teller_tellThing 14 = .ok (.aload_n 0, 1) := by decide +kernel
theorem d_Teller_tellThing_15 : decode b_Teller_tellThing 15 = .ok (.iconst 4, 1) := by decide +kernel
theorem d_Teller_tellThing_16 : decode b_Teller_tellThing 16 = .ok (.invokevirtual 88, 3) := by decide +kernel
theorem d_Teller_tellThing_19 : decode b_Teller_tellThing 19 = .ok (.goto 34, 3) := by decide +kernel
theorem d_Teller_tellThing_22 : decode b_Teller_tellThing 22 = .ok (.aload_n 0, 1) := by decide +kernel
theorem d_Teller_tellThing_23 : decode b_Teller_tellThing 23 = .ok (.getfield 25, 3) := by decide +kernel
theorem d_Teller_tellThing_26 : decode b_Teller_tellThing 26 = .ok (.getfield 184, 3) := by decide +kernel
theorem d_Teller_tellThing_29 : decode b_Teller_tellThing 29 = .ok (.invokestatic 187, 3) := by decide +kernel
theorem d_Teller_tellThing_32 : decode b_Teller_tellThing 32 = .ok (.bipush 9, 2) := by decide +kernel
theorem d_Teller_tellThing_34 : decode b_Teller_tellThing 34 = .ok (.if_icmp .lt 11, 3) := by decide +kernel
theorem d_Teller_tellThing_37 : decode b_Teller_tellThing 37 = .ok (.aload_n 0, 1) := by decide +kernel
theorem d_Teller_tellThing_38 : decode b_Teller_tellThing 38 = .ok (.iconst 5, 1) := by decide +kernel
theorem d_Teller_tellThing_39 : decode b_Teller_tellThing 39 = .ok (.invokevirtual 88, 3) := by decide +kernel
theorem d_Teller_tellThing_42 : decode b_Teller_tellThing 42 = .ok (.goto 11, 3) := by decide +kernel
theorem d_Teller_tellThing_45 : decode b_Teller_tellThing 45 = .ok (.aload_n 0, 1) := by decide +kernel
theorem d_Teller_tellThing_46 : decode b_Teller_tellThing 46 = .ok (.getfield 25, 3) := by decide +kernel
theorem d_Teller_tellThing_49 : decode b_Teller_tellThing 49 = .ok (.iload_n 1, 1) := by decide +kernel
theorem d_Teller_tellThing_50 : decode b_Teller_tellThing 50 = .ok (.invokevirtual 197, 3) := by decide +kernel
theorem d_Teller_tellThing_53 : decode b_Teller_tellThing 53 = .ok (.return_, 1) := by decide +kernel
def X_Teller_tellThing (n : Nat) (p1 : Int32) (M : Mem) : Option (Unit × Mem) :=
  (if ((((M.1 10 1).toUInt32 >>> (p1.toUInt32 &&& Int32.toUInt32 31)).toInt32) &&& 1) = 0 then
    bd (X_Integer_bitCount n (M.1 10 1) M) fun r1 M2 =>
    (if r1 < 9 then
      bd (X_Row_add n 10 p1 M2) fun _ M4 =>
      some ((), M4)
      else
      bd (X_Teller_refuse n 5 M2) fun _ M6 =>
      some ((), M6))
    else
    bd (X_Teller_refuse n 4 M) fun _ M8 =>
    some ((), M8))
set_option maxRecDepth 20000 in
set_option maxHeartbeats 4000000 in
theorem C_Teller_tellThing (n : Nat)   (p1 : Int32) (M : Mem) : Ct y_Teller_tellThing mt_Teller_tellThing wU [Value.ref 3, Value.int p1] M (X_Teller_tellThing n p1 M) := by
  refine ct_of (by decide +kernel) rfl (Nat.le_of_ble_eq_true rfl) ?_
  show J _ _ _ [(0, Value.ref 3), (1, Value.int p1)] _ _ _
  unfold X_Teller_tellThing
  refine j_aload_n (pc := 0) (q := 0) d_Teller_tellThing_0 rfl rfl ?_
  refine j_getA (pc := 1) d_Teller_tellThing_1 fl_Teller_25 sx_3 (by decide) rfl ?_
  refine j_getI (pc := 4) d_Teller_tellThing_4 fl_Teller_184 sx_10 (by decide) rfl ?_
  refine j_iload_n (pc := 7) (q := 1) d_Teller_tellThing_7 rfl rfl ?_
  refine j_iushr (pc := 8) d_Teller_tellThing_8 ?_
  refine j_iconst (pc := 9) d_Teller_tellThing_9 k_i_1 ?_
  refine j_iand (pc := 10) d_Teller_tellThing_10 ?_
  refine j_if_eq (pc := 11) (tgt := 22) d_Teller_tellThing_11 (by decide) (fun _ => ?_) (fun _ => ?_)
  · refine j_aload_n (pc := 22) (q := 0) d_Teller_tellThing_22 rfl rfl ?_
    refine j_getA (pc := 23) d_Teller_tellThing_23 fl_Teller_25 sx_3 (by decide) rfl ?_
    refine j_getI (pc := 26) d_Teller_tellThing_26 fl_Teller_184 sx_10 (by decide) rfl ?_
    refine j_callS1 (pc := 29) d_Teller_tellThing_29 (C_Integer_bitCount n (M.1 10 1) M) cS_Teller_187 cd_Integer_bitCount dn_Integer_bitCount rfl (by decide) (Nat.le_of_ble_eq_true rfl) (Nat.le_of_ble_eq_true rfl) nr_I (fun r1 M2 => ?_)
    refine j_bipush (pc := 32) d_Teller_tellThing_32 k_b_9 ?_
    refine j_icmp_lt (pc := 34) (tgt := 45) d_Teller_tellThing_34 (by decide) (fun _ => ?_) (fun _ => ?_)
    · refine j_aload_n (pc := 45) (q := 0) d_Teller_tellThing_45 rfl rfl ?_
      refine j_getA (pc := 46) d_Teller_tellThing_46 fl_Teller_25 sx_3 (by decide) rfl ?_
      refine j_iload_n (pc := 49) (q := 1) d_Teller_tellThing_49 rfl rfl ?_
      refine j_callV1 (pc := 50) d_Teller_tellThing_50 (C_Row_add n 10 sx_10 p1 M2) cV_Teller_197 cd_Row_add dn_Row_add rfl (by decide) (Nat.le_of_ble_eq_true rfl) (Nat.le_of_ble_eq_true rfl) nr_U sx_10 (by decide) rfl (fun r3 M4 => ?_)
      exact j_return (pc := 53) d_Teller_tellThing_53 rfl
    · refine j_aload_n (pc := 37) (q := 0) d_Teller_tellThing_37 rfl rfl ?_
      refine j_iconst (pc := 38) d_Teller_tellThing_38 k_i_5 ?_
      refine j_callV1 (pc := 39) d_Teller_tellThing_39 (C_Teller_refuse n 5 M2) cV_Teller_88 cd_Teller_refuse dn_Teller_refuse rfl (by decide) (Nat.le_of_ble_eq_true rfl) (Nat.le_of_ble_eq_true rfl) nr_U sx_3 (by decide) rfl (fun r5 M6 => ?_)
      refine j_goto (pc := 42) (tgt := 53) d_Teller_tellThing_42 (by decide) ?_
      exact j_return (pc := 53) d_Teller_tellThing_53 rfl
  · refine j_aload_n (pc := 14) (q := 0) d_Teller_tellThing_14 rfl rfl ?_
    refine j_iconst (pc := 15) d_Teller_tellThing_15 k_i_4 ?_
    refine j_callV1 (pc := 16) d_Teller_tellThing_16 (C_Teller_refuse n 4 M) cV_Teller_88 cd_Teller_refuse dn_Teller_refuse rfl (by decide) (Nat.le_of_ble_eq_true rfl) (Nat.le_of_ble_eq_true rfl) nr_U sx_3 (by decide) rfl (fun r7 M8 => ?_)
    refine j_goto (pc := 19) (tgt := 53) d_Teller_tellThing_19 (by decide) ?_
    exact j_return (pc := 53) d_Teller_tellThing_53 rfl
-- Teller.tellRow ()V
def mt_Teller_tellRow : Mt := ("ShakeHands$Teller", b_Teller_tellRow, 3, none, 5, SHx)
theorem d_Teller_tellRow_0 : decode b_Teller_tellRow 0 = .ok (.aload_n 0, 1) := by decide +kernel
theorem d_Teller_tellRow_1 : decode b_Teller_tellRow 1 = .ok (.iconst 0, 1) := by decide +kernel
theorem d_Teller_tellRow_2 : decode b_Teller_tellRow 2 = .ok (.iconst 5, 1) := by decide +kernel
theorem d_Teller_tellRow_3 : decode b_Teller_tellRow 3 = .ok (.invokevirtual 162, 3) := by decide +kernel
theorem d_Teller_tellRow_6 : decode b_Teller_tellRow 6 = .ok (.istore_n 1, 1) := by decide +kernel
theorem d_Teller_tellRow_7 : decode b_Teller_tellRow 7 = .ok (.aload_n 0, 1) := by decide +kernel
theorem d_Teller_tellRow_8 : decode b_Teller_tellRow 8 = .ok (.getfield 76, 3) := by decide +kernel
theorem d_Teller_tellRow_11 : decode b_Teller_tellRow 11 = .ok (.iload_n 1, 1) := by decide +kernel
theorem d_Teller_tellRow_12 : decode b_Teller_tellRow 12 = .ok (.iushr, 1) := by decide +kernel
theorem d_Teller_tellRow_13 : decode b_Teller_tellRow 13 = .ok (.iconst 1, 1) := by decide +kernel
theorem d_Teller_tellRow_14 : decode b_Teller_tellRow 14 = .ok (.iand, 1) := by decide +kernel
theorem d_Teller_tellRow_15 : decode b_Teller_tellRow 15 = .ok (.ifCond .eq 8, 3) := by decide +kernel
theorem d_Teller_tellRow_18 : decode b_Teller_tellRow 18 = .ok (.aload_n 0, 1) := by decide +kernel
theorem d_Teller_tellRow_19 : decode b_Teller_tellRow 19 = .ok (.iconst 4, 1) := by decide +kernel
theorem d_Teller_tellRow_20 : decode b_Teller_tellRow 20 = .ok (.invokevirtual 88, 3) := by decide +kernel
theorem d_Teller_tellRow_23 : decode b_Teller_tellRow 23 = .ok (.aload_n 0, 1) := by decide +kernel
theorem d_Teller_tellRow_24 : decode b_Teller_tellRow 24 = .ok (.dup, 1) := by decide +kernel
theorem d_Teller_tellRow_25 : decode b_Teller_tellRow 25 = .ok (.getfield 76, 3) := by decide +kernel
theorem d_Teller_tellRow_28 : decode b_Teller_tellRow 28 = .ok (.iconst 1, 1) := by decide +kernel
theorem d_Teller_tellRow_29 : decode b_Teller_tellRow 29 = .ok (.iload_n 1, 1) := by decide +kernel
theorem d_Teller_tellRow_30 : decode b_Teller_tellRow 30 = .ok (.ishl, 1) := by decide +kernel
theorem d_Teller_tellRow_31 : decode b_Teller_tellRow 31 = .ok (.ior, 1) := by decide +kernel
theorem d_Teller_tellRow_32 : decode b_Teller_tellRow 32 = .ok (.putfield 76, 3) := by decide +kernel
theorem d_Teller_tellRow_35 : decode b_Teller_tellRow 35 = .ok (.aload_n 0, 1) := by decide +kernel
theorem d_Teller_tellRow_36 : decode b_Teller_tellRow 36 = .ok (.aload_n 0, 1) := by decide +kernel
theorem d_Teller_tellRow_37 : decode b_Teller_tellRow 37 = .ok (.getfield 79, 3) := by decide +kernel
theorem d_Teller_tellRow_40 : decode b_Teller_tellRow 40 = .ok (.iload_n 1, 1) := by decide +kernel
theorem d_Teller_tellRow_41 : decode b_Teller_tellRow 41 = .ok (.invokestatic 169, 3) := by decide +kernel
theorem d_Teller_tellRow_44 : decode b_Teller_tellRow 44 = .ok (.putfield 79, 3) := by decide +kernel
theorem d_Teller_tellRow_47 : decode b_Teller_tellRow 47 = .ok (.aload_n 0, 1) := by decide +kernel
theorem d_Teller_tellRow_48 : decode b_Teller_tellRow 48 = .ok (.getfield 25, 3) := by decide +kernel
theorem d_Teller_tellRow_51 : decode b_Teller_tellRow 51 = .ok (.lconst 0, 1) := by decide +kernel
theorem d_Teller_tellRow_52 : decode b_Teller_tellRow 52 = .ok (.invokevirtual 174, 3) := by decide +kernel
theorem d_Teller_tellRow_55 : decode b_Teller_tellRow 55 = .ok (.aload_n 0, 1) := by decide +kernel
theorem d_Teller_tellRow_56 : decode b_Teller_tellRow 56 = .ok (.aload_n 0, 1) := by decide +kernel
theorem d_Teller_tellRow_57 : decode b_Teller_tellRow 57 = .ok (.iconst 0, 1) := by decide +kernel
theorem d_Teller_tellRow_58 : decode b_Teller_tellRow 58 = .ok (.bipush 15, 2) := by decide +kernel
theorem d_Teller_tellRow_60 : decode b_Teller_tellRow 60 = .ok (.invokevirtual 162, 3) := by decide +kernel
theorem d_Teller_tellRow_63 : decode b_Teller_tellRow 63 = .ok (.invokevirtual 178, 3) := by decide +kernel
theorem d_Teller_tellRow_66 : decode b_Teller_tellRow 66 = .ok (.aload_n 0, 1) := by decide +kernel
theorem d_Teller_tellRow_67 : decode b_Teller_tellRow 67 = .ok (.invokevirtual 42, 3) := by decide +kernel
theorem d_Teller_tellRow_70 : decode b_Teller_tellRow 70 = .ok (.iconst 1, 1) := by decide +kernel
theorem d_Teller_tellRow_71 : decode b_Teller_tellRow 71 = .ok (.istore_n 2, 1) := by decide +kernel
theorem d_Teller_tellRow_72 : decode b_Teller_tellRow 72 = .ok (.iload_n 2, 1) := by decide +kernel
theorem d_Teller_tellRow_73 : decode b_Teller_tellRow 73 = .ok (.bipush 9, 2) := by decide +kernel
theorem d_Teller_tellRow_75 : decode b_Teller_tellRow 75 = .ok (.if_icmp .gt 39, 3) := by decide +kernel
theorem d_Teller_tellRow_78 : decode b_Teller_tellRow 78 = .ok (.aload_n 0, 1) := by decide +kernel
theorem d_Teller_tellRow_79 : decode b_Teller_tellRow 79 = .ok (.getfield 45, 3) := by decide +kernel
theorem d_Teller_tellRow_82 : decode b_Teller_tellRow 82 = .ok (.ifCond .ne 32, 3) := by decide +kernel
theorem d_Teller_tellRow_85 : decode b_Teller_tellRow 85 = .ok (.aload_n 0, 1) := by decide +kernel
theorem d_Teller_tellRow_86 : decode b_Teller_tellRow 86 = .ok (.getfield 48, 3) := by decide +kernel
theorem d_Teller_tellRow_89 : decode b_Teller_tellRow 89 = .ok (.iconst 2, 1) := by decide +kernel
theorem d_Teller_tellRow_90 : decode b_Teller_tellRow 90 = .ok (.if_icmp .ne 24, 3) := by decide +kernel
theorem d_Teller_tellRow_93 : decode b_Teller_tellRow 93 = .ok (.aload_n 0, 1) := by decide +kernel
theorem d_Teller_tellRow_94 : decode b_Teller_tellRow 94 = .ok (.aload_n 0, 1) := by decide +kernel
theorem d_Teller_tellRow_95 : decode b_Teller_tellRow 95 = .ok (.iconst 0, 1) := by decide +kernel
theorem d_Teller_tellRow_96 : decode b_Teller_tellRow 96 = .ok (.bipush 15, 2) := by decide +kernel
theorem d_Teller_tellRow_98 : decode b_Teller_tellRow 98 = .ok (.invokevirtual 181, 3) := by decide +kernel
theorem d_Teller_tellRow_101 : decode b_Teller_tellRow 101 = .ok (.invokevirtual 178, 3) := by decide +kernel
theorem d_Teller_tellRow_104 : decode b_Teller_tellRow 104 = .ok (.aload_n 0, 1) := by decide +kernel
theorem d_Teller_tellRow_105 : decode b_Teller_tellRow 105 = .ok (.invokevirtual 42, 3) := by decide +kernel
theorem d_Teller_tellRow_108 : decode b_Teller_tellRow 108 = .ok (.iinc 2 1, 3) := by decide +kernel
theorem d_Teller_tellRow_111 : decode b_Teller_tellRow 111 = .ok (.goto (-39), 3) := by decide +kernel
theorem d_Teller_tellRow_114 : decode b_Teller_tellRow 114 = .ok (.aload_n 0, 1) := by decide +kernel
theorem d_Teller_tellRow_115 : decode b_Teller_tellRow 115 = .ok (.getfield 48, 3) := by decide +kernel
theorem d_Teller_tellRow_118 : decode b_Teller_tellRow 118 = .ok (.iconst 3, 1) := by decide +kernel
theorem d_Teller_tellRow_119 : decode b_Teller_tellRow 119 = .ok (.if_icmp .eq 8, 3) := by decide +kernel
theorem d_Teller_tellRow_122 : decode b_Teller_tellRow 122 = .ok (.aload_n 0, 1) := by decide +kernel
theorem d_Teller_tellRow_123 : decode b_Teller_tellRow 123 = .ok (.iconst 2, 1) := by decide +kernel
theorem d_Teller_tellRow_124 : decode b_Teller_tellRow 124 = .ok (.invokevirtual 88, 3) := by decide +kernel
theorem d_Teller_tellRow_127 : decode b_Teller_tellRow 127 = .ok (.aload_n 0, 1) := by decide +kernel
theorem d_Teller_tellRow_128 : decode b_Teller_tellRow 128 = .ok (.aload_n 0, 1) := by decide +kernel
theorem d_Teller_tellRow_129 : decode b_Teller_tellRow 129 = .ok (.getfield 82, 3) := by decide +kernel
theorem d_Teller_tellRow_132 : decode b_Teller_tellRow 132 = .ok (.aload_n 0, 1) := by decide +kernel
theorem d_Teller_tellRow_133 : decode b_Teller_tellRow 133 = .ok (.getfield 25, 3) := by decide +kernel
theorem d_Teller_tellRow_136 : decode b_Teller_tellRow 136 = .ok (.getfield 184, 3) := by decide +kernel
theorem d_Teller_tellRow_139 : decode b_Teller_tellRow 139 = .ok (.invokestatic 187, 3) := by decide +kernel
theorem d_Teller_tellRow_142 : decode b_Teller_tellRow 142 = .ok (.invokestatic 169, 3) := by decide +kernel
theorem d_Teller_tellRow_145 : decode b_Teller_tellRow 145 = .ok (.putfield 82, 3) := by decide +kernel
theorem d_Teller_tellRow_148 : decode b_Teller_tellRow 148 = .ok (.aload_n 0, 1) := by decide +kernel
theorem d_Teller_tellRow_149 : decode b_Teller_tellRow 149 = .ok (.getfield 18, 3) := by decide +kernel
theorem d_Teller_tellRow_152 : decode b_Teller_tellRow 152 = .ok (.iload_n 1, 1) := by decide +kernel
theorem d_Teller_tellRow_153 : decode b_Teller_tellRow 153 = .ok (.aload_n 0, 1) := by decide +kernel
theorem d_Teller_tellRow_154 : decode b_Teller_tellRow 154 = .ok (.getfield 25, 3) := by decide +kernel
theorem d_Teller_tellRow_157 : decode b_Teller_tellRow 157 = .ok (.invokevirtual 193, 3) := by decide +kernel
theorem d_Teller_tellRow_160 : decode b_Teller_tellRow 160 = .ok (.lastore, 1) := by decide +kernel
theorem d_Teller_tellRow_161 : decode b_Teller_tellRow 161 = .ok (.return_, 1) := by decide +kernel
def X_Teller_tellRow_L72 (n : Nat) (a1 : Int32) (kx114 : Mem → Option (Unit × Mem)) : Nat → Int32 → Mem → Option (Unit × Mem)
    | 0, _, _ => none
    | m + 1, v2, M => (if 9 < v2 then
    kx114 M
    else
    (if (M.1 3 3) = 0 then
      (if (M.1 3 7) = 2 then
        bd (X_Teller_boundedValue n 0 15 M) fun r14 M15 =>
        bd (X_Teller_tellThing n r14 M15) fun _ M17 =>
        bd (X_Teller_readToken n M17) fun _ M19 =>
        X_Teller_tellRow_L72 n a1 kx114 m (v2 + 1) M19
        else
        kx114 M)
      else
      kx114 M))
def X_Teller_tellRow (n : Nat) (M : Mem) : Option (Unit × Mem) :=
  bd (X_Teller_takeNumber n 0 5 M) fun r1 M2 =>
  nm (fun (M3 : Mem) => (nm (si M3 3 12 ((M3.1 3 12) ||| ((1 : Int32) <<< (r1 &&& 31)))) fun N4 =>
      nm (si N4 3 13 (if (N4.1 3 13) < r1 then r1 else (N4.1 3 13))) fun N5 =>
      bd (X_Row_take n 10 0 N5) fun _ M7 =>
      bd (X_Teller_takeNumber n 0 15 M7) fun r8 M9 =>
      bd (X_Teller_tellThing n r8 M9) fun _ M11 =>
      bd (X_Teller_readToken n M11) fun _ M13 =>
      X_Teller_tellRow_L72 n r1 (fun M20 => nm (fun (M21 : Mem) => (bd (X_Integer_bitCount n (M21.1 10 1) M21) fun r22 M23 =>
            nm (si M23 3 14 (if (M21.1 3 14) < r22 then r22 else (M21.1 3 14))) fun N24 =>
            bd (X_Row_atRest n 10 N24) fun r25 M26 =>
            gd r1 6 (
              some ((), sl M26 9 (r1.toNatClampNeg) r25)) : Option (Unit × Mem))) fun k127 =>
        (if (M20.1 3 7) = 3 then
          k127 M20
          else
          bd (X_Teller_refuse n 2 M20) fun _ M28 =>
          k127 M28)) n 1 M13 : Option (Unit × Mem))) fun k23 =>
  (if ((((M2.1 3 12).toUInt32 >>> (r1.toUInt32 &&& Int32.toUInt32 31)).toInt32) &&& 1) = 0 then
    k23 M2
    else
    bd (X_Teller_refuse n 4 M2) fun _ M30 =>
    k23 M30)
set_option maxRecDepth 20000 in
set_option maxHeartbeats 4000000 in
theorem X_Teller_tellRow_L72_ok {n : Nat} {a1 : Int32} {kx114 : Mem → Option (Unit × Mem)} (hkx114 : ∀ (M : Mem), J (mt_Teller_tellRow) wU 114 [(0, Value.ref 3), (1, Value.int a1)] [] M (kx114 M)) : ∀ (m : Nat) (v2 : Int32) (M : Mem), J (mt_Teller_tellRow) wU 72 [(0, Value.ref 3), (1, Value.int a1), (2, Value.int v2)] [] M (X_Teller_tellRow_L72 n a1 kx114 m v2 M) := by
  intro m
  induction m with
  | zero => intro _ _; exact j_none
  | succ m ih =>
    intro v2 M
    show J _ _ _ _ _ _ ((if 9 < v2 then
kx114 M
else
(if (M.1 3 3) = 0 then
(if (M.1 3 7) = 2 then
bd (X_Teller_boundedValue n 0 15 M) fun r14 M15 =>
bd (X_Teller_tellThing n r14 M15) fun _ M17 =>
bd (X_Teller_readToken n M17) fun _ M19 =>
X_Teller_tellRow_L72 n a1 kx114 m (v2 + 1) M19
else
kx114 M)
else
kx114 M)))
    refine j_iload_n (pc := 72) (q := 2) d_Teller_tellRow_72 rfl rfl ?_
    refine j_bipush (pc := 73) d_Teller_tellRow_73 k_b_9 ?_
    refine j_icmp_gt (pc := 75) (tgt := 114) d_Teller_tellRow_75 (by decide) (fun _ => ?_) (fun _ => ?_)
    · refine j_lv [0, 1] rfl ?_
      exact hkx114 M
    · refine j_aload_n (pc := 78) (q := 0) d_Teller_tellRow_78 rfl rfl ?_
      refine j_getI (pc := 79) d_Teller_tellRow_79 fl_Teller_45 sx_3 (by decide) rfl ?_
      refine j_if_ne (pc := 82) (tgt := 114) d_Teller_tellRow_82 (by decide) (fun _ => ?_) (fun _ => ?_)
      · refine j_lv [0, 1] rfl ?_
        exact hkx114 M
      · refine j_aload_n (pc := 85) (q := 0) d_Teller_tellRow_85 rfl rfl ?_
        refine j_getI (pc := 86) d_Teller_tellRow_86 fl_Teller_48 sx_3 (by decide) rfl ?_
        refine j_iconst (pc := 89) d_Teller_tellRow_89 k_i_2 ?_
        refine j_icmp_ne (pc := 90) (tgt := 114) d_Teller_tellRow_90 (by decide) (fun _ => ?_) (fun _ => ?_)
        · refine j_lv [0, 1] rfl ?_
          exact hkx114 M
        · refine j_aload_n (pc := 93) (q := 0) d_Teller_tellRow_93 rfl rfl ?_
          refine j_aload_n (pc := 94) (q := 0) d_Teller_tellRow_94 rfl rfl ?_
          refine j_iconst (pc := 95) d_Teller_tellRow_95 k_i_0 ?_
          refine j_bipush (pc := 96) d_Teller_tellRow_96 k_b_15 ?_
          refine j_callV2 (pc := 98) d_Teller_tellRow_98 (C_Teller_boundedValue n 0 15 M) cV_Teller_181 cd_Teller_boundedValue dn_Teller_boundedValue rfl (by decide) (Nat.le_of_ble_eq_true rfl) (Nat.le_of_ble_eq_true rfl) nr_I sx_3 (by decide) rfl (fun r14 M15 => ?_)
          refine j_callV1 (pc := 101) d_Teller_tellRow_101 (C_Teller_tellThing n r14 M15) cV_Teller_178 cd_Teller_tellThing dn_Teller_tellThing rfl (by decide) (Nat.le_of_ble_eq_true rfl) (Nat.le_of_ble_eq_true rfl) nr_U sx_3 (by decide) rfl (fun r16 M17 => ?_)
          refine j_aload_n (pc := 104) (q := 0) d_Teller_tellRow_104 rfl rfl ?_
          refine j_callV0 (pc := 105) d_Teller_tellRow_105 (C_Teller_readToken n M17) cV_Teller_42 cd_Teller_readToken dn_Teller_readToken rfl (by decide) (Nat.le_of_ble_eq_true rfl) (Nat.le_of_ble_eq_true rfl) nr_U sx_3 (by decide) rfl (fun r18 M19 => ?_)
          refine j_iinc (pc := 108) (q := 2) d_Teller_tellRow_108 rfl (congrArg (v2 + ·) k_i_1) (by decide) rfl ?_
          refine j_goto (pc := 111) (tgt := 72) d_Teller_tellRow_111 (by decide) ?_
          refine j_lv [1, 2, 0] rfl ?_
          exact ih (v2 + 1) M19
set_option maxRecDepth 20000 in
set_option maxHeartbeats 4000000 in
theorem C_Teller_tellRow (n : Nat)    (M : Mem) : Ct y_Teller_tellRow mt_Teller_tellRow wU [Value.ref 3] M (X_Teller_tellRow n M) := by
  refine ct_of (by decide +kernel) rfl (Nat.le_of_ble_eq_true rfl) ?_
  show J _ _ _ [(0, Value.ref 3)] _ _ _
  unfold X_Teller_tellRow
  refine j_aload_n (pc := 0) (q := 0) d_Teller_tellRow_0 rfl rfl ?_
  refine j_iconst (pc := 1) d_Teller_tellRow_1 k_i_0 ?_
  refine j_iconst (pc := 2) d_Teller_tellRow_2 k_i_5 ?_
  refine j_callV2 (pc := 3) d_Teller_tellRow_3 (C_Teller_takeNumber n 0 5 M) cV_Teller_162 cd_Teller_takeNumber dn_Teller_takeNumber rfl (by decide) (Nat.le_of_ble_eq_true rfl) (Nat.le_of_ble_eq_true rfl) nr_I sx_3 (by decide) rfl (fun r1 M2 => ?_)
  refine j_istore_n (pc := 6) d_Teller_tellRow_6 rfl (by decide) rfl ?_
  refine j_aload_n (pc := 7) (q := 1) d_Teller_tellRow_7 rfl rfl ?_
  refine j_getI (pc := 8) d_Teller_tellRow_8 fl_Teller_76 sx_3 (by decide) rfl ?_
  refine j_iload_n (pc := 11) (q := 0) d_Teller_tellRow_11 rfl rfl ?_
  refine j_iushr (pc := 12) d_Teller_tellRow_12 ?_
  refine j_iconst (pc := 13) d_Teller_tellRow_13 k_i_1 ?_
  refine j_iand (pc := 14) d_Teller_tellRow_14 ?_
  refine j_nmk (fun k => ∀ (M3 : Mem), J (mt_Teller_tellRow) wU 23 [(0, Value.ref 3), (1, Value.int r1)] [] M3 (k M3)) (fun M3 => ?_) (fun k23 hk23 => ?_)
  · refine j_aload_n (pc := 23) (q := 0) d_Teller_tellRow_23 rfl rfl ?_
    refine j_dup (pc := 24) d_Teller_tellRow_24 rfl ?_
    refine j_getI (pc := 25) d_Teller_tellRow_25 fl_Teller_76 sx_3 (by decide) rfl ?_
    refine j_iconst (pc := 28) d_Teller_tellRow_28 k_i_1 ?_
    refine j_iload_n (pc := 29) (q := 1) d_Teller_tellRow_29 rfl rfl ?_
    refine j_ishl (pc := 30) d_Teller_tellRow_30 ?_
    refine j_ior (pc := 31) d_Teller_tellRow_31 ?_
    refine j_putI (pc := 32) d_Teller_tellRow_32 fl_Teller_76 rfl sx_3 (by decide) rfl ?_
    refine j_aload_n (pc := 35) (q := 0) d_Teller_tellRow_35 rfl rfl ?_
    refine j_aload_n (pc := 36) (q := 0) d_Teller_tellRow_36 rfl rfl ?_
    refine j_nmM (fun N4 => ?_)
    refine j_getI (pc := 37) d_Teller_tellRow_37 fl_Teller_79 sx_3 (by decide) rfl ?_
    refine j_iload_n (pc := 40) (q := 1) d_Teller_tellRow_40 rfl rfl ?_
    refine j_mmax (pc := 41) d_Teller_tellRow_41 mw_Teller_169 ms_max mc_max (by decide) (Nat.le_of_ble_eq_true rfl) ?_
    refine j_putI (pc := 44) d_Teller_tellRow_44 fl_Teller_79 rfl sx_3 (by decide) rfl ?_
    refine j_aload_n (pc := 47) (q := 0) d_Teller_tellRow_47 rfl rfl ?_
    refine j_getA (pc := 48) d_Teller_tellRow_48 fl_Teller_25 sx_3 (by decide) rfl ?_
    refine j_lconst (pc := 51) d_Teller_tellRow_51 k_l_0 ?_
    refine j_nmM (fun N5 => ?_)
    refine j_callV1 (pc := 52) d_Teller_tellRow_52 (C_Row_take n 10 sx_10 0 N5) cV_Teller_174 cd_Row_take dn_Row_take rfl (by decide) (Nat.le_of_ble_eq_true rfl) (Nat.le_of_ble_eq_true rfl) nr_U sx_10 (by decide) rfl (fun r6 M7 => ?_)
    refine j_aload_n (pc := 55) (q := 0) d_Teller_tellRow_55 rfl rfl ?_
    refine j_aload_n (pc := 56) (q := 0) d_Teller_tellRow_56 rfl rfl ?_
    refine j_iconst (pc := 57) d_Teller_tellRow_57 k_i_0 ?_
    refine j_bipush (pc := 58) d_Teller_tellRow_58 k_b_15 ?_
    refine j_callV2 (pc := 60) d_Teller_tellRow_60 (C_Teller_takeNumber n 0 15 M7) cV_Teller_162 cd_Teller_takeNumber dn_Teller_takeNumber rfl (by decide) (Nat.le_of_ble_eq_true rfl) (Nat.le_of_ble_eq_true rfl) nr_I sx_3 (by decide) rfl (fun r8 M9 => ?_)
    refine j_callV1 (pc := 63) d_Teller_tellRow_63 (C_Teller_tellThing n r8 M9) cV_Teller_178 cd_Teller_tellThing dn_Teller_tellThing rfl (by decide) (Nat.le_of_ble_eq_true rfl) (Nat.le_of_ble_eq_true rfl) nr_U sx_3 (by decide) rfl (fun r10 M11 => ?_)
    refine j_aload_n (pc := 66) (q := 0) d_Teller_tellRow_66 rfl rfl ?_
    refine j_callV0 (pc := 67) d_Teller_tellRow_67 (C_Teller_readToken n M11) cV_Teller_42 cd_Teller_readToken dn_Teller_readToken rfl (by decide) (Nat.le_of_ble_eq_true rfl) (Nat.le_of_ble_eq_true rfl) nr_U sx_3 (by decide) rfl (fun r12 M13 => ?_)
    refine j_iconst (pc := 70) d_Teller_tellRow_70 k_i_1 ?_
    refine j_istore_n (pc := 71) d_Teller_tellRow_71 rfl (by decide) rfl ?_
    refine j_lv [1, 2, 0] rfl ?_
    refine X_Teller_tellRow_L72_ok  (fun M20 => ?_) n 1 M13
    refine j_aload_n (pc := 114) (q := 0) d_Teller_tellRow_114 rfl rfl ?_
    refine j_getI (pc := 115) d_Teller_tellRow_115 fl_Teller_48 sx_3 (by decide) rfl ?_
    refine j_iconst (pc := 118) d_Teller_tellRow_118 k_i_3 ?_
    refine j_nmk (fun k => ∀ (M21 : Mem), J (mt_Teller_tellRow) wU 127 [(0, Value.ref 3), (1, Value.int r1)] [] M21 (k M21)) (fun M21 => ?_) (fun k127 hk127 => ?_)
    · refine j_aload_n (pc := 127) (q := 0) d_Teller_tellRow_127 rfl rfl ?_
      refine j_aload_n (pc := 128) (q := 0) d_Teller_tellRow_128 rfl rfl ?_
      refine j_getI (pc := 129) d_Teller_tellRow_129 fl_Teller_82 sx_3 (by decide) rfl ?_
      refine j_aload_n (pc := 132) (q := 0) d_Teller_tellRow_132 rfl rfl ?_
      refine j_getA (pc := 133) d_Teller_tellRow_133 fl_Teller_25 sx_3 (by decide) rfl ?_
      refine j_getI (pc := 136) d_Teller_tellRow_136 fl_Teller_184 sx_10 (by decide) rfl ?_
      refine j_callS1 (pc := 139) d_Teller_tellRow_139 (C_Integer_bitCount n (M21.1 10 1) M21) cS_Teller_187 cd_Integer_bitCount dn_Integer_bitCount rfl (by decide) (Nat.le_of_ble_eq_true rfl) (Nat.le_of_ble_eq_true rfl) nr_I (fun r22 M23 => ?_)
      refine j_mmax (pc := 142) d_Teller_tellRow_142 mw_Teller_169 ms_max mc_max (by decide) (Nat.le_of_ble_eq_true rfl) ?_
      refine j_putI (pc := 145) d_Teller_tellRow_145 fl_Teller_82 rfl sx_3 (by decide) rfl ?_
      refine j_aload_n (pc := 148) (q := 0) d_Teller_tellRow_148 rfl rfl ?_
      refine j_getA (pc := 149) d_Teller_tellRow_149 fl_Teller_18 sx_3 (by decide) rfl ?_
      refine j_iload_n (pc := 152) (q := 1) d_Teller_tellRow_152 rfl rfl ?_
      refine j_aload_n (pc := 153) (q := 0) d_Teller_tellRow_153 rfl rfl ?_
      refine j_getA (pc := 154) d_Teller_tellRow_154 fl_Teller_25 sx_3 (by decide) rfl ?_
      refine j_nmM (fun N24 => ?_)
      refine j_callV0 (pc := 157) d_Teller_tellRow_157 (C_Row_atRest n 10 sx_10 N24) cV_Teller_193 cd_Row_atRest dn_Row_atRest rfl (by decide) (Nat.le_of_ble_eq_true rfl) (Nat.le_of_ble_eq_true rfl) nr_L sx_10 (by decide) rfl (fun r25 M26 => ?_)
      refine j_last (pc := 160) d_Teller_tellRow_160 sx_9 (fun _ => ?_)
      exact j_return (pc := 161) d_Teller_tellRow_161 rfl
    · refine j_icmp_eq (pc := 119) (tgt := 127) d_Teller_tellRow_119 (by decide) (fun _ => ?_) (fun _ => ?_)
      · exact hk127 M20
      · refine j_aload_n (pc := 122) (q := 0) d_Teller_tellRow_122 rfl rfl ?_
        refine j_iconst (pc := 123) d_Teller_tellRow_123 k_i_2 ?_
        refine j_callV1 (pc := 124) d_Teller_tellRow_124 (C_Teller_refuse n 2 M20) cV_Teller_88 cd_Teller_refuse dn_Teller_refuse rfl (by decide) (Nat.le_of_ble_eq_true rfl) (Nat.le_of_ble_eq_true rfl) nr_U sx_3 (by decide) rfl (fun r27 M28 => ?_)
        exact hk127 M28
  · refine j_if_eq (pc := 15) (tgt := 23) d_Teller_tellRow_15 (by decide) (fun _ => ?_) (fun _ => ?_)
    · refine j_lv [1, 0] rfl ?_
      exact hk23 M2
    · refine j_aload_n (pc := 18) (q := 1) d_Teller_tellRow_18 rfl rfl ?_
      refine j_iconst (pc := 19) d_Teller_tellRow_19 k_i_4 ?_
      refine j_callV1 (pc := 20) d_Teller_tellRow_20 (C_Teller_refuse n 4 M2) cV_Teller_88 cd_Teller_refuse dn_Teller_refuse rfl (by decide) (Nat.le_of_ble_eq_true rfl) (Nat.le_of_ble_eq_true rfl) nr_U sx_3 (by decide) rfl (fun r29 M30 => ?_)
      refine j_lv [1, 0] rfl ?_
      exact hk23 M30
-- Teller.tellLine ()V
def mt_Teller_tellLine : Mt := ("ShakeHands$Teller", b_Teller_tellLine, 1, none, 13, SHx)
theorem d_Teller_tellLine_0 : decode b_Teller_tellLine 0 = .ok (.aload_n 0, 1) := by decide +kernel
theorem d_Teller_tellLine_1 : decode b_Teller_tellLine 1 = .ok (.getfield 48, 3) := by decide +kernel
theorem d_Teller_tellLine_4 : decode b_Teller_tellLine 4 = .ok (.iconst 1, 1) := by decide +kernel
theorem d_Teller_tellLine_5 : decode b_Teller_tellLine 5 = .ok (.if_icmp .eq 11, 3) := by decide +kernel
theorem d_Teller_tellLine_8 : decode b_Teller_tellLine 8 = .ok (.aload_n 0, 1) := by decide +kernel
theorem d_Teller_tellLine_9 : decode b_Teller_tellLine 9 = .ok (.iconst 2, 1) := by decide +kernel
theorem d_Teller_tellLine_10 : decode b_Teller_tellLine 10 = .ok (.invokevirtual 88, 3) := by decide +kernel
theorem d_Teller_tellLine_13 : decode b_Teller_tellLine 13 = .ok (.goto 162, 3) := by decide +kernel
theorem d_Teller_tellLine_16 : decode b_Teller_tellLine 16 = .ok (.aload_n 0, 1) := by decide +kernel
theorem d_Teller_tellLine_17 : decode b_Teller_tellLine 17 = .ok (.ldc 115, 2) := by decide +kernel
theorem d_Teller_tellLine_19 : decode b_Teller_tellLine 19 = .ok (.invokevirtual 116, 3) := by decide +kernel
theorem d_Teller_tellLine_22 : decode b_Teller_tellLine 22 = .ok (.ifCond .eq 10, 3) := by decide +kernel
theorem d_Teller_tellLine_25 : decode b_Teller_tellLine 25 = .ok (.aload_n 0, 1) := by decide +kernel
theorem d_Teller_tellLine_26 : decode b_Teller_tellLine 26 = .ok (.invokevirtual 120, 3) := by decide +kernel
theorem d_Teller_tellLine_29 : decode b_Teller_tellLine 29 = .ok (.goto 146, 3) := by decide +kernel
theorem d_Teller_tellLine_32 : decode b_Teller_tellLine 32 = .ok (.aload_n 0, 1) := by decide +kernel
theorem d_Teller_tellLine_33 : decode b_Teller_tellLine 33 = .ok (.ldc 123, 2) := by decide +kernel
theorem d_Teller_tellLine_35 : decode b_Teller_tellLine 35 = .ok (.invokevirtual 116, 3) := by decide +kernel
theorem d_Teller_tellLine_38 : decode b_Teller_tellLine 38 = .ok (.ifCond .eq 10, 3) := by decide +kernel
theorem d_Teller_tellLine_41 : decode b_Teller_tellLine 41 = .ok (.aload_n 0, 1) := by decide +kernel
theorem d_Teller_tellLine_42 : decode b_Teller_tellLine 42 = .ok (.invokevirtual 124, 3) := by decide +kernel
theorem d_Teller_tellLine_45 : decode b_Teller_tellLine 45 = .ok (.goto 130, 3) := by decide +kernel
theorem d_Teller_tellLine_48 : decode b_Teller_tellLine 48 = .ok (.aload_n 0, 1) := by decide +kernel
theorem d_Teller_tellLine_49 : decode b_Teller_tellLine 49 = .ok (.ldc 127, 2) := by decide +kernel
theorem d_Teller_tellLine_51 : decode b_Teller_tellLine 51 = .ok (.invokevirtual 116, 3) := by decide +kernel
theorem d_Teller_tellLine_54 : decode b_Teller_tellLine 54 = .ok (.ifCond .eq 10, 3) := by decide +kernel
theorem d_Teller_tellLine_57 : decode b_Teller_tellLine 57 = .ok (.aload_n 0, 1) := by decide +kernel
theorem d_Teller_tellLine_58 : decode b_Teller_tellLine 58 = .ok (.invokevirtual 129, 3) := by decide +kernel
theorem d_Teller_tellLine_61 : decode b_Teller_tellLine 61 = .ok (.goto 114, 3) := by decide +kernel
theorem d_Teller_tellLine_64 : decode b_Teller_tellLine 64 = .ok (.aload_n 0, 1) := by decide +kernel
theorem d_Teller_tellLine_65 : decode b_Teller_tellLine 65 = .ok (.ldc 132, 2) := by decide +kernel
theorem d_Teller_tellLine_67 : decode b_Teller_tellLine 67 = .ok (.invokevirtual 116, 3) := by decide +kernel
theorem d_Teller_tellLine_70 : decode b_Teller_tellLine 70 = .ok (.ifCond .eq 10, 3) := by decide +kernel
theorem d_Teller_tellLine_73 : decode b_Teller_tellLine 73 = .ok (.aload_n 0, 1) := by decide +kernel
theorem d_Teller_tellLine_74 : decode b_Teller_tellLine 74 = .ok (.invokevirtual 134, 3) := by decide +kernel
theorem d_Teller_tellLine_77 : decode b_Teller_tellLine 77 = .ok (.goto 98, 3) := by decide +kernel
theorem d_Teller_tellLine_80 : decode b_Teller_tellLine 80 = .ok (.aload_n 0, 1) := by decide +kernel
theorem d_Teller_tellLine_81 : decode b_Teller_tellLine 81 = .ok (.ldc 137, 2) := by decide +kernel
theorem d_Teller_tellLine_83 : decode b_Teller_tellLine 83 = .ok (.invokevirtual 116, 3) := by decide +kernel
theorem d_Teller_tellLine_86 : decode b_Teller_tellLine 86 = .ok (.ifCond .eq 31, 3) := by decide +kernel
theorem d_Teller_tellLine_89 : decode b_Teller_tellLine 89 = .ok (.aload_n 0, 1) := by decide +kernel
theorem d_Teller_tellLine_90 : decode b_Teller_tellLine 90 = .ok (.getfield 12, 3) := by decide +kernel
theorem d_Teller_tellLine_93 : decode b_Teller_tellLine 93 = .ok (.aload_n 0, 1) := by decide +kernel
theorem d_Teller_tellLine_94 : decode b_Teller_tellLine 94 = .ok (.aload_n 0, 1) := by decide +kernel
theorem d_Teller_tellLine_95 : decode b_Teller_tellLine 95 = .ok (.getfield 12, 3) := by decide +kernel
theorem d_Teller_tellLine_98 : decode b_Teller_tellLine 98 = .ok (.getfield 139, 3) := by decide +kernel
theorem d_Teller_tellLine_101 : decode b_Teller_tellLine 101 = .ok (.aload_n 0, 1) := by decide +kernel
theorem d_Teller_tellLine_102 : decode b_Teller_tellLine 102 = .ok (.getfield 12, 3) := by decide +kernel
theorem d_Teller_tellLine_105 : decode b_Teller_tellLine 105 = .ok (.getfield 143, 3) := by decide +kernel
theorem d_Teller_tellLine_108 : decode b_Teller_tellLine 108 = .ok (.invokevirtual 146, 3) := by decide +kernel
theorem d_Teller_tellLine_111 : decode b_Teller_tellLine 111 = .ok (.putfield 143, 3) := by decide +kernel
theorem d_Teller_tellLine_114 : decode b_Teller_tellLine 114 = .ok (.goto 61, 3) := by decide +kernel
theorem d_Teller_tellLine_117 : decode b_Teller_tellLine 117 = .ok (.aload_n 0, 1) := by decide +kernel
theorem d_Teller_tellLine_118 : decode b_Teller_tellLine 118 = .ok (.ldc 150, 2) := by decide +kernel
theorem d_Teller_tellLine_120 : decode b_Teller_tellLine 120 = .ok (.invokevirtual 116, 3) := by decide +kernel
theorem d_Teller_tellLine_123 : decode b_Teller_tellLine 123 = .ok (.ifCond .eq 31, 3) := by decide +kernel
theorem d_Teller_tellLine_126 : decode b_Teller_tellLine 126 = .ok (.aload_n 0, 1) := by decide +kernel
theorem d_Teller_tellLine_127 : decode b_Teller_tellLine 127 = .ok (.getfield 12, 3) := by decide +kernel
theorem d_Teller_tellLine_130 : decode b_Teller_tellLine 130 = .ok (.aload_n 0, 1) := by decide +kernel
theorem d_Teller_tellLine_131 : decode b_Teller_tellLine 131 = .ok (.aload_n 0, 1) := by decide +kernel
theorem d_Teller_tellLine_132 : decode b_Teller_tellLine 132 = .ok (.getfield 12, 3) := by decide +kernel
theorem d_Teller_tellLine_135 : decode b_Teller_tellLine 135 = .ok (.getfield 152, 3) := by decide +kernel
theorem d_Teller_tellLine_138 : decode b_Teller_tellLine 138 = .ok (.aload_n 0, 1) := by decide +kernel
theorem d_Teller_tellLine_139 : decode b_Teller_tellLine 139 = .ok (.getfield 12, 3) := by decide +kernel
theorem d_Teller_tellLine_142 : decode b_Teller_tellLine 142 = .ok (.getfield 154, 3) := by decide +kernel
theorem d_Teller_tellLine_145 : decode b_Teller_tellLine 145 = .ok (.invokevirtual 146, 3) := by decide +kernel
theorem d_Teller_tellLine_148 : decode b_Teller_tellLine 148 = .ok (.putfield 154, 3) := by decide +kernel
theorem d_Teller_tellLine_151 : decode b_Teller_tellLine 151 = .ok (.goto 24, 3) := by decide +kernel
theorem d_Teller_tellLine_154 : decode b_Teller_tellLine 154 = .ok (.aload_n 0, 1) := by decide +kernel
theorem d_Teller_tellLine_155 : decode b_Teller_tellLine 155 = .ok (.ldc 157, 2) := by decide +kernel
theorem d_Teller_tellLine_157 : decode b_Teller_tellLine 157 = .ok (.invokevirtual 116, 3) := by decide +kernel
theorem d_Teller_tellLine_160 : decode b_Teller_tellLine 160 = .ok (.ifCond .eq 10, 3) := by decide +kernel
theorem d_Teller_tellLine_163 : decode b_Teller_tellLine 163 = .ok (.aload_n 0, 1) := by decide +kernel
theorem d_Teller_tellLine_164 : decode b_Teller_tellLine 164 = .ok (.invokevirtual 159, 3) := by decide +kernel
theorem d_Teller_tellLine_167 : decode b_Teller_tellLine 167 = .ok (.goto 8, 3) := by decide +kernel
theorem d_Teller_tellLine_170 : decode b_Teller_tellLine 170 = .ok (.aload_n 0, 1) := by decide +kernel
theorem d_Teller_tellLine_171 : decode b_Teller_tellLine 171 = .ok (.iconst 2, 1) := by decide +kernel
theorem d_Teller_tellLine_172 : decode b_Teller_tellLine 172 = .ok (.invokevirtual 88, 3) := by decide +kernel
theorem d_Teller_tellLine_175 : decode b_Teller_tellLine 175 = .ok (.return_, 1) := by decide +kernel
def X_Teller_tellLine (n : Nat) (M : Mem) : Option (Unit × Mem) :=
  (if (M.1 3 7) = 1 then
    bd (X_Teller_isCalled n 0 M) fun r1 M2 =>
    (if r1 = 0 then
      bd (X_Teller_isCalled n 1 M2) fun r3 M4 =>
      (if r3 = 0 then
        bd (X_Teller_isCalled n 2 M4) fun r5 M6 =>
        (if r5 = 0 then
          bd (X_Teller_isCalled n 3 M6) fun r7 M8 =>
          (if r7 = 0 then
            bd (X_Teller_isCalled n 4 M8) fun r9 M10 =>
            (if r9 = 0 then
              bd (X_Teller_isCalled n 5 M10) fun r11 M12 =>
              (if r11 = 0 then
                bd (X_Teller_isCalled n 6 M12) fun r13 M14 =>
                (if r13 = 0 then
                  bd (X_Teller_refuse n 2 M14) fun _ M16 =>
                  some ((), M16)
                  else
                  bd (X_Teller_tellGlove n M14) fun _ M18 =>
                  some ((), M18))
                else
                bd (X_Teller_tellPair n 7 8 (M12.1 4 7) M12) fun r19 M20 =>
                some ((), si M20 4 7 r19))
              else
              bd (X_Teller_tellPair n 6 16 (M10.1 4 5) M10) fun r21 M22 =>
              some ((), si M22 4 5 r21))
            else
            bd (X_Teller_tellJoin n M8) fun _ M24 =>
            some ((), M24))
          else
          bd (X_Teller_tellRow n M6) fun _ M26 =>
          some ((), M26))
        else
        bd (X_Teller_tellHold n M4) fun _ M28 =>
        some ((), M28))
      else
      bd (X_Teller_tellPeople n M2) fun _ M30 =>
      some ((), M30))
    else
    bd (X_Teller_refuse n 2 M) fun _ M32 =>
    some ((), M32))
set_option maxRecDepth 20000 in
set_option maxHeartbeats 4000000 in
theorem C_Teller_tellLine (n : Nat)    (M : Mem) : Ct y_Teller_tellLine mt_Teller_tellLine wU [Value.ref 3] M (X_Teller_tellLine n M) := by
  refine ct_of (by decide +kernel) rfl (Nat.le_of_ble_eq_true rfl) ?_
  show J _ _ _ [(0, Value.ref 3)] _ _ _
  unfold X_Teller_tellLine
  refine j_aload_n (pc := 0) (q := 0) d_Teller_tellLine_0 rfl rfl ?_
  refine j_getI (pc := 1) d_Teller_tellLine_1 fl_Teller_48 sx_3 (by decide) rfl ?_
  refine j_iconst (pc := 4) d_Teller_tellLine_4 k_i_1 ?_
  refine j_icmp_eq (pc := 5) (tgt := 16) d_Teller_tellLine_5 (by decide) (fun _ => ?_) (fun _ => ?_)
  · refine j_aload_n (pc := 16) (q := 0) d_Teller_tellLine_16 rfl rfl ?_
    refine j_ldcS (pc := 17) (own := "ShakeHands$Teller") (k := 0) d_Teller_tellLine_17 rfl rfl ?_
    refine j_callV1 (pc := 19) d_Teller_tellLine_19 (C_Teller_isCalled n 0 (by decide) M) cV_Teller_116 cd_Teller_isCalled dn_Teller_isCalled rfl (by decide) (Nat.le_of_ble_eq_true rfl) (Nat.le_of_ble_eq_true rfl) nr_I sx_3 (by decide) rfl (fun r1 M2 => ?_)
    refine j_if_eq (pc := 22) (tgt := 32) d_Teller_tellLine_22 (by decide) (fun _ => ?_) (fun _ => ?_)
    · refine j_aload_n (pc := 32) (q := 0) d_Teller_tellLine_32 rfl rfl ?_
      refine j_ldcS (pc := 33) (own := "ShakeHands$Teller") (k := 1) d_Teller_tellLine_33 rfl rfl ?_
      refine j_callV1 (pc := 35) d_Teller_tellLine_35 (C_Teller_isCalled n 1 (by decide) M2) cV_Teller_116 cd_Teller_isCalled dn_Teller_isCalled rfl (by decide) (Nat.le_of_ble_eq_true rfl) (Nat.le_of_ble_eq_true rfl) nr_I sx_3 (by decide) rfl (fun r3 M4 => ?_)
      refine j_if_eq (pc := 38) (tgt := 48) d_Teller_tellLine_38 (by decide) (fun _ => ?_) (fun _ => ?_)
      · refine j_aload_n (pc := 48) (q := 0) d_Teller_tellLine_48 rfl rfl ?_
        refine j_ldcS (pc := 49) (own := "ShakeHands$Teller") (k := 2) d_Teller_tellLine_49 rfl rfl ?_
        refine j_callV1 (pc := 51) d_Teller_tellLine_51 (C_Teller_isCalled n 2 (by decide) M4) cV_Teller_116 cd_Teller_isCalled dn_Teller_isCalled rfl (by decide) (Nat.le_of_ble_eq_true rfl) (Nat.le_of_ble_eq_true rfl) nr_I sx_3 (by decide) rfl (fun r5 M6 => ?_)
        refine j_if_eq (pc := 54) (tgt := 64) d_Teller_tellLine_54 (by decide) (fun _ => ?_) (fun _ => ?_)
        · refine j_aload_n (pc := 64) (q := 0) d_Teller_tellLine_64 rfl rfl ?_
          refine j_ldcS (pc := 65) (own := "ShakeHands$Teller") (k := 3) d_Teller_tellLine_65 rfl rfl ?_
          refine j_callV1 (pc := 67) d_Teller_tellLine_67 (C_Teller_isCalled n 3 (by decide) M6) cV_Teller_116 cd_Teller_isCalled dn_Teller_isCalled rfl (by decide) (Nat.le_of_ble_eq_true rfl) (Nat.le_of_ble_eq_true rfl) nr_I sx_3 (by decide) rfl (fun r7 M8 => ?_)
          refine j_if_eq (pc := 70) (tgt := 80) d_Teller_tellLine_70 (by decide) (fun _ => ?_) (fun _ => ?_)
          · refine j_aload_n (pc := 80) (q := 0) d_Teller_tellLine_80 rfl rfl ?_
            refine j_ldcS (pc := 81) (own := "ShakeHands$Teller") (k := 4) d_Teller_tellLine_81 rfl rfl ?_
            refine j_callV1 (pc := 83) d_Teller_tellLine_83 (C_Teller_isCalled n 4 (by decide) M8) cV_Teller_116 cd_Teller_isCalled dn_Teller_isCalled rfl (by decide) (Nat.le_of_ble_eq_true rfl) (Nat.le_of_ble_eq_true rfl) nr_I sx_3 (by decide) rfl (fun r9 M10 => ?_)
            refine j_if_eq (pc := 86) (tgt := 117) d_Teller_tellLine_86 (by decide) (fun _ => ?_) (fun _ => ?_)
            · refine j_aload_n (pc := 117) (q := 0) d_Teller_tellLine_117 rfl rfl ?_
              refine j_ldcS (pc := 118) (own := "ShakeHands$Teller") (k := 5) d_Teller_tellLine_118 rfl rfl ?_
              refine j_callV1 (pc := 120) d_Teller_tellLine_120 (C_Teller_isCalled n 5 (by decide) M10) cV_Teller_116 cd_Teller_isCalled dn_Teller_isCalled rfl (by decide) (Nat.le_of_ble_eq_true rfl) (Nat.le_of_ble_eq_true rfl) nr_I sx_3 (by decide) rfl (fun r11 M12 => ?_)
              refine j_if_eq (pc := 123) (tgt := 154) d_Teller_tellLine_123 (by decide) (fun _ => ?_) (fun _ => ?_)
              · refine j_aload_n (pc := 154) (q := 0) d_Teller_tellLine_154 rfl rfl ?_
                refine j_ldcS (pc := 155) (own := "ShakeHands$Teller") (k := 6) d_Teller_tellLine_155 rfl rfl ?_
                refine j_callV1 (pc := 157) d_Teller_tellLine_157 (C_Teller_isCalled n 6 (by decide) M12) cV_Teller_116 cd_Teller_isCalled dn_Teller_isCalled rfl (by decide) (Nat.le_of_ble_eq_true rfl) (Nat.le_of_ble_eq_true rfl) nr_I sx_3 (by decide) rfl (fun r13 M14 => ?_)
                refine j_if_eq (pc := 160) (tgt := 170) d_Teller_tellLine_160 (by decide) (fun _ => ?_) (fun _ => ?_)
                · refine j_aload_n (pc := 170) (q := 0) d_Teller_tellLine_170 rfl rfl ?_
                  refine j_iconst (pc := 171) d_Teller_tellLine_171 k_i_2 ?_
                  refine j_callV1 (pc := 172) d_Teller_tellLine_172 (C_Teller_refuse n 2 M14) cV_Teller_88 cd_Teller_refuse dn_Teller_refuse rfl (by decide) (Nat.le_of_ble_eq_true rfl) (Nat.le_of_ble_eq_true rfl) nr_U sx_3 (by decide) rfl (fun r15 M16 => ?_)
                  exact j_return (pc := 175) d_Teller_tellLine_175 rfl
                · refine j_aload_n (pc := 163) (q := 0) d_Teller_tellLine_163 rfl rfl ?_
                  refine j_callV0 (pc := 164) d_Teller_tellLine_164 (C_Teller_tellGlove n M14) cV_Teller_159 cd_Teller_tellGlove dn_Teller_tellGlove rfl (by decide) (Nat.le_of_ble_eq_true rfl) (Nat.le_of_ble_eq_true rfl) nr_U sx_3 (by decide) rfl (fun r17 M18 => ?_)
                  refine j_goto (pc := 167) (tgt := 175) d_Teller_tellLine_167 (by decide) ?_
                  exact j_return (pc := 175) d_Teller_tellLine_175 rfl
              · refine j_aload_n (pc := 126) (q := 0) d_Teller_tellLine_126 rfl rfl ?_
                refine j_getA (pc := 127) d_Teller_tellLine_127 fl_Teller_12 sx_3 (by decide) rfl ?_
                refine j_aload_n (pc := 130) (q := 0) d_Teller_tellLine_130 rfl rfl ?_
                refine j_aload_n (pc := 131) (q := 0) d_Teller_tellLine_131 rfl rfl ?_
                refine j_getA (pc := 132) d_Teller_tellLine_132 fl_Teller_12 sx_3 (by decide) rfl ?_
                refine j_getA (pc := 135) d_Teller_tellLine_135 fl_Teller_152 sx_4 (by decide) rfl ?_
                refine j_aload_n (pc := 138) (q := 0) d_Teller_tellLine_138 rfl rfl ?_
                refine j_getA (pc := 139) d_Teller_tellLine_139 fl_Teller_12 sx_3 (by decide) rfl ?_
                refine j_getI (pc := 142) d_Teller_tellLine_142 fl_Teller_154 sx_4 (by decide) rfl ?_
                refine j_callV2 (pc := 145) d_Teller_tellLine_145 (C_Teller_tellPair n 7 8 sx_7 (M12.1 4 7) M12) cV_Teller_146 cd_Teller_tellPair dn_Teller_tellPair rfl (by decide) (Nat.le_of_ble_eq_true rfl) (Nat.le_of_ble_eq_true rfl) nr_I sx_3 (by decide) rfl (fun r19 M20 => ?_)
                refine j_putI (pc := 148) d_Teller_tellLine_148 fl_Teller_154 rfl sx_4 (by decide) rfl ?_
                refine j_goto (pc := 151) (tgt := 175) d_Teller_tellLine_151 (by decide) ?_
                exact j_return (pc := 175) d_Teller_tellLine_175 rfl
            · refine j_aload_n (pc := 89) (q := 0) d_Teller_tellLine_89 rfl rfl ?_
              refine j_getA (pc := 90) d_Teller_tellLine_90 fl_Teller_12 sx_3 (by decide) rfl ?_
              refine j_aload_n (pc := 93) (q := 0) d_Teller_tellLine_93 rfl rfl ?_
              refine j_aload_n (pc := 94) (q := 0) d_Teller_tellLine_94 rfl rfl ?_
              refine j_getA (pc := 95) d_Teller_tellLine_95 fl_Teller_12 sx_3 (by decide) rfl ?_
              refine j_getA (pc := 98) d_Teller_tellLine_98 fl_Teller_139 sx_4 (by decide) rfl ?_
              refine j_aload_n (pc := 101) (q := 0) d_Teller_tellLine_101 rfl rfl ?_
              refine j_getA (pc := 102) d_Teller_tellLine_102 fl_Teller_12 sx_3 (by decide) rfl ?_
              refine j_getI (pc := 105) d_Teller_tellLine_105 fl_Teller_143 sx_4 (by decide) rfl ?_
              refine j_callV2 (pc := 108) d_Teller_tellLine_108 (C_Teller_tellPair n 6 16 sx_6 (M10.1 4 5) M10) cV_Teller_146 cd_Teller_tellPair dn_Teller_tellPair rfl (by decide) (Nat.le_of_ble_eq_true rfl) (Nat.le_of_ble_eq_true rfl) nr_I sx_3 (by decide) rfl (fun r21 M22 => ?_)
              refine j_putI (pc := 111) d_Teller_tellLine_111 fl_Teller_143 rfl sx_4 (by decide) rfl ?_
              refine j_goto (pc := 114) (tgt := 175) d_Teller_tellLine_114 (by decide) ?_
              exact j_return (pc := 175) d_Teller_tellLine_175 rfl
          · refine j_aload_n (pc := 73) (q := 0) d_Teller_tellLine_73 rfl rfl ?_
            refine j_callV0 (pc := 74) d_Teller_tellLine_74 (C_Teller_tellJoin n M8) cV_Teller_134 cd_Teller_tellJoin dn_Teller_tellJoin rfl (by decide) (Nat.le_of_ble_eq_true rfl) (Nat.le_of_ble_eq_true rfl) nr_U sx_3 (by decide) rfl (fun r23 M24 => ?_)
            refine j_goto (pc := 77) (tgt := 175) d_Teller_tellLine_77 (by decide) ?_
            exact j_return (pc := 175) d_Teller_tellLine_175 rfl
        · refine j_aload_n (pc := 57) (q := 0) d_Teller_tellLine_57 rfl rfl ?_
          refine j_callV0 (pc := 58) d_Teller_tellLine_58 (C_Teller_tellRow n M6) cV_Teller_129 cd_Teller_tellRow dn_Teller_tellRow rfl (by decide) (Nat.le_of_ble_eq_true rfl) (Nat.le_of_ble_eq_true rfl) nr_U sx_3 (by decide) rfl (fun r25 M26 => ?_)
          refine j_goto (pc := 61) (tgt := 175) d_Teller_tellLine_61 (by decide) ?_
          exact j_return (pc := 175) d_Teller_tellLine_175 rfl
      · refine j_aload_n (pc := 41) (q := 0) d_Teller_tellLine_41 rfl rfl ?_
        refine j_callV0 (pc := 42) d_Teller_tellLine_42 (C_Teller_tellHold n M4) cV_Teller_124 cd_Teller_tellHold dn_Teller_tellHold rfl (by decide) (Nat.le_of_ble_eq_true rfl) (Nat.le_of_ble_eq_true rfl) nr_U sx_3 (by decide) rfl (fun r27 M28 => ?_)
        refine j_goto (pc := 45) (tgt := 175) d_Teller_tellLine_45 (by decide) ?_
        exact j_return (pc := 175) d_Teller_tellLine_175 rfl
    · refine j_aload_n (pc := 25) (q := 0) d_Teller_tellLine_25 rfl rfl ?_
      refine j_callV0 (pc := 26) d_Teller_tellLine_26 (C_Teller_tellPeople n M2) cV_Teller_120 cd_Teller_tellPeople dn_Teller_tellPeople rfl (by decide) (Nat.le_of_ble_eq_true rfl) (Nat.le_of_ble_eq_true rfl) nr_U sx_3 (by decide) rfl (fun r29 M30 => ?_)
      refine j_goto (pc := 29) (tgt := 175) d_Teller_tellLine_29 (by decide) ?_
      exact j_return (pc := 175) d_Teller_tellLine_175 rfl
  · refine j_aload_n (pc := 8) (q := 0) d_Teller_tellLine_8 rfl rfl ?_
    refine j_iconst (pc := 9) d_Teller_tellLine_9 k_i_2 ?_
    refine j_callV1 (pc := 10) d_Teller_tellLine_10 (C_Teller_refuse n 2 M) cV_Teller_88 cd_Teller_refuse dn_Teller_refuse rfl (by decide) (Nat.le_of_ble_eq_true rfl) (Nat.le_of_ble_eq_true rfl) nr_U sx_3 (by decide) rfl (fun r31 M32 => ?_)
    refine j_goto (pc := 13) (tgt := 175) d_Teller_tellLine_13 (by decide) ?_
    exact j_return (pc := 175) d_Teller_tellLine_175 rfl
-- Teller.tell ()I
def mt_Teller_tell : Mt := ("ShakeHands$Teller", b_Teller_tell, 2, some .int, 14, SHx)
theorem d_Teller_tell_0 : decode b_Teller_tell 0 = .ok (.aload_n 0, 1) := by decide +kernel
theorem d_Teller_tell_1 : decode b_Teller_tell 1 = .ok (.invokevirtual 33, 3) := by decide +kernel
theorem d_Teller_tell_4 : decode b_Teller_tell 4 = .ok (.iconst 0, 1) := by decide +kernel
theorem d_Teller_tell_5 : decode b_Teller_tell 5 = .ok (.istore_n 1, 1) := by decide +kernel
theorem d_Teller_tell_6 : decode b_Teller_tell 6 = .ok (.iload_n 1, 1) := by decide +kernel
theorem d_Teller_tell_7 : decode b_Teller_tell 7 = .ok (.aload_n 0, 1) := by decide +kernel
theorem d_Teller_tell_8 : decode b_Teller_tell 8 = .ok (.getfield 29, 3) := by decide +kernel
theorem d_Teller_tell_11 : decode b_Teller_tell 11 = .ok (.getfield 36, 3) := by decide +kernel
theorem d_Teller_tell_14 : decode b_Teller_tell 14 = .ok (.if_icmp .gt 34, 3) := by decide +kernel
theorem d_Teller_tell_17 : decode b_Teller_tell 17 = .ok (.aload_n 0, 1) := by decide +kernel
theorem d_Teller_tell_18 : decode b_Teller_tell 18 = .ok (.invokevirtual 42, 3) := by decide +kernel
theorem d_Teller_tell_21 : decode b_Teller_tell 21 = .ok (.aload_n 0, 1) := by decide +kernel
theorem d_Teller_tell_22 : decode b_Teller_tell 22 = .ok (.getfield 45, 3) := by decide +kernel
theorem d_Teller_tell_25 : decode b_Teller_tell 25 = .ok (.ifCond .ne 23, 3) := by decide +kernel
theorem d_Teller_tell_28 : decode b_Teller_tell 28 = .ok (.aload_n 0, 1) := by decide +kernel
theorem d_Teller_tell_29 : decode b_Teller_tell 29 = .ok (.getfield 48, 3) := by decide +kernel
theorem d_Teller_tell_32 : decode b_Teller_tell 32 = .ok (.ifCond .ne 6, 3) := by decide +kernel
theorem d_Teller_tell_35 : decode b_Teller_tell 35 = .ok (.goto 13, 3) := by decide +kernel
theorem d_Teller_tell_38 : decode b_Teller_tell 38 = .ok (.aload_n 0, 1) := by decide +kernel
theorem d_Teller_tell_39 : decode b_Teller_tell 39 = .ok (.invokevirtual 51, 3) := by decide +kernel
theorem d_Teller_tell_42 : decode b_Teller_tell 42 = .ok (.iinc 1 1, 3) := by decide +kernel
theorem d_Teller_tell_45 : decode b_Teller_tell 45 = .ok (.goto (-39), 3) := by decide +kernel
theorem d_Teller_tell_48 : decode b_Teller_tell 48 = .ok (.aload_n 0, 1) := by decide +kernel
theorem d_Teller_tell_49 : decode b_Teller_tell 49 = .ok (.invokevirtual 54, 3) := by decide +kernel
theorem d_Teller_tell_52 : decode b_Teller_tell 52 = .ok (.aload_n 0, 1) := by decide +kernel
theorem d_Teller_tell_53 : decode b_Teller_tell 53 = .ok (.getfield 45, 3) := by decide +kernel
theorem d_Teller_tell_56 : decode b_Teller_tell 56 = .ok (.ifCond .ne 7, 3) := by decide +kernel
theorem d_Teller_tell_59 : decode b_Teller_tell 59 = .ok (.iload_n 1, 1) := by decide +kernel
theorem d_Teller_tell_60 : decode b_Teller_tell 60 = .ok (.goto 10, 3) := by decide +kernel
theorem d_Teller_tell_63 : decode b_Teller_tell 63 = .ok (.bipush (-10), 2) := by decide +kernel
theorem d_Teller_tell_65 : decode b_Teller_tell 65 = .ok (.aload_n 0, 1) := by decide +kernel
theorem d_Teller_tell_66 : decode b_Teller_tell 66 = .ok (.getfield 57, 3) := by decide +kernel
theorem d_Teller_tell_69 : decode b_Teller_tell 69 = .ok (.isub, 1) := by decide +kernel
theorem d_Teller_tell_70 : decode b_Teller_tell 70 = .ok (.ireturn, 1) := by decide +kernel
def X_Teller_tell_L6 (n : Nat) (kx48 : Int32 → Mem → Option (Int32 × Mem)) : Nat → Int32 → Mem → Option (Int32 × Mem)
    | 0, _, _ => none
    | m + 1, v1, M => (if (M.1 1 1) < v1 then
    kx48 v1 M
    else
    bd (X_Teller_readToken n M) fun _ M4 =>
    (if (M4.1 3 3) = 0 then
      (if (M4.1 3 7) = 0 then
        kx48 v1 M4
        else
        bd (X_Teller_tellLine n M4) fun _ M6 =>
        X_Teller_tell_L6 n kx48 m (v1 + 1) M6)
      else
      kx48 v1 M4))
def X_Teller_tell (n : Nat) (M : Mem) : Option (Int32 × Mem) :=
  bd (X_Teller_begin n M) fun _ M2 =>
  X_Teller_tell_L6 n (fun y7 M8 => bd (X_Teller_lookBack n M8) fun _ M10 =>
    (if (M10.1 3 3) = 0 then
      some (y7, M10)
      else
      some ((((-10) : Int32) - (M10.1 3 8)), M10))) n 0 M2
set_option maxRecDepth 20000 in
set_option maxHeartbeats 4000000 in
theorem X_Teller_tell_L6_ok {n : Nat} {kx48 : Int32 → Mem → Option (Int32 × Mem)} (hkx48 : ∀ (w1 : Int32) (M : Mem), J (mt_Teller_tell) wI 48 [(0, Value.ref 3), (1, Value.int w1)] [] M (kx48 w1 M)) : ∀ (m : Nat) (v1 : Int32) (M : Mem), J (mt_Teller_tell) wI 6 [(0, Value.ref 3), (1, Value.int v1)] [] M (X_Teller_tell_L6 n kx48 m v1 M) := by
  intro m
  induction m with
  | zero => intro _ _; exact j_none
  | succ m ih =>
    intro v1 M
    show J _ _ _ _ _ _ ((if (M.1 1 1) < v1 then
kx48 v1 M
else
bd (X_Teller_readToken n M) fun _ M4 =>
(if (M4.1 3 3) = 0 then
(if (M4.1 3 7) = 0 then
kx48 v1 M4
else
bd (X_Teller_tellLine n M4) fun _ M6 =>
X_Teller_tell_L6 n kx48 m (v1 + 1) M6)
else
kx48 v1 M4)))
    refine j_iload_n (pc := 6) (q := 1) d_Teller_tell_6 rfl rfl ?_
    refine j_aload_n (pc := 7) (q := 0) d_Teller_tell_7 rfl rfl ?_
    refine j_getA (pc := 8) d_Teller_tell_8 fl_Teller_29 sx_3 (by decide) rfl ?_
    refine j_getI (pc := 11) d_Teller_tell_11 fl_Teller_36 sx_1 (by decide) rfl ?_
    refine j_icmp_gt (pc := 14) (tgt := 48) d_Teller_tell_14 (by decide) (fun _ => ?_) (fun _ => ?_)
    · exact hkx48 v1 M
    · refine j_aload_n (pc := 17) (q := 0) d_Teller_tell_17 rfl rfl ?_
      refine j_callV0 (pc := 18) d_Teller_tell_18 (C_Teller_readToken n M) cV_Teller_42 cd_Teller_readToken dn_Teller_readToken rfl (by decide) (Nat.le_of_ble_eq_true rfl) (Nat.le_of_ble_eq_true rfl) nr_U sx_3 (by decide) rfl (fun r3 M4 => ?_)
      refine j_aload_n (pc := 21) (q := 0) d_Teller_tell_21 rfl rfl ?_
      refine j_getI (pc := 22) d_Teller_tell_22 fl_Teller_45 sx_3 (by decide) rfl ?_
      refine j_if_ne (pc := 25) (tgt := 48) d_Teller_tell_25 (by decide) (fun _ => ?_) (fun _ => ?_)
      · exact hkx48 v1 M4
      · refine j_aload_n (pc := 28) (q := 0) d_Teller_tell_28 rfl rfl ?_
        refine j_getI (pc := 29) d_Teller_tell_29 fl_Teller_48 sx_3 (by decide) rfl ?_
        refine j_if_ne (pc := 32) (tgt := 38) d_Teller_tell_32 (by decide) (fun _ => ?_) (fun _ => ?_)
        · refine j_aload_n (pc := 38) (q := 0) d_Teller_tell_38 rfl rfl ?_
          refine j_callV0 (pc := 39) d_Teller_tell_39 (C_Teller_tellLine n M4) cV_Teller_51 cd_Teller_tellLine dn_Teller_tellLine rfl (by decide) (Nat.le_of_ble_eq_true rfl) (Nat.le_of_ble_eq_true rfl) nr_U sx_3 (by decide) rfl (fun r5 M6 => ?_)
          refine j_iinc (pc := 42) (q := 1) d_Teller_tell_42 rfl (congrArg (v1 + ·) k_i_1) (by decide) rfl ?_
          refine j_goto (pc := 45) (tgt := 6) d_Teller_tell_45 (by decide) ?_
          refine j_lv [1, 0] rfl ?_
          exact ih (v1 + 1) M6
        · refine j_goto (pc := 35) (tgt := 48) d_Teller_tell_35 (by decide) ?_
          exact hkx48 v1 M4
set_option maxRecDepth 20000 in
set_option maxHeartbeats 4000000 in
theorem C_Teller_tell (n : Nat)    (M : Mem) : Ct y_Teller_tell mt_Teller_tell wI [Value.ref 3] M (X_Teller_tell n M) := by
  refine ct_of (by decide +kernel) rfl (Nat.le_of_ble_eq_true rfl) ?_
  show J _ _ _ [(0, Value.ref 3)] _ _ _
  unfold X_Teller_tell
  refine j_aload_n (pc := 0) (q := 0) d_Teller_tell_0 rfl rfl ?_
  refine j_callV0 (pc := 1) d_Teller_tell_1 (C_Teller_begin n M) cV_Teller_33 cd_Teller_begin dn_Teller_begin rfl (by decide) (Nat.le_of_ble_eq_true rfl) (Nat.le_of_ble_eq_true rfl) nr_U sx_3 (by decide) rfl (fun r1 M2 => ?_)
  refine j_iconst (pc := 4) d_Teller_tell_4 k_i_0 ?_
  refine j_istore_n (pc := 5) d_Teller_tell_5 rfl (by decide) rfl ?_
  refine j_lv [1, 0] rfl ?_
  refine X_Teller_tell_L6_ok  (fun y7 M8 => ?_) n 0 M2
  refine j_aload_n (pc := 48) (q := 0) d_Teller_tell_48 rfl rfl ?_
  refine j_callV0 (pc := 49) d_Teller_tell_49 (C_Teller_lookBack n M8) cV_Teller_54 cd_Teller_lookBack dn_Teller_lookBack rfl (by decide) (Nat.le_of_ble_eq_true rfl) (Nat.le_of_ble_eq_true rfl) nr_U sx_3 (by decide) rfl (fun r9 M10 => ?_)
  refine j_aload_n (pc := 52) (q := 0) d_Teller_tell_52 rfl rfl ?_
  refine j_getI (pc := 53) d_Teller_tell_53 fl_Teller_45 sx_3 (by decide) rfl ?_
  refine j_if_ne (pc := 56) (tgt := 63) d_Teller_tell_56 (by decide) (fun _ => ?_) (fun _ => ?_)
  · refine j_bipush (pc := 63) d_Teller_tell_63 k_b_m10 ?_
    refine j_aload_n (pc := 65) (q := 0) d_Teller_tell_65 rfl rfl ?_
    refine j_getI (pc := 66) d_Teller_tell_66 fl_Teller_57 sx_3 (by decide) rfl ?_
    refine j_isub (pc := 69) d_Teller_tell_69 ?_
    exact j_ireturn (pc := 70) d_Teller_tell_70 rfl
  · refine j_iload_n (pc := 59) (q := 1) d_Teller_tell_59 rfl rfl ?_
    refine j_goto (pc := 60) (tgt := 70) d_Teller_tell_60 (by decide) ?_
    exact j_ireturn (pc := 70) d_Teller_tell_70 rfl

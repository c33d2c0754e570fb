-- Model.pairOf (II)I
def mt_Model_pairOf : Mt := ("ShakeHandsModel", b_Model_pairOf, 2, some .int, 2, SHm)
theorem d_Model_pairOf_0 : decode b_Model_pairOf 0 = .ok (.iload_n 0, 1) := by decide +kernel
theorem d_Model_pairOf_1 : decode b_Model_pairOf 1 = .ok (.iload_n 1, 1) := by decide +kernel
theorem d_Model_pairOf_2 : decode b_Model_pairOf 2 = .ok (.if_icmp .ge 15, 3) := by decide +kernel
theorem d_Model_pairOf_5 : decode b_Model_pairOf 5 = .ok (.iload_n 1, 1) := by decide +kernel
theorem d_Model_pairOf_6 : decode b_Model_pairOf 6 = .ok (.iload_n 1, 1) := by decide +kernel
theorem d_Model_pairOf_7 : decode b_Model_pairOf 7 = .ok (.iconst 1, 1) := by decide +kernel
theorem d_Model_pairOf_8 : decode b_Model_pairOf 8 = .ok (.isub, 1) := by decide +kernel
theorem d_Model_pairOf_9 : decode b_Model_pairOf 9 = .ok (.imul, 1) := by decide +kernel
theorem d_Model_pairOf_10 : decode b_Model_pairOf 10 = .ok (.iconst 2, 1) := by decide +kernel
theorem d_Model_pairOf_11 : decode b_Model_pairOf 11 = .ok (.idiv, 1) := by decide +kernel
theorem d_Model_pairOf_12 : decode b_Model_pairOf 12 = .ok (.iload_n 0, 1) := by decide +kernel
theorem d_Model_pairOf_13 : decode b_Model_pairOf 13 = .ok (.iadd, 1) := by decide +kernel
theorem d_Model_pairOf_14 : decode b_Model_pairOf 14 = .ok (.goto 12, 3) := by decide +kernel
theorem d_Model_pairOf_17 : decode b_Model_pairOf 17 = .ok (.iload_n 0, 1) := by decide +kernel
theorem d_Model_pairOf_18 : decode b_Model_pairOf 18 = .ok (.iload_n 0, 1) := by decide +kernel
theorem d_Model_pairOf_19 : decode b_Model_pairOf 19 = .ok (.iconst 1, 1) := by decide +kernel
theorem d_Model_pairOf_20 : decode b_Model_pairOf 20 = .ok (.isub, 1) := by decide +kernel
theorem d_Model_pairOf_21 : decode b_Model_pairOf 21 = .ok (.imul, 1) := by decide +kernel
theorem d_Model_pairOf_22 : decode b_Model_pairOf 22 = .ok (.iconst 2, 1) := by decide +kernel
theorem d_Model_pairOf_23 : decode b_Model_pairOf 23 = .ok (.idiv, 1) := by decide +kernel
theorem d_Model_pairOf_24 : decode b_Model_pairOf 24 = .ok (.iload_n 1, 1) := by decide +kernel
theorem d_Model_pairOf_25 : decode b_Model_pairOf 25 = .ok (.iadd, 1) := by decide +kernel
theorem d_Model_pairOf_26 : decode b_Model_pairOf 26 = .ok (.ireturn, 1) := by decide +kernel
def X_Model_pairOf (n : Nat) (p0 : Int32) (p1 : Int32) (M : Mem) : Option (Int32 × Mem) :=
  (if p1 ≤ p0 then
    (if 2 = 0 then none else
      some ((((p0 * (p0 - 1)) / 2) + p1), M))
    else
    (if 2 = 0 then none else
      some ((((p1 * (p1 - 1)) / 2) + p0), M)))
set_option maxRecDepth 20000 in
set_option maxHeartbeats 4000000 in
theorem C_Model_pairOf (n : Nat)   (p0 : Int32) (p1 : Int32) (M : Mem) : Ct y_Model_pairOf mt_Model_pairOf wI [Value.int p0, Value.int p1] M (X_Model_pairOf n p0 p1 M) := by
  refine ct_of (by decide +kernel) rfl (Nat.le_of_ble_eq_true rfl) ?_
  show J _ _ _ [(0, Value.int p0), (1, Value.int p1)] _ _ _
  unfold X_Model_pairOf
  refine j_iload_n (pc := 0) (q := 0) d_Model_pairOf_0 rfl rfl ?_
  refine j_iload_n (pc := 1) (q := 1) d_Model_pairOf_1 rfl rfl ?_
  refine j_icmp_ge (pc := 2) (tgt := 17) d_Model_pairOf_2 (by decide) (fun _ => ?_) (fun _ => ?_)
  · refine j_iload_n (pc := 17) (q := 0) d_Model_pairOf_17 rfl rfl ?_
    refine j_iload_n (pc := 18) (q := 0) d_Model_pairOf_18 rfl rfl ?_
    refine j_iconst (pc := 19) d_Model_pairOf_19 k_i_1 ?_
    refine j_isub (pc := 20) d_Model_pairOf_20 ?_
    refine j_imul (pc := 21) d_Model_pairOf_21 ?_
    refine j_iconst (pc := 22) d_Model_pairOf_22 k_i_2 ?_
    refine j_idiv (pc := 23) d_Model_pairOf_23 (fun _ => ?_)
    refine j_iload_n (pc := 24) (q := 1) d_Model_pairOf_24 rfl rfl ?_
    refine j_iadd (pc := 25) d_Model_pairOf_25 ?_
    exact j_ireturn (pc := 26) d_Model_pairOf_26 rfl
  · refine j_iload_n (pc := 5) (q := 1) d_Model_pairOf_5 rfl rfl ?_
    refine j_iload_n (pc := 6) (q := 1) d_Model_pairOf_6 rfl rfl ?_
    refine j_iconst (pc := 7) d_Model_pairOf_7 k_i_1 ?_
    refine j_isub (pc := 8) d_Model_pairOf_8 ?_
    refine j_imul (pc := 9) d_Model_pairOf_9 ?_
    refine j_iconst (pc := 10) d_Model_pairOf_10 k_i_2 ?_
    refine j_idiv (pc := 11) d_Model_pairOf_11 (fun _ => ?_)
    refine j_iload_n (pc := 12) (q := 0) d_Model_pairOf_12 rfl rfl ?_
    refine j_iadd (pc := 13) d_Model_pairOf_13 ?_
    refine j_goto (pc := 14) (tgt := 26) d_Model_pairOf_14 (by decide) ?_
    exact j_ireturn (pc := 26) d_Model_pairOf_26 rfl
-- Model.firstDraft ()V
def mt_Model_firstDraft : Mt := ("ShakeHandsModel", b_Model_firstDraft, 2, none, 2, SHm)
theorem d_Model_firstDraft_0 : decode b_Model_firstDraft 0 = .ok (.aload_n 0, 1) := by decide +kernel
theorem d_Model_firstDraft_1 : decode b_Model_firstDraft 1 = .ok (.iconst 3, 1) := by decide +kernel
theorem d_Model_firstDraft_2 : decode b_Model_firstDraft 2 = .ok (.putfield 97, 3) := by decide +kernel
theorem d_Model_firstDraft_5 : decode b_Model_firstDraft 5 = .ok (.aload_n 0, 1) := by decide +kernel
theorem d_Model_firstDraft_6 : decode b_Model_firstDraft 6 = .ok (.bipush 9, 2) := by decide +kernel
theorem d_Model_firstDraft_8 : decode b_Model_firstDraft 8 = .ok (.putfield 101, 3) := by decide +kernel
theorem d_Model_firstDraft_11 : decode b_Model_firstDraft 11 = .ok (.aload_n 0, 1) := by decide +kernel
theorem d_Model_firstDraft_12 : decode b_Model_firstDraft 12 = .ok (.iconst 0, 1) := by decide +kernel
theorem d_Model_firstDraft_13 : decode b_Model_firstDraft 13 = .ok (.putfield 104, 3) := by decide +kernel
theorem d_Model_firstDraft_16 : decode b_Model_firstDraft 16 = .ok (.aload_n 0, 1) := by decide +kernel
theorem d_Model_firstDraft_17 : decode b_Model_firstDraft 17 = .ok (.iconst 0, 1) := by decide +kernel
theorem d_Model_firstDraft_18 : decode b_Model_firstDraft 18 = .ok (.putfield 107, 3) := by decide +kernel
theorem d_Model_firstDraft_21 : decode b_Model_firstDraft 21 = .ok (.aload_n 0, 1) := by decide +kernel
theorem d_Model_firstDraft_22 : decode b_Model_firstDraft 22 = .ok (.iconst 0, 1) := by decide +kernel
theorem d_Model_firstDraft_23 : decode b_Model_firstDraft 23 = .ok (.putfield 110, 3) := by decide +kernel
theorem d_Model_firstDraft_26 : decode b_Model_firstDraft 26 = .ok (.aload_n 0, 1) := by decide +kernel
theorem d_Model_firstDraft_27 : decode b_Model_firstDraft 27 = .ok (.iconst 0, 1) := by decide +kernel
theorem d_Model_firstDraft_28 : decode b_Model_firstDraft 28 = .ok (.putfield 113, 3) := by decide +kernel
theorem d_Model_firstDraft_31 : decode b_Model_firstDraft 31 = .ok (.aload_n 0, 1) := by decide +kernel
theorem d_Model_firstDraft_32 : decode b_Model_firstDraft 32 = .ok (.iconst 0, 1) := by decide +kernel
theorem d_Model_firstDraft_33 : decode b_Model_firstDraft 33 = .ok (.putfield 116, 3) := by decide +kernel
theorem d_Model_firstDraft_36 : decode b_Model_firstDraft 36 = .ok (.iconst 0, 1) := by decide +kernel
theorem d_Model_firstDraft_37 : decode b_Model_firstDraft 37 = .ok (.istore_n 1, 1) := by decide +kernel
theorem d_Model_firstDraft_38 : decode b_Model_firstDraft 38 = .ok (.iload_n 1, 1) := by decide +kernel
theorem d_Model_firstDraft_39 : decode b_Model_firstDraft 39 = .ok (.bipush 60, 2) := by decide +kernel
theorem d_Model_firstDraft_41 : decode b_Model_firstDraft 41 = .ok (.if_icmp .ge 16, 3) := by decide +kernel
theorem d_Model_firstDraft_44 : decode b_Model_firstDraft 44 = .ok (.aload_n 0, 1) := by decide +kernel
theorem d_Model_firstDraft_45 : decode b_Model_firstDraft 45 = .ok (.getfield 41, 3) := by decide +kernel
theorem d_Model_firstDraft_48 : decode b_Model_firstDraft 48 = .ok (.iload_n 1, 1) := by decide +kernel
theorem d_Model_firstDraft_49 : decode b_Model_firstDraft 49 = .ok (.iconst 0, 1) := by decide +kernel
theorem d_Model_firstDraft_50 : decode b_Model_firstDraft 50 = .ok (.iastore, 1) := by decide +kernel
theorem d_Model_firstDraft_51 : decode b_Model_firstDraft 51 = .ok (.iinc 1 1, 3) := by decide +kernel
theorem d_Model_firstDraft_54 : decode b_Model_firstDraft 54 = .ok (.goto (-16), 3) := by decide +kernel
theorem d_Model_firstDraft_57 : decode b_Model_firstDraft 57 = .ok (.iconst 0, 1) := by decide +kernel
theorem d_Model_firstDraft_58 : decode b_Model_firstDraft 58 = .ok (.istore_n 1, 1) := by decide +kernel
theorem d_Model_firstDraft_59 : decode b_Model_firstDraft 59 = .ok (.iload_n 1, 1) := by decide +kernel
theorem d_Model_firstDraft_60 : decode b_Model_firstDraft 60 = .ok (.bipush 6, 2) := by decide +kernel
theorem d_Model_firstDraft_62 : decode b_Model_firstDraft 62 = .ok (.if_icmp .ge 23, 3) := by decide +kernel
theorem d_Model_firstDraft_65 : decode b_Model_firstDraft 65 = .ok (.aload_n 0, 1) := by decide +kernel
theorem d_Model_firstDraft_66 : decode b_Model_firstDraft 66 = .ok (.getfield 44, 3) := by decide +kernel
theorem d_Model_firstDraft_69 : decode b_Model_firstDraft 69 = .ok (.iload_n 1, 1) := by decide +kernel
theorem d_Model_firstDraft_70 : decode b_Model_firstDraft 70 = .ok (.iconst 0, 1) := by decide +kernel
theorem d_Model_firstDraft_71 : decode b_Model_firstDraft 71 = .ok (.bastore, 1) := by decide +kernel
theorem d_Model_firstDraft_72 : decode b_Model_firstDraft 72 = .ok (.aload_n 0, 1) := by decide +kernel
theorem d_Model_firstDraft_73 : decode b_Model_firstDraft 73 = .ok (.getfield 47, 3) := by decide +kernel
theorem d_Model_firstDraft_76 : decode b_Model_firstDraft 76 = .ok (.iload_n 1, 1) := by decide +kernel
theorem d_Model_firstDraft_77 : decode b_Model_firstDraft 77 = .ok (.iconst 0, 1) := by decide +kernel
theorem d_Model_firstDraft_78 : decode b_Model_firstDraft 78 = .ok (.bastore, 1) := by decide +kernel
theorem d_Model_firstDraft_79 : decode b_Model_firstDraft 79 = .ok (.iinc 1 1, 3) := by decide +kernel
theorem d_Model_firstDraft_82 : decode b_Model_firstDraft 82 = .ok (.goto (-23), 3) := by decide +kernel
theorem d_Model_firstDraft_85 : decode b_Model_firstDraft 85 = .ok (.return_, 1) := by decide +kernel
def X_Model_firstDraft_L38 (n : Nat) (kx57 : Mem → Option (Unit × Mem)) : Nat → Int32 → Mem → Option (Unit × Mem)
    | 0, _, _ => none
    | m + 1, v1, M => (if 60 ≤ v1 then
    kx57 M
    else
    gd v1 60 (
      X_Model_firstDraft_L38 n kx57 m (v1 + 1) (si M 11 (v1.toNatClampNeg) 0)))
def X_Model_firstDraft_L59 (n : Nat) : Nat → Int32 → Mem → Option (Unit × Mem)
    | 0, _, _ => none
    | m + 1, v1, M => (if 6 ≤ v1 then
    some ((), M)
    else
    gd v1 6 (
      gd v1 6 (
        X_Model_firstDraft_L59 n m (v1 + 1) (si (si M 12 (v1.toNatClampNeg) (vp_nar .boolean 0)) 13 (v1.toNatClampNeg) (vp_nar .boolean 0)))))
def X_Model_firstDraft (n : Nat) (M : Mem) : Option (Unit × Mem) :=
  X_Model_firstDraft_L38 n (fun M1 => X_Model_firstDraft_L59 n n 0 M1) n 0 (si (si (si (si (si (si (si M 0 12 3) 0 13 9) 0 14 0) 0 15 0) 0 16 0) 0 17 0) 0 24 0)
set_option maxRecDepth 20000 in
set_option maxHeartbeats 4000000 in
theorem X_Model_firstDraft_L38_ok {n : Nat} {kx57 : Mem → Option (Unit × Mem)} (hkx57 : ∀ (M : Mem), J (mt_Model_firstDraft) wU 57 [(0, Value.ref 0)] [] M (kx57 M)) : ∀ (m : Nat) (v1 : Int32) (M : Mem), J (mt_Model_firstDraft) wU 38 [(0, Value.ref 0), (1, Value.int v1)] [] M (X_Model_firstDraft_L38 n kx57 m v1 M) := by
  intro m
  induction m with
  | zero => intro _ _; exact j_none
  | succ m ih =>
    intro v1 M
    show J _ _ _ _ _ _ ((if 60 ≤ v1 then
kx57 M
else
gd v1 60 (
X_Model_firstDraft_L38 n kx57 m (v1 + 1) (si M 11 (v1.toNatClampNeg) 0))))
    refine j_iload_n (pc := 38) (q := 1) d_Model_firstDraft_38 rfl rfl ?_
    refine j_bipush (pc := 39) d_Model_firstDraft_39 k_b_60 ?_
    refine j_icmp_ge (pc := 41) (tgt := 57) d_Model_firstDraft_41 (by decide) (fun _ => ?_) (fun _ => ?_)
    · refine j_lv [0] rfl ?_
      exact hkx57 M
    · refine j_aload_n (pc := 44) (q := 0) d_Model_firstDraft_44 rfl rfl ?_
      refine j_getA (pc := 45) d_Model_firstDraft_45 fl_Model_41 sm_0 (by decide) rfl ?_
      refine j_iload_n (pc := 48) (q := 1) d_Model_firstDraft_48 rfl rfl ?_
      refine j_iconst (pc := 49) d_Model_firstDraft_49 k_i_0 ?_
      refine j_iast (pc := 50) d_Model_firstDraft_50 sm_11 (fun _ => ?_)
      refine j_iinc (pc := 51) (q := 1) d_Model_firstDraft_51 rfl (congrArg (v1 + ·) k_i_1) (by decide) rfl ?_
      refine j_goto (pc := 54) (tgt := 38) d_Model_firstDraft_54 (by decide) ?_
      refine j_lv [1, 0] rfl ?_
      exact ih (v1 + 1) (si M 11 (v1.toNatClampNeg) 0)
set_option maxRecDepth 20000 in
set_option maxHeartbeats 4000000 in
theorem X_Model_firstDraft_L59_ok {n : Nat} : ∀ (m : Nat) (v1 : Int32) (M : Mem), J (mt_Model_firstDraft) wU 59 [(0, Value.ref 0), (1, Value.int v1)] [] M (X_Model_firstDraft_L59 n m v1 M) := by
  intro m
  induction m with
  | zero => intro _ _; exact j_none
  | succ m ih =>
    intro v1 M
    show J _ _ _ _ _ _ ((if 6 ≤ v1 then
some ((), M)
else
gd v1 6 (
gd v1 6 (
X_Model_firstDraft_L59 n m (v1 + 1) (si (si M 12 (v1.toNatClampNeg) (vp_nar .boolean 0)) 13 (v1.toNatClampNeg) (vp_nar .boolean 0))))))
    refine j_iload_n (pc := 59) (q := 1) d_Model_firstDraft_59 rfl rfl ?_
    refine j_bipush (pc := 60) d_Model_firstDraft_60 k_b_6 ?_
    refine j_icmp_ge (pc := 62) (tgt := 85) d_Model_firstDraft_62 (by decide) (fun _ => ?_) (fun _ => ?_)
    · exact j_return (pc := 85) d_Model_firstDraft_85 rfl
    · refine j_aload_n (pc := 65) (q := 0) d_Model_firstDraft_65 rfl rfl ?_
      refine j_getA (pc := 66) d_Model_firstDraft_66 fl_Model_44 sm_0 (by decide) rfl ?_
      refine j_iload_n (pc := 69) (q := 1) d_Model_firstDraft_69 rfl rfl ?_
      refine j_iconst (pc := 70) d_Model_firstDraft_70 k_i_0 ?_
      refine j_zast (pc := 71) d_Model_firstDraft_71 sm_12 (fun _ => ?_)
      refine j_aload_n (pc := 72) (q := 0) d_Model_firstDraft_72 rfl rfl ?_
      refine j_getA (pc := 73) d_Model_firstDraft_73 fl_Model_47 sm_0 (by decide) rfl ?_
      refine j_iload_n (pc := 76) (q := 1) d_Model_firstDraft_76 rfl rfl ?_
      refine j_iconst (pc := 77) d_Model_firstDraft_77 k_i_0 ?_
      refine j_zast (pc := 78) d_Model_firstDraft_78 sm_13 (fun _ => ?_)
      refine j_iinc (pc := 79) (q := 1) d_Model_firstDraft_79 rfl (congrArg (v1 + ·) k_i_1) (by decide) rfl ?_
      refine j_goto (pc := 82) (tgt := 59) d_Model_firstDraft_82 (by decide) ?_
      refine j_lv [1, 0] rfl ?_
      exact ih (v1 + 1) (si (si M 12 (v1.toNatClampNeg) (vp_nar .boolean 0)) 13 (v1.toNatClampNeg) (vp_nar .boolean 0))
set_option maxRecDepth 20000 in
set_option maxHeartbeats 4000000 in
theorem C_Model_firstDraft (n : Nat)    (M : Mem) : Ct y_Model_firstDraft mt_Model_firstDraft wU [Value.ref 0] M (X_Model_firstDraft n M) := by
  refine ct_of (by decide +kernel) rfl (Nat.le_of_ble_eq_true rfl) ?_
  show J _ _ _ [(0, Value.ref 0)] _ _ _
  unfold X_Model_firstDraft
  refine j_aload_n (pc := 0) (q := 0) d_Model_firstDraft_0 rfl rfl ?_
  refine j_iconst (pc := 1) d_Model_firstDraft_1 k_i_3 ?_
  refine j_putI (pc := 2) d_Model_firstDraft_2 fl_Model_97 rfl sm_0 (by decide) rfl ?_
  refine j_aload_n (pc := 5) (q := 0) d_Model_firstDraft_5 rfl rfl ?_
  refine j_bipush (pc := 6) d_Model_firstDraft_6 k_b_9 ?_
  refine j_putI (pc := 8) d_Model_firstDraft_8 fl_Model_101 rfl sm_0 (by decide) rfl ?_
  refine j_aload_n (pc := 11) (q := 0) d_Model_firstDraft_11 rfl rfl ?_
  refine j_iconst (pc := 12) d_Model_firstDraft_12 k_i_0 ?_
  refine j_putI (pc := 13) d_Model_firstDraft_13 fl_Model_104 rfl sm_0 (by decide) rfl ?_
  refine j_aload_n (pc := 16) (q := 0) d_Model_firstDraft_16 rfl rfl ?_
  refine j_iconst (pc := 17) d_Model_firstDraft_17 k_i_0 ?_
  refine j_putI (pc := 18) d_Model_firstDraft_18 fl_Model_107 rfl sm_0 (by decide) rfl ?_
  refine j_aload_n (pc := 21) (q := 0) d_Model_firstDraft_21 rfl rfl ?_
  refine j_iconst (pc := 22) d_Model_firstDraft_22 k_i_0 ?_
  refine j_putI (pc := 23) d_Model_firstDraft_23 fl_Model_110 rfl sm_0 (by decide) rfl ?_
  refine j_aload_n (pc := 26) (q := 0) d_Model_firstDraft_26 rfl rfl ?_
  refine j_iconst (pc := 27) d_Model_firstDraft_27 k_i_0 ?_
  refine j_putI (pc := 28) d_Model_firstDraft_28 fl_Model_113 rfl sm_0 (by decide) rfl ?_
  refine j_aload_n (pc := 31) (q := 0) d_Model_firstDraft_31 rfl rfl ?_
  refine j_iconst (pc := 32) d_Model_firstDraft_32 k_i_0 ?_
  refine j_putI (pc := 33) d_Model_firstDraft_33 fl_Model_116 rfl sm_0 (by decide) rfl ?_
  refine j_iconst (pc := 36) d_Model_firstDraft_36 k_i_0 ?_
  refine j_istore_n (pc := 37) d_Model_firstDraft_37 rfl (by decide) rfl ?_
  refine j_lv [1, 0] rfl ?_
  refine X_Model_firstDraft_L38_ok  (fun M1 => ?_) n 0 (si (si (si (si (si (si (si M 0 12 3) 0 13 9) 0 14 0) 0 15 0) 0 16 0) 0 17 0) 0 24 0)
  refine j_iconst (pc := 57) d_Model_firstDraft_57 k_i_0 ?_
  refine j_istore_n (pc := 58) d_Model_firstDraft_58 rfl (by decide) rfl ?_
  refine j_lv [1, 0] rfl ?_
  exact X_Model_firstDraft_L59_ok   n 0 M1
-- Model.flag (Z)I
def mt_Model_flag : Mt := ("ShakeHandsModel", b_Model_flag, 1, some .int, 2, SHm)
theorem d_Model_flag_0 : decode b_Model_flag 0 = .ok (.iload_n 0, 1) := by decide +kernel
theorem d_Model_flag_1 : decode b_Model_flag 1 = .ok (.ifCond .eq 7, 3) := by decide +kernel
theorem d_Model_flag_4 : decode b_Model_flag 4 = .ok (.iconst 1, 1) := by decide +kernel
theorem d_Model_flag_5 : decode b_Model_flag 5 = .ok (.goto 4, 3) := by decide +kernel
theorem d_Model_flag_8 : decode b_Model_flag 8 = .ok (.iconst 0, 1) := by decide +kernel
theorem d_Model_flag_9 : decode b_Model_flag 9 = .ok (.ireturn, 1) := by decide +kernel
def X_Model_flag (n : Nat) (p0 : Int32) (M : Mem) : Option (Int32 × Mem) :=
  (if p0 = 0 then
    some (0, M)
    else
    some (1, M))
set_option maxRecDepth 20000 in
set_option maxHeartbeats 4000000 in
theorem C_Model_flag (n : Nat)   (p0 : Int32) (M : Mem) : Ct y_Model_flag mt_Model_flag wI [Value.int p0] M (X_Model_flag n p0 M) := by
  refine ct_of (by decide +kernel) rfl (Nat.le_of_ble_eq_true rfl) ?_
  show J _ _ _ [(0, Value.int p0)] _ _ _
  unfold X_Model_flag
  refine j_iload_n (pc := 0) (q := 0) d_Model_flag_0 rfl rfl ?_
  refine j_if_eq (pc := 1) (tgt := 8) d_Model_flag_1 (by decide) (fun _ => ?_) (fun _ => ?_)
  · refine j_iconst (pc := 8) d_Model_flag_8 k_i_0 ?_
    exact j_ireturn (pc := 9) d_Model_flag_9 rfl
  · refine j_iconst (pc := 4) d_Model_flag_4 k_i_1 ?_
    refine j_goto (pc := 5) (tgt := 9) d_Model_flag_5 (by decide) ?_
    exact j_ireturn (pc := 9) d_Model_flag_9 rfl
-- Model.keepDraft ()V
def mt_Model_keepDraft : Mt := ("ShakeHandsModel", b_Model_keepDraft, 2, none, 3, SHm)
theorem d_Model_keepDraft_0 : decode b_Model_keepDraft 0 = .ok (.aload_n 0, 1) := by decide +kernel
theorem d_Model_keepDraft_1 : decode b_Model_keepDraft 1 = .ok (.aload_n 0, 1) := by decide +kernel
theorem d_Model_keepDraft_2 : decode b_Model_keepDraft 2 = .ok (.getfield 97, 3) := by decide +kernel
theorem d_Model_keepDraft_5 : decode b_Model_keepDraft 5 = .ok (.putfield 119, 3) := by decide +kernel
theorem d_Model_keepDraft_8 : decode b_Model_keepDraft 8 = .ok (.aload_n 0, 1) := by decide +kernel
theorem d_Model_keepDraft_9 : decode b_Model_keepDraft 9 = .ok (.aload_n 0, 1) := by decide +kernel
theorem d_Model_keepDraft_10 : decode b_Model_keepDraft 10 = .ok (.getfield 101, 3) := by decide +kernel
theorem d_Model_keepDraft_13 : decode b_Model_keepDraft 13 = .ok (.putfield 122, 3) := by decide +kernel
theorem d_Model_keepDraft_16 : decode b_Model_keepDraft 16 = .ok (.aload_n 0, 1) := by decide +kernel
theorem d_Model_keepDraft_17 : decode b_Model_keepDraft 17 = .ok (.aload_n 0, 1) := by decide +kernel
theorem d_Model_keepDraft_18 : decode b_Model_keepDraft 18 = .ok (.getfield 104, 3) := by decide +kernel
theorem d_Model_keepDraft_21 : decode b_Model_keepDraft 21 = .ok (.putfield 125, 3) := by decide +kernel
theorem d_Model_keepDraft_24 : decode b_Model_keepDraft 24 = .ok (.aload_n 0, 1) := by decide +kernel
theorem d_Model_keepDraft_25 : decode b_Model_keepDraft 25 = .ok (.aload_n 0, 1) := by decide +kernel
theorem d_Model_keepDraft_26 : decode b_Model_keepDraft 26 = .ok (.getfield 107, 3) := by decide +kernel
theorem d_Model_keepDraft_29 : decode b_Model_keepDraft 29 = .ok (.putfield 128, 3) := by decide +kernel
theorem d_Model_keepDraft_32 : decode b_Model_keepDraft 32 = .ok (.aload_n 0, 1) := by decide +kernel
theorem d_Model_keepDraft_33 : decode b_Model_keepDraft 33 = .ok (.aload_n 0, 1) := by decide +kernel
theorem d_Model_keepDraft_34 : decode b_Model_keepDraft 34 = .ok (.getfield 110, 3) := by decide +kernel
theorem d_Model_keepDraft_37 : decode b_Model_keepDraft 37 = .ok (.putfield 131, 3) := by decide +kernel
theorem d_Model_keepDraft_40 : decode b_Model_keepDraft 40 = .ok (.iconst 0, 1) := by decide +kernel
theorem d_Model_keepDraft_41 : decode b_Model_keepDraft 41 = .ok (.istore_n 1, 1) := by decide +kernel
theorem d_Model_keepDraft_42 : decode b_Model_keepDraft 42 = .ok (.iload_n 1, 1) := by decide +kernel
theorem d_Model_keepDraft_43 : decode b_Model_keepDraft 43 = .ok (.bipush 12, 2) := by decide +kernel
theorem d_Model_keepDraft_45 : decode b_Model_keepDraft 45 = .ok (.if_icmp .ge 21, 3) := by decide +kernel
theorem d_Model_keepDraft_48 : decode b_Model_keepDraft 48 = .ok (.aload_n 0, 1) := by decide +kernel
theorem d_Model_keepDraft_49 : decode b_Model_keepDraft 49 = .ok (.getfield 17, 3) := by decide +kernel
theorem d_Model_keepDraft_52 : decode b_Model_keepDraft 52 = .ok (.iload_n 1, 1) := by decide +kernel
theorem d_Model_keepDraft_53 : decode b_Model_keepDraft 53 = .ok (.aload_n 0, 1) := by decide +kernel
theorem d_Model_keepDraft_54 : decode b_Model_keepDraft 54 = .ok (.getfield 32, 3) := by decide +kernel
theorem d_Model_keepDraft_57 : decode b_Model_keepDraft 57 = .ok (.iload_n 1, 1) := by decide +kernel
theorem d_Model_keepDraft_58 : decode b_Model_keepDraft 58 = .ok (.iaload, 1) := by decide +kernel
theorem d_Model_keepDraft_59 : decode b_Model_keepDraft 59 = .ok (.iastore, 1) := by decide +kernel
theorem d_Model_keepDraft_60 : decode b_Model_keepDraft 60 = .ok (.iinc 1 1, 3) := by decide +kernel
theorem d_Model_keepDraft_63 : decode b_Model_keepDraft 63 = .ok (.goto (-21), 3) := by decide +kernel
theorem d_Model_keepDraft_66 : decode b_Model_keepDraft 66 = .ok (.iconst 0, 1) := by decide +kernel
theorem d_Model_keepDraft_67 : decode b_Model_keepDraft 67 = .ok (.istore_n 1, 1) := by decide +kernel
theorem d_Model_keepDraft_68 : decode b_Model_keepDraft 68 = .ok (.iload_n 1, 1) := by decide +kernel
theorem d_Model_keepDraft_69 : decode b_Model_keepDraft 69 = .ok (.bipush 16, 2) := by decide +kernel
theorem d_Model_keepDraft_71 : decode b_Model_keepDraft 71 = .ok (.if_icmp .ge 21, 3) := by decide +kernel
theorem d_Model_keepDraft_74 : decode b_Model_keepDraft 74 = .ok (.aload_n 0, 1) := by decide +kernel
theorem d_Model_keepDraft_75 : decode b_Model_keepDraft 75 = .ok (.getfield 20, 3) := by decide +kernel
theorem d_Model_keepDraft_78 : decode b_Model_keepDraft 78 = .ok (.iload_n 1, 1) := by decide +kernel
theorem d_Model_keepDraft_79 : decode b_Model_keepDraft 79 = .ok (.aload_n 0, 1) := by decide +kernel
theorem d_Model_keepDraft_80 : decode b_Model_keepDraft 80 = .ok (.getfield 35, 3) := by decide +kernel
theorem d_Model_keepDraft_83 : decode b_Model_keepDraft 83 = .ok (.iload_n 1, 1) := by decide +kernel
theorem d_Model_keepDraft_84 : decode b_Model_keepDraft 84 = .ok (.iaload, 1) := by decide +kernel
theorem d_Model_keepDraft_85 : decode b_Model_keepDraft 85 = .ok (.iastore, 1) := by decide +kernel
theorem d_Model_keepDraft_86 : decode b_Model_keepDraft 86 = .ok (.iinc 1 1, 3) := by decide +kernel
theorem d_Model_keepDraft_89 : decode b_Model_keepDraft 89 = .ok (.goto (-21), 3) := by decide +kernel
theorem d_Model_keepDraft_92 : decode b_Model_keepDraft 92 = .ok (.iconst 0, 1) := by decide +kernel
theorem d_Model_keepDraft_93 : decode b_Model_keepDraft 93 = .ok (.istore_n 1, 1) := by decide +kernel
theorem d_Model_keepDraft_94 : decode b_Model_keepDraft 94 = .ok (.iload_n 1, 1) := by decide +kernel
theorem d_Model_keepDraft_95 : decode b_Model_keepDraft 95 = .ok (.bipush 8, 2) := by decide +kernel
theorem d_Model_keepDraft_97 : decode b_Model_keepDraft 97 = .ok (.if_icmp .ge 21, 3) := by decide +kernel
theorem d_Model_keepDraft_100 : decode b_Model_keepDraft 100 = .ok (.aload_n 0, 1) := by decide +kernel
theorem d_Model_keepDraft_101 : decode b_Model_keepDraft 101 = .ok (.getfield 23, 3) := by decide +kernel
theorem d_Model_keepDraft_104 : decode b_Model_keepDraft 104 = .ok (.iload_n 1, 1) := by decide +kernel
theorem d_Model_keepDraft_105 : decode b_Model_keepDraft 105 = .ok (.aload_n 0, 1) := by decide +kernel
theorem d_Model_keepDraft_106 : decode b_Model_keepDraft 106 = .ok (.getfield 38, 3) := by decide +kernel
theorem d_Model_keepDraft_109 : decode b_Model_keepDraft 109 = .ok (.iload_n 1, 1) := by decide +kernel
theorem d_Model_keepDraft_110 : decode b_Model_keepDraft 110 = .ok (.iaload, 1) := by decide +kernel
theorem d_Model_keepDraft_111 : decode b_Model_keepDraft 111 = .ok (.iastore, 1) := by decide +kernel
theorem d_Model_keepDraft_112 : decode b_Model_keepDraft 112 = .ok (.iinc 1 1, 3) := by decide +kernel
theorem d_Model_keepDraft_115 : decode b_Model_keepDraft 115 = .ok (.goto (-21), 3) := by decide +kernel
theorem d_Model_keepDraft_118 : decode b_Model_keepDraft 118 = .ok (.iconst 0, 1) := by decide +kernel
theorem d_Model_keepDraft_119 : decode b_Model_keepDraft 119 = .ok (.istore_n 1, 1) := by decide +kernel
theorem d_Model_keepDraft_120 : decode b_Model_keepDraft 120 = .ok (.iload_n 1, 1) := by decide +kernel
theorem d_Model_keepDraft_121 : decode b_Model_keepDraft 121 = .ok (.bipush 78, 2) := by decide +kernel
theorem d_Model_keepDraft_123 : decode b_Model_keepDraft 123 = .ok (.if_icmp .ge 52, 3) := by decide +kernel
theorem d_Model_keepDraft_126 : decode b_Model_keepDraft 126 = .ok (.aload_n 0, 1) := by decide +kernel
theorem d_Model_keepDraft_127 : decode b_Model_keepDraft 127 = .ok (.getfield 7, 3) := by decide +kernel
theorem d_Model_keepDraft_130 : decode b_Model_keepDraft 130 = .ok (.iload_n 1, 1) := by decide +kernel
theorem d_Model_keepDraft_131 : decode b_Model_keepDraft 131 = .ok (.iload_n 1, 1) := by decide +kernel
theorem d_Model_keepDraft_132 : decode b_Model_keepDraft 132 = .ok (.bipush 60, 2) := by decide +kernel
theorem d_Model_keepDraft_134 : decode b_Model_keepDraft 134 = .ok (.if_icmp .ge 12, 3) := by decide +kernel
theorem d_Model_keepDraft_137 : decode b_Model_keepDraft 137 = .ok (.aload_n 0, 1) := by decide +kernel
theorem d_Model_keepDraft_138 : decode b_Model_keepDraft 138 = .ok (.getfield 41, 3) := by decide +kernel
theorem d_Model_keepDraft_141 : decode b_Model_keepDraft 141 = .ok (.iload_n 1, 1) := by decide +kernel
theorem d_Model_keepDraft_142 : decode b_Model_keepDraft 142 = .ok (.iaload, 1) := by decide +kernel
theorem d_Model_keepDraft_143 : decode b_Model_keepDraft 143 = .ok (.goto 25, 3) := by decide +kernel
theorem d_Model_keepDraft_146 : decode b_Model_keepDraft 146 = .ok (.iload_n 1, 1) := by decide +kernel
theorem d_Model_keepDraft_147 : decode b_Model_keepDraft 147 = .ok (.bipush 66, 2) := by decide +kernel
theorem d_Model_keepDraft_149 : decode b_Model_keepDraft 149 = .ok (.if_icmp .ge 18, 3) := by decide +kernel
theorem d_Model_keepDraft_152 : decode b_Model_keepDraft 152 = .ok (.aload_n 0, 1) := by decide +kernel
theorem d_Model_keepDraft_153 : decode b_Model_keepDraft 153 = .ok (.getfield 44, 3) := by decide +kernel
theorem d_Model_keepDraft_156 : decode b_Model_keepDraft 156 = .ok (.iload_n 1, 1) := by decide +kernel
theorem d_Model_keepDraft_157 : decode b_Model_keepDraft 157 = .ok (.bipush 60, 2) := by decide +kernel
theorem d_Model_keepDraft_159 : decode b_Model_keepDraft 159 = .ok (.isub, 1) := by decide +kernel
theorem d_Model_keepDraft_160 : decode b_Model_keepDraft 160 = .ok (.baload, 1) := by decide +kernel
theorem d_Model_keepDraft_161 : decode b_Model_keepDraft 161 = .ok (.invokestatic 134, 3) := by decide +kernel
theorem d_Model_keepDraft_164 : decode b_Model_keepDraft 164 = .ok (.goto 4, 3) := by decide +kernel
theorem d_Model_keepDraft_167 : decode b_Model_keepDraft 167 = .ok (.iconst 0, 1) := by decide +kernel
theorem d_Model_keepDraft_168 : decode b_Model_keepDraft 168 = .ok (.iastore, 1) := by decide +kernel
theorem d_Model_keepDraft_169 : decode b_Model_keepDraft 169 = .ok (.iinc 1 1, 3) := by decide +kernel
theorem d_Model_keepDraft_172 : decode b_Model_keepDraft 172 = .ok (.goto (-52), 3) := by decide +kernel
theorem d_Model_keepDraft_175 : decode b_Model_keepDraft 175 = .ok (.aload_n 0, 1) := by decide +kernel
theorem d_Model_keepDraft_176 : decode b_Model_keepDraft 176 = .ok (.getfield 13, 3) := by decide +kernel
theorem d_Model_keepDraft_179 : decode b_Model_keepDraft 179 = .ok (.iconst 0, 1) := by decide +kernel
theorem d_Model_keepDraft_180 : decode b_Model_keepDraft 180 = .ok (.iconst 0, 1) := by decide +kernel
theorem d_Model_keepDraft_181 : decode b_Model_keepDraft 181 = .ok (.bastore, 1) := by decide +kernel
theorem d_Model_keepDraft_182 : decode b_Model_keepDraft 182 = .ok (.aload_n 0, 1) := by decide +kernel
theorem d_Model_keepDraft_183 : decode b_Model_keepDraft 183 = .ok (.getfield 13, 3) := by decide +kernel
theorem d_Model_keepDraft_186 : decode b_Model_keepDraft 186 = .ok (.iconst 1, 1) := by decide +kernel
theorem d_Model_keepDraft_187 : decode b_Model_keepDraft 187 = .ok (.iconst 0, 1) := by decide +kernel
theorem d_Model_keepDraft_188 : decode b_Model_keepDraft 188 = .ok (.bastore, 1) := by decide +kernel
theorem d_Model_keepDraft_189 : decode b_Model_keepDraft 189 = .ok (.return_, 1) := by decide +kernel
def X_Model_keepDraft_L42 (n : Nat) (kx66 : Mem → Option (Unit × Mem)) : Nat → Int32 → Mem → Option (Unit × Mem)
    | 0, _, _ => none
    | m + 1, v1, M => (if 12 ≤ v1 then
    kx66 M
    else
    gd v1 12 (
      gd v1 12 (
        X_Model_keepDraft_L42 n kx66 m (v1 + 1) (si M 3 (v1.toNatClampNeg) (M.1 8 v1.toNatClampNeg)))))
def X_Model_keepDraft_L68 (n : Nat) (kx92 : Mem → Option (Unit × Mem)) : Nat → Int32 → Mem → Option (Unit × Mem)
    | 0, _, _ => none
    | m + 1, v1, M => (if 16 ≤ v1 then
    kx92 M
    else
    gd v1 16 (
      gd v1 16 (
        X_Model_keepDraft_L68 n kx92 m (v1 + 1) (si M 4 (v1.toNatClampNeg) (M.1 9 v1.toNatClampNeg)))))
def X_Model_keepDraft_L94 (n : Nat) (kx118 : Mem → Option (Unit × Mem)) : Nat → Int32 → Mem → Option (Unit × Mem)
    | 0, _, _ => none
    | m + 1, v1, M => (if 8 ≤ v1 then
    kx118 M
    else
    gd v1 8 (
      gd v1 8 (
        X_Model_keepDraft_L94 n kx118 m (v1 + 1) (si M 5 (v1.toNatClampNeg) (M.1 10 v1.toNatClampNeg)))))
def X_Model_keepDraft_L120 (n : Nat) (kx175 : Mem → Option (Unit × Mem)) : Nat → Int32 → Mem → Option (Unit × Mem)
    | 0, _, _ => none
    | m + 1, v1, M => (if 78 ≤ v1 then
    kx175 M
    else
    nm (fun (u8 : Int32) (M9 : Mem) => (gd v1 234 (
          X_Model_keepDraft_L120 n kx175 m (v1 + 1) (si M9 1 (v1.toNatClampNeg) u8)) : Option (Unit × Mem))) fun k168 =>
    (if 60 ≤ v1 then
      (if 66 ≤ v1 then
        k168 0 M
        else
        gd (v1 - 60) 6 (
          bd (X_Model_flag n (M.1 12 (v1 - 60).toNatClampNeg) M) fun r10 M11 =>
          k168 r10 M11))
      else
      gd v1 60 (
        k168 (M.1 11 v1.toNatClampNeg) M)))
def X_Model_keepDraft (n : Nat) (M : Mem) : Option (Unit × Mem) :=
  nm (si M 0 2 (M.1 0 12)) fun N1 =>
  nm (si N1 0 3 (N1.1 0 13)) fun N2 =>
  nm (si N2 0 4 (N2.1 0 14)) fun N3 =>
  nm (si N3 0 5 (N3.1 0 15)) fun N4 =>
  X_Model_keepDraft_L42 n (fun M5 => X_Model_keepDraft_L68 n (fun M6 => X_Model_keepDraft_L94 n (fun M7 => X_Model_keepDraft_L120 n (fun M12 => gd (0 : Int32) 2 (
            gd (1 : Int32) 2 (
              some ((), si (si M12 2 ((0 : Int32).toNatClampNeg) (vp_nar .boolean 0)) 2 ((1 : Int32).toNatClampNeg) (vp_nar .boolean 0))))) n 0 M7) n 0 M6) n 0 M5) n 0 (si N4 0 6 (N4.1 0 16))
set_option maxRecDepth 20000 in
set_option maxHeartbeats 4000000 in
theorem X_Model_keepDraft_L42_ok {n : Nat} {kx66 : Mem → Option (Unit × Mem)} (hkx66 : ∀ (M : Mem), J (mt_Model_keepDraft) wU 66 [(0, Value.ref 0)] [] M (kx66 M)) : ∀ (m : Nat) (v1 : Int32) (M : Mem), J (mt_Model_keepDraft) wU 42 [(0, Value.ref 0), (1, Value.int v1)] [] M (X_Model_keepDraft_L42 n kx66 m v1 M) := by
  intro m
  induction m with
  | zero => intro _ _; exact j_none
  | succ m ih =>
    intro v1 M
    show J _ _ _ _ _ _ ((if 12 ≤ v1 then
kx66 M
else
gd v1 12 (
gd v1 12 (
X_Model_keepDraft_L42 n kx66 m (v1 + 1) (si M 3 (v1.toNatClampNeg) (M.1 8 v1.toNatClampNeg))))))
    refine j_iload_n (pc := 42) (q := 1) d_Model_keepDraft_42 rfl rfl ?_
    refine j_bipush (pc := 43) d_Model_keepDraft_43 k_b_12 ?_
    refine j_icmp_ge (pc := 45) (tgt := 66) d_Model_keepDraft_45 (by decide) (fun _ => ?_) (fun _ => ?_)
    · refine j_lv [0] rfl ?_
      exact hkx66 M
    · refine j_aload_n (pc := 48) (q := 0) d_Model_keepDraft_48 rfl rfl ?_
      refine j_getA (pc := 49) d_Model_keepDraft_49 fl_Model_17 sm_0 (by decide) rfl ?_
      refine j_iload_n (pc := 52) (q := 1) d_Model_keepDraft_52 rfl rfl ?_
      refine j_aload_n (pc := 53) (q := 0) d_Model_keepDraft_53 rfl rfl ?_
      refine j_getA (pc := 54) d_Model_keepDraft_54 fl_Model_32 sm_0 (by decide) rfl ?_
      refine j_iload_n (pc := 57) (q := 1) d_Model_keepDraft_57 rfl rfl ?_
      refine j_iald (pc := 58) d_Model_keepDraft_58 sm_8 (fun _ => ?_)
      refine j_iast (pc := 59) d_Model_keepDraft_59 sm_3 (fun _ => ?_)
      refine j_iinc (pc := 60) (q := 1) d_Model_keepDraft_60 rfl (congrArg (v1 + ·) k_i_1) (by decide) rfl ?_
      refine j_goto (pc := 63) (tgt := 42) d_Model_keepDraft_63 (by decide) ?_
      refine j_lv [1, 0] rfl ?_
      exact ih (v1 + 1) (si M 3 (v1.toNatClampNeg) (M.1 8 v1.toNatClampNeg))
set_option maxRecDepth 20000 in
set_option maxHeartbeats 4000000 in
theorem X_Model_keepDraft_L68_ok {n : Nat} {kx92 : Mem → Option (Unit × Mem)} (hkx92 : ∀ (M : Mem), J (mt_Model_keepDraft) wU 92 [(0, Value.ref 0)] [] M (kx92 M)) : ∀ (m : Nat) (v1 : Int32) (M : Mem), J (mt_Model_keepDraft) wU 68 [(0, Value.ref 0), (1, Value.int v1)] [] M (X_Model_keepDraft_L68 n kx92 m v1 M) := by
  intro m
  induction m with
  | zero => intro _ _; exact j_none
  | succ m ih =>
    intro v1 M
    show J _ _ _ _ _ _ ((if 16 ≤ v1 then
kx92 M
else
gd v1 16 (
gd v1 16 (
X_Model_keepDraft_L68 n kx92 m (v1 + 1) (si M 4 (v1.toNatClampNeg) (M.1 9 v1.toNatClampNeg))))))
    refine j_iload_n (pc := 68) (q := 1) d_Model_keepDraft_68 rfl rfl ?_
    refine j_bipush (pc := 69) d_Model_keepDraft_69 k_b_16 ?_
    refine j_icmp_ge (pc := 71) (tgt := 92) d_Model_keepDraft_71 (by decide) (fun _ => ?_) (fun _ => ?_)
    · refine j_lv [0] rfl ?_
      exact hkx92 M
    · refine j_aload_n (pc := 74) (q := 0) d_Model_keepDraft_74 rfl rfl ?_
      refine j_getA (pc := 75) d_Model_keepDraft_75 fl_Model_20 sm_0 (by decide) rfl ?_
      refine j_iload_n (pc := 78) (q := 1) d_Model_keepDraft_78 rfl rfl ?_
      refine j_aload_n (pc := 79) (q := 0) d_Model_keepDraft_79 rfl rfl ?_
      refine j_getA (pc := 80) d_Model_keepDraft_80 fl_Model_35 sm_0 (by decide) rfl ?_
      refine j_iload_n (pc := 83) (q := 1) d_Model_keepDraft_83 rfl rfl ?_
      refine j_iald (pc := 84) d_Model_keepDraft_84 sm_9 (fun _ => ?_)
      refine j_iast (pc := 85) d_Model_keepDraft_85 sm_4 (fun _ => ?_)
      refine j_iinc (pc := 86) (q := 1) d_Model_keepDraft_86 rfl (congrArg (v1 + ·) k_i_1) (by decide) rfl ?_
      refine j_goto (pc := 89) (tgt := 68) d_Model_keepDraft_89 (by decide) ?_
      refine j_lv [1, 0] rfl ?_
      exact ih (v1 + 1) (si M 4 (v1.toNatClampNeg) (M.1 9 v1.toNatClampNeg))
set_option maxRecDepth 20000 in
set_option maxHeartbeats 4000000 in
theorem X_Model_keepDraft_L94_ok {n : Nat} {kx118 : Mem → Option (Unit × Mem)} (hkx118 : ∀ (M : Mem), J (mt_Model_keepDraft) wU 118 [(0, Value.ref 0)] [] M (kx118 M)) : ∀ (m : Nat) (v1 : Int32) (M : Mem), J (mt_Model_keepDraft) wU 94 [(0, Value.ref 0), (1, Value.int v1)] [] M (X_Model_keepDraft_L94 n kx118 m v1 M) := by
  intro m
  induction m with
  | zero => intro _ _; exact j_none
  | succ m ih =>
    intro v1 M
    show J _ _ _ _ _ _ ((if 8 ≤ v1 then
kx118 M
else
gd v1 8 (
gd v1 8 (
X_Model_keepDraft_L94 n kx118 m (v1 + 1) (si M 5 (v1.toNatClampNeg) (M.1 10 v1.toNatClampNeg))))))
    refine j_iload_n (pc := 94) (q := 1) d_Model_keepDraft_94 rfl rfl ?_
    refine j_bipush (pc := 95) d_Model_keepDraft_95 k_b_8 ?_
    refine j_icmp_ge (pc := 97) (tgt := 118) d_Model_keepDraft_97 (by decide) (fun _ => ?_) (fun _ => ?_)
    · refine j_lv [0] rfl ?_
      exact hkx118 M
    · refine j_aload_n (pc := 100) (q := 0) d_Model_keepDraft_100 rfl rfl ?_
      refine j_getA (pc := 101) d_Model_keepDraft_101 fl_Model_23 sm_0 (by decide) rfl ?_
      refine j_iload_n (pc := 104) (q := 1) d_Model_keepDraft_104 rfl rfl ?_
      refine j_aload_n (pc := 105) (q := 0) d_Model_keepDraft_105 rfl rfl ?_
      refine j_getA (pc := 106) d_Model_keepDraft_106 fl_Model_38 sm_0 (by decide) rfl ?_
      refine j_iload_n (pc := 109) (q := 1) d_Model_keepDraft_109 rfl rfl ?_
      refine j_iald (pc := 110) d_Model_keepDraft_110 sm_10 (fun _ => ?_)
      refine j_iast (pc := 111) d_Model_keepDraft_111 sm_5 (fun _ => ?_)
      refine j_iinc (pc := 112) (q := 1) d_Model_keepDraft_112 rfl (congrArg (v1 + ·) k_i_1) (by decide) rfl ?_
      refine j_goto (pc := 115) (tgt := 94) d_Model_keepDraft_115 (by decide) ?_
      refine j_lv [1, 0] rfl ?_
      exact ih (v1 + 1) (si M 5 (v1.toNatClampNeg) (M.1 10 v1.toNatClampNeg))
set_option maxRecDepth 20000 in
set_option maxHeartbeats 4000000 in
theorem X_Model_keepDraft_L120_ok {n : Nat} {kx175 : Mem → Option (Unit × Mem)} (hkx175 : ∀ (M : Mem), J (mt_Model_keepDraft) wU 175 [(0, Value.ref 0)] [] M (kx175 M)) : ∀ (m : Nat) (v1 : Int32) (M : Mem), J (mt_Model_keepDraft) wU 120 [(0, Value.ref 0), (1, Value.int v1)] [] M (X_Model_keepDraft_L120 n kx175 m v1 M) := by
  intro m
  induction m with
  | zero => intro _ _; exact j_none
  | succ m ih =>
    intro v1 M
    show J _ _ _ _ _ _ ((if 78 ≤ v1 then
kx175 M
else
nm (fun (u8 : Int32) (M9 : Mem) => (gd v1 234 (
X_Model_keepDraft_L120 n kx175 m (v1 + 1) (si M9 1 (v1.toNatClampNeg) u8)) : Option (Unit × Mem))) fun k168 =>
(if 60 ≤ v1 then
(if 66 ≤ v1 then
k168 0 M
else
gd (v1 - 60) 6 (
bd (X_Model_flag n (M.1 12 (v1 - 60).toNatClampNeg) M) fun r10 M11 =>
k168 r10 M11))
else
gd v1 60 (
k168 (M.1 11 v1.toNatClampNeg) M))))
    refine j_iload_n (pc := 120) (q := 1) d_Model_keepDraft_120 rfl rfl ?_
    refine j_bipush (pc := 121) d_Model_keepDraft_121 k_b_78 ?_
    refine j_icmp_ge (pc := 123) (tgt := 175) d_Model_keepDraft_123 (by decide) (fun _ => ?_) (fun _ => ?_)
    · refine j_lv [0] rfl ?_
      exact hkx175 M
    · refine j_aload_n (pc := 126) (q := 0) d_Model_keepDraft_126 rfl rfl ?_
      refine j_getA (pc := 127) d_Model_keepDraft_127 fl_Model_7 sm_0 (by decide) rfl ?_
      refine j_iload_n (pc := 130) (q := 1) d_Model_keepDraft_130 rfl rfl ?_
      refine j_iload_n (pc := 131) (q := 1) d_Model_keepDraft_131 rfl rfl ?_
      refine j_bipush (pc := 132) d_Model_keepDraft_132 k_b_60 ?_
      refine j_nmk (fun k => ∀ (u8 : Int32) (M9 : Mem), J (mt_Model_keepDraft) wU 168 [(0, Value.ref 0), (1, Value.int v1)] [Value.int u8, Value.int v1, Value.ref 1] M9 (k u8 M9)) (fun u8 M9 => ?_) (fun k168 hk168 => ?_)
      · refine j_iast (pc := 168) d_Model_keepDraft_168 sm_1 (fun _ => ?_)
        refine j_iinc (pc := 169) (q := 1) d_Model_keepDraft_169 rfl (congrArg (v1 + ·) k_i_1) (by decide) rfl ?_
        refine j_goto (pc := 172) (tgt := 120) d_Model_keepDraft_172 (by decide) ?_
        refine j_lv [1, 0] rfl ?_
        exact ih (v1 + 1) (si M9 1 (v1.toNatClampNeg) u8)
      · refine j_icmp_ge (pc := 134) (tgt := 146) d_Model_keepDraft_134 (by decide) (fun _ => ?_) (fun _ => ?_)
        · refine j_iload_n (pc := 146) (q := 1) d_Model_keepDraft_146 rfl rfl ?_
          refine j_bipush (pc := 147) d_Model_keepDraft_147 k_b_66 ?_
          refine j_icmp_ge (pc := 149) (tgt := 167) d_Model_keepDraft_149 (by decide) (fun _ => ?_) (fun _ => ?_)
          · refine j_iconst (pc := 167) d_Model_keepDraft_167 k_i_0 ?_
            exact hk168 0 M
          · refine j_aload_n (pc := 152) (q := 0) d_Model_keepDraft_152 rfl rfl ?_
            refine j_getA (pc := 153) d_Model_keepDraft_153 fl_Model_44 sm_0 (by decide) rfl ?_
            refine j_iload_n (pc := 156) (q := 1) d_Model_keepDraft_156 rfl rfl ?_
            refine j_bipush (pc := 157) d_Model_keepDraft_157 k_b_60 ?_
            refine j_isub (pc := 159) d_Model_keepDraft_159 ?_
            refine j_zald (pc := 160) d_Model_keepDraft_160 sm_12 (fun _ => ?_)
            refine j_callS1 (pc := 161) d_Model_keepDraft_161 (C_Model_flag n (M.1 12 (v1 - 60).toNatClampNeg) M) cS_Model_134 cd_Model_flag dn_Model_flag rfl (by decide) (Nat.le_of_ble_eq_true rfl) (Nat.le_of_ble_eq_true rfl) nr_I (fun r10 M11 => ?_)
            refine j_goto (pc := 164) (tgt := 168) d_Model_keepDraft_164 (by decide) ?_
            exact hk168 r10 M11
        · refine j_aload_n (pc := 137) (q := 0) d_Model_keepDraft_137 rfl rfl ?_
          refine j_getA (pc := 138) d_Model_keepDraft_138 fl_Model_41 sm_0 (by decide) rfl ?_
          refine j_iload_n (pc := 141) (q := 1) d_Model_keepDraft_141 rfl rfl ?_
          refine j_iald (pc := 142) d_Model_keepDraft_142 sm_11 (fun _ => ?_)
          refine j_goto (pc := 143) (tgt := 168) d_Model_keepDraft_143 (by decide) ?_
          exact hk168 (M.1 11 v1.toNatClampNeg) M
set_option maxRecDepth 20000 in
set_option maxHeartbeats 4000000 in
theorem C_Model_keepDraft (n : Nat)    (M : Mem) : Ct y_Model_keepDraft mt_Model_keepDraft wU [Value.ref 0] M (X_Model_keepDraft n M) := by
  refine ct_of (by decide +kernel) rfl (Nat.le_of_ble_eq_true rfl) ?_
  show J _ _ _ [(0, Value.ref 0)] _ _ _
  unfold X_Model_keepDraft
  refine j_aload_n (pc := 0) (q := 0) d_Model_keepDraft_0 rfl rfl ?_
  refine j_aload_n (pc := 1) (q := 0) d_Model_keepDraft_1 rfl rfl ?_
  refine j_getI (pc := 2) d_Model_keepDraft_2 fl_Model_97 sm_0 (by decide) rfl ?_
  refine j_putI (pc := 5) d_Model_keepDraft_5 fl_Model_119 rfl sm_0 (by decide) rfl ?_
  refine j_aload_n (pc := 8) (q := 0) d_Model_keepDraft_8 rfl rfl ?_
  refine j_aload_n (pc := 9) (q := 0) d_Model_keepDraft_9 rfl rfl ?_
  refine j_nmM (fun N1 => ?_)
  refine j_getI (pc := 10) d_Model_keepDraft_10 fl_Model_101 sm_0 (by decide) rfl ?_
  refine j_putI (pc := 13) d_Model_keepDraft_13 fl_Model_122 rfl sm_0 (by decide) rfl ?_
  refine j_aload_n (pc := 16) (q := 0) d_Model_keepDraft_16 rfl rfl ?_
  refine j_aload_n (pc := 17) (q := 0) d_Model_keepDraft_17 rfl rfl ?_
  refine j_nmM (fun N2 => ?_)
  refine j_getI (pc := 18) d_Model_keepDraft_18 fl_Model_104 sm_0 (by decide) rfl ?_
  refine j_putI (pc := 21) d_Model_keepDraft_21 fl_Model_125 rfl sm_0 (by decide) rfl ?_
  refine j_aload_n (pc := 24) (q := 0) d_Model_keepDraft_24 rfl rfl ?_
  refine j_aload_n (pc := 25) (q := 0) d_Model_keepDraft_25 rfl rfl ?_
  refine j_nmM (fun N3 => ?_)
  refine j_getI (pc := 26) d_Model_keepDraft_26 fl_Model_107 sm_0 (by decide) rfl ?_
  refine j_putI (pc := 29) d_Model_keepDraft_29 fl_Model_128 rfl sm_0 (by decide) rfl ?_
  refine j_aload_n (pc := 32) (q := 0) d_Model_keepDraft_32 rfl rfl ?_
  refine j_aload_n (pc := 33) (q := 0) d_Model_keepDraft_33 rfl rfl ?_
  refine j_nmM (fun N4 => ?_)
  refine j_getI (pc := 34) d_Model_keepDraft_34 fl_Model_110 sm_0 (by decide) rfl ?_
  refine j_putI (pc := 37) d_Model_keepDraft_37 fl_Model_131 rfl sm_0 (by decide) rfl ?_
  refine j_iconst (pc := 40) d_Model_keepDraft_40 k_i_0 ?_
  refine j_istore_n (pc := 41) d_Model_keepDraft_41 rfl (by decide) rfl ?_
  refine j_lv [1, 0] rfl ?_
  refine X_Model_keepDraft_L42_ok  (fun M5 => ?_) n 0 (si N4 0 6 (N4.1 0 16))
  refine j_iconst (pc := 66) d_Model_keepDraft_66 k_i_0 ?_
  refine j_istore_n (pc := 67) d_Model_keepDraft_67 rfl (by decide) rfl ?_
  refine j_lv [1, 0] rfl ?_
  refine X_Model_keepDraft_L68_ok  (fun M6 => ?_) n 0 M5
  refine j_iconst (pc := 92) d_Model_keepDraft_92 k_i_0 ?_
  refine j_istore_n (pc := 93) d_Model_keepDraft_93 rfl (by decide) rfl ?_
  refine j_lv [1, 0] rfl ?_
  refine X_Model_keepDraft_L94_ok  (fun M7 => ?_) n 0 M6
  refine j_iconst (pc := 118) d_Model_keepDraft_118 k_i_0 ?_
  refine j_istore_n (pc := 119) d_Model_keepDraft_119 rfl (by decide) rfl ?_
  refine j_lv [1, 0] rfl ?_
  refine X_Model_keepDraft_L120_ok  (fun M12 => ?_) n 0 M7
  refine j_aload_n (pc := 175) (q := 0) d_Model_keepDraft_175 rfl rfl ?_
  refine j_getA (pc := 176) d_Model_keepDraft_176 fl_Model_13 sm_0 (by decide) rfl ?_
  refine j_iconst (pc := 179) d_Model_keepDraft_179 k_i_0 ?_
  refine j_iconst (pc := 180) d_Model_keepDraft_180 k_i_0 ?_
  refine j_zast (pc := 181) d_Model_keepDraft_181 sm_2 (fun _ => ?_)
  refine j_aload_n (pc := 182) (q := 0) d_Model_keepDraft_182 rfl rfl ?_
  refine j_getA (pc := 183) d_Model_keepDraft_183 fl_Model_13 sm_0 (by decide) rfl ?_
  refine j_iconst (pc := 186) d_Model_keepDraft_186 k_i_1 ?_
  refine j_iconst (pc := 187) d_Model_keepDraft_187 k_i_0 ?_
  refine j_zast (pc := 188) d_Model_keepDraft_188 sm_2 (fun _ => ?_)
  exact j_return (pc := 189) d_Model_keepDraft_189 rfl
-- Model.feed (J)I
def mt_Model_feed : Mt := ("ShakeHandsModel", b_Model_feed, 4, some .int, 2, SHm)
theorem d_Model_feed_0 : decode b_Model_feed 0 = .ok (.aload_n 0, 1) := by decide +kernel
theorem d_Model_feed_1 : decode b_Model_feed 1 = .ok (.getfield 138, 3) := by decide +kernel
theorem d_Model_feed_4 : decode b_Model_feed 4 = .ok (.bipush 8, 2) := by decide +kernel
theorem d_Model_feed_6 : decode b_Model_feed 6 = .ok (.iadd, 1) := by decide +kernel
theorem d_Model_feed_7 : decode b_Model_feed 7 = .ok (.sipush 320, 3) := by decide +kernel
theorem d_Model_feed_10 : decode b_Model_feed 10 = .ok (.if_icmp .le 6, 3) := by decide +kernel
theorem d_Model_feed_13 : decode b_Model_feed 13 = .ok (.bipush (-3), 2) := by decide +kernel
theorem d_Model_feed_15 : decode b_Model_feed 15 = .ok (.ireturn, 1) := by decide +kernel
theorem d_Model_feed_16 : decode b_Model_feed 16 = .ok (.bipush 56, 2) := by decide +kernel
theorem d_Model_feed_18 : decode b_Model_feed 18 = .ok (.istore_n 3, 1) := by decide +kernel
theorem d_Model_feed_19 : decode b_Model_feed 19 = .ok (.iload_n 3, 1) := by decide +kernel
theorem d_Model_feed_20 : decode b_Model_feed 20 = .ok (.ifCond .lt 36, 3) := by decide +kernel
theorem d_Model_feed_23 : decode b_Model_feed 23 = .ok (.aload_n 0, 1) := by decide +kernel
theorem d_Model_feed_24 : decode b_Model_feed 24 = .ok (.getfield 50, 3) := by decide +kernel
theorem d_Model_feed_27 : decode b_Model_feed 27 = .ok (.aload_n 0, 1) := by decide +kernel
theorem d_Model_feed_28 : decode b_Model_feed 28 = .ok (.getfield 138, 3) := by decide +kernel
theorem d_Model_feed_31 : decode b_Model_feed 31 = .ok (.lload_n 1, 1) := by decide +kernel
theorem d_Model_feed_32 : decode b_Model_feed 32 = .ok (.iload_n 3, 1) := by decide +kernel
theorem d_Model_feed_33 : decode b_Model_feed 33 = .ok (.lshr, 1) := by decide +kernel
theorem d_Model_feed_34 : decode b_Model_feed 34 = .ok (.ldc2_w 141, 3) := by decide +kernel
theorem d_Model_feed_37 : decode b_Model_feed 37 = .ok (.land, 1) := by decide +kernel
theorem d_Model_feed_38 : decode b_Model_feed 38 = .ok (.l2i, 1) := by decide +kernel
theorem d_Model_feed_39 : decode b_Model_feed 39 = .ok (.iastore, 1) := by decide +kernel
theorem d_Model_feed_40 : decode b_Model_feed 40 = .ok (.aload_n 0, 1) := by decide +kernel
theorem d_Model_feed_41 : decode b_Model_feed 41 = .ok (.dup, 1) := by decide +kernel
theorem d_Model_feed_42 : decode b_Model_feed 42 = .ok (.getfield 138, 3) := by decide +kernel
theorem d_Model_feed_45 : decode b_Model_feed 45 = .ok (.iconst 1, 1) := by decide +kernel
theorem d_Model_feed_46 : decode b_Model_feed 46 = .ok (.iadd, 1) := by decide +kernel
theorem d_Model_feed_47 : decode b_Model_feed 47 = .ok (.putfield 138, 3) := by decide +kernel
theorem d_Model_feed_50 : decode b_Model_feed 50 = .ok (.iinc 3 (-8), 3) := by decide +kernel
theorem d_Model_feed_53 : decode b_Model_feed 53 = .ok (.goto (-34), 3) := by decide +kernel
theorem d_Model_feed_56 : decode b_Model_feed 56 = .ok (.aload_n 0, 1) := by decide +kernel
theorem d_Model_feed_57 : decode b_Model_feed 57 = .ok (.getfield 138, 3) := by decide +kernel
theorem d_Model_feed_60 : decode b_Model_feed 60 = .ok (.ireturn, 1) := by decide +kernel
def X_Model_feed_L19 (n : Nat) (a1 : Int64) : Nat → Int32 → Mem → Option (Int32 × Mem)
    | 0, _, _ => none
    | m + 1, v3, M => (if v3 < 0 then
    some ((M.1 0 26), M)
    else
    gd (M.1 0 26) 320 (
      nm (si M 14 ((M.1 0 26).toNatClampNeg) ((((a1 >>> (v3.toInt64 &&& 63)) &&& 255) : Int64).toInt32)) fun N1 =>
      X_Model_feed_L19 n a1 m (v3 + (-8)) (si N1 0 26 ((N1.1 0 26) + 1))))
def X_Model_feed (n : Nat) (p1 : Int64) (M : Mem) : Option (Int32 × Mem) :=
  (if ((M.1 0 26) + 8) ≤ 320 then
    X_Model_feed_L19 n p1 n 56 M
    else
    some ((-3), M))
set_option maxRecDepth 20000 in
set_option maxHeartbeats 4000000 in
theorem X_Model_feed_L19_ok {n : Nat} {a1 : Int64} : ∀ (m : Nat) (v3 : Int32) (M : Mem), J (mt_Model_feed) wI 19 [(0, Value.ref 0), (1, Value.long a1), (3, Value.int v3)] [] M (X_Model_feed_L19 n a1 m v3 M) := by
  intro m
  induction m with
  | zero => intro _ _; exact j_none
  | succ m ih =>
    intro v3 M
    show J _ _ _ _ _ _ ((if v3 < 0 then
some ((M.1 0 26), M)
else
gd (M.1 0 26) 320 (
nm (si M 14 ((M.1 0 26).toNatClampNeg) ((((a1 >>> (v3.toInt64 &&& 63)) &&& 255) : Int64).toInt32)) fun N1 =>
X_Model_feed_L19 n a1 m (v3 + (-8)) (si N1 0 26 ((N1.1 0 26) + 1)))))
    refine j_iload_n (pc := 19) (q := 2) d_Model_feed_19 rfl rfl ?_
    refine j_if_lt (pc := 20) (tgt := 56) d_Model_feed_20 (by decide) (fun _ => ?_) (fun _ => ?_)
    · refine j_aload_n (pc := 56) (q := 0) d_Model_feed_56 rfl rfl ?_
      refine j_getI (pc := 57) d_Model_feed_57 fl_Model_138 sm_0 (by decide) rfl ?_
      exact j_ireturn (pc := 60) d_Model_feed_60 rfl
    · refine j_aload_n (pc := 23) (q := 0) d_Model_feed_23 rfl rfl ?_
      refine j_getA (pc := 24) d_Model_feed_24 fl_Model_50 sm_0 (by decide) rfl ?_
      refine j_aload_n (pc := 27) (q := 0) d_Model_feed_27 rfl rfl ?_
      refine j_getI (pc := 28) d_Model_feed_28 fl_Model_138 sm_0 (by decide) rfl ?_
      refine j_lload_n (pc := 31) (q := 1) d_Model_feed_31 rfl rfl ?_
      refine j_iload_n (pc := 32) (q := 2) d_Model_feed_32 rfl rfl ?_
      refine j_lshr (pc := 33) d_Model_feed_33 ?_
      refine j_ldc2 (pc := 34) d_Model_feed_34 cl_Model_141 ?_
      refine j_land (pc := 37) d_Model_feed_37 ?_
      refine j_l2i (pc := 38) d_Model_feed_38 ?_
      refine j_iast (pc := 39) d_Model_feed_39 sm_14 (fun _ => ?_)
      refine j_aload_n (pc := 40) (q := 0) d_Model_feed_40 rfl rfl ?_
      refine j_dup (pc := 41) d_Model_feed_41 rfl ?_
      refine j_nmM (fun N1 => ?_)
      refine j_getI (pc := 42) d_Model_feed_42 fl_Model_138 sm_0 (by decide) rfl ?_
      refine j_iconst (pc := 45) d_Model_feed_45 k_i_1 ?_
      refine j_iadd (pc := 46) d_Model_feed_46 ?_
      refine j_putI (pc := 47) d_Model_feed_47 fl_Model_138 rfl sm_0 (by decide) rfl ?_
      refine j_iinc (pc := 50) (q := 2) d_Model_feed_50 rfl (congrArg (v3 + ·) k_i_m8) (by decide) rfl ?_
      refine j_goto (pc := 53) (tgt := 19) d_Model_feed_53 (by decide) ?_
      refine j_lv [1, 2, 0] rfl ?_
      exact ih (v3 + (-8)) (si N1 0 26 ((N1.1 0 26) + 1))
set_option maxRecDepth 20000 in
set_option maxHeartbeats 4000000 in
theorem C_Model_feed (n : Nat)   (p1 : Int64) (M : Mem) : Ct y_Model_feed mt_Model_feed wI [Value.ref 0, Value.long p1] M (X_Model_feed n p1 M) := by
  refine ct_of (by decide +kernel) rfl (Nat.le_of_ble_eq_true rfl) ?_
  show J _ _ _ [(0, Value.ref 0), (1, Value.long p1)] _ _ _
  unfold X_Model_feed
  refine j_aload_n (pc := 0) (q := 0) d_Model_feed_0 rfl rfl ?_
  refine j_getI (pc := 1) d_Model_feed_1 fl_Model_138 sm_0 (by decide) rfl ?_
  refine j_bipush (pc := 4) d_Model_feed_4 k_b_8 ?_
  refine j_iadd (pc := 6) d_Model_feed_6 ?_
  refine j_sipush (pc := 7) d_Model_feed_7 k_s_320 ?_
  refine j_icmp_le (pc := 10) (tgt := 16) d_Model_feed_10 (by decide) (fun _ => ?_) (fun _ => ?_)
  · refine j_bipush (pc := 16) d_Model_feed_16 k_b_56 ?_
    refine j_istore_n (pc := 18) d_Model_feed_18 rfl (by decide) rfl ?_
    refine j_lv [1, 2, 0] rfl ?_
    exact X_Model_feed_L19_ok   n 56 M
  · refine j_bipush (pc := 13) d_Model_feed_13 k_b_m3 ?_
    exact j_ireturn (pc := 15) d_Model_feed_15 rfl
-- Model.in (JJJ)Z
def mt_Model_in : Mt := ("ShakeHandsModel", b_Model_in, 6, some .boolean, 2, SHm)
theorem d_Model_in_0 : decode b_Model_in 0 = .ok (.lload_n 0, 1) := by decide +kernel
theorem d_Model_in_1 : decode b_Model_in 1 = .ok (.lload_n 2, 1) := by decide +kernel
theorem d_Model_in_2 : decode b_Model_in 2 = .ok (.lcmp, 1) := by decide +kernel
theorem d_Model_in_3 : decode b_Model_in 3 = .ok (.ifCond .lt 14, 3) := by decide +kernel
theorem d_Model_in_6 : decode b_Model_in 6 = .ok (.lload_n 0, 1) := by decide +kernel
theorem d_Model_in_7 : decode b_Model_in 7 = .ok (.lload 4, 2) := by decide +kernel
theorem d_Model_in_9 : decode b_Model_in 9 = .ok (.lcmp, 1) := by decide +kernel
theorem d_Model_in_10 : decode b_Model_in 10 = .ok (.ifCond .gt 7, 3) := by decide +kernel
theorem d_Model_in_13 : decode b_Model_in 13 = .ok (.iconst 1, 1) := by decide +kernel
theorem d_Model_in_14 : decode b_Model_in 14 = .ok (.goto 4, 3) := by decide +kernel
theorem d_Model_in_17 : decode b_Model_in 17 = .ok (.iconst 0, 1) := by decide +kernel
theorem d_Model_in_18 : decode b_Model_in 18 = .ok (.ireturn, 1) := by decide +kernel
def X_Model_in (n : Nat) (p0 : Int64) (p2 : Int64) (p4 : Int64) (M : Mem) : Option (Int32 × Mem) :=
  (if (lg_cmp p0 p2) < 0 then
    some (0, M)
    else
    (if 0 < (lg_cmp p0 p4) then
      some (0, M)
      else
      some (1, M)))
set_option maxRecDepth 20000 in
set_option maxHeartbeats 4000000 in
theorem C_Model_in (n : Nat)   (p0 : Int64) (p2 : Int64) (p4 : Int64) (M : Mem) : Ct y_Model_in mt_Model_in wI [Value.long p0, Value.long p2, Value.long p4] M (X_Model_in n p0 p2 p4 M) := by
  refine ct_of (by decide +kernel) rfl (Nat.le_of_ble_eq_true rfl) ?_
  show J _ _ _ [(0, Value.long p0), (2, Value.long p2), (4, Value.long p4)] _ _ _
  unfold X_Model_in
  refine j_lload_n (pc := 0) (q := 0) d_Model_in_0 rfl rfl ?_
  refine j_lload_n (pc := 1) (q := 1) d_Model_in_1 rfl rfl ?_
  refine j_lcmp (pc := 2) d_Model_in_2 ?_
  refine j_if_lt (pc := 3) (tgt := 17) d_Model_in_3 (by decide) (fun _ => ?_) (fun _ => ?_)
  · refine j_iconst (pc := 17) d_Model_in_17 k_i_0 ?_
    exact j_zreturn (pc := 18) d_Model_in_18 rfl rfl
  · refine j_lload_n (pc := 6) (q := 0) d_Model_in_6 rfl rfl ?_
    refine j_lload (pc := 7) (q := 2) d_Model_in_7 rfl ?_
    refine j_lcmp (pc := 9) d_Model_in_9 ?_
    refine j_if_gt (pc := 10) (tgt := 17) d_Model_in_10 (by decide) (fun _ => ?_) (fun _ => ?_)
    · refine j_iconst (pc := 17) d_Model_in_17 k_i_0 ?_
      exact j_zreturn (pc := 18) d_Model_in_18 rfl rfl
    · refine j_iconst (pc := 13) d_Model_in_13 k_i_1 ?_
      refine j_goto (pc := 14) (tgt := 18) d_Model_in_14 (by decide) ?_
      exact j_zreturn (pc := 18) d_Model_in_18 rfl rfl
-- Model.end (I)I
def mt_Model_end : Mt := ("ShakeHandsModel", b_Model_end, 3, some .int, 3, SHm)
theorem d_Model_end_0 : decode b_Model_end 0 = .ok (.iload_n 1, 1) := by decide +kernel
theorem d_Model_end_1 : decode b_Model_end 1 = .ok (.i2l, 1) := by decide +kernel
theorem d_Model_end_2 : decode b_Model_end 2 = .ok (.lconst 0, 1) := by decide +kernel
theorem d_Model_end_3 : decode b_Model_end 3 = .ok (.aload_n 0, 1) := by decide +kernel
theorem d_Model_end_4 : decode b_Model_end 4 = .ok (.getfield 138, 3) := by decide +kernel
theorem d_Model_end_7 : decode b_Model_end 7 = .ok (.i2l, 1) := by decide +kernel
theorem d_Model_end_8 : decode b_Model_end 8 = .ok (.invokestatic 143, 3) := by decide +kernel
theorem d_Model_end_11 : decode b_Model_end 11 = .ok (.ifCond .ne 5, 3) := by decide +kernel
theorem d_Model_end_14 : decode b_Model_end 14 = .ok (.iconst (-1), 1) := by decide +kernel
theorem d_Model_end_15 : decode b_Model_end 15 = .ok (.ireturn, 1) := by decide +kernel
theorem d_Model_end_16 : decode b_Model_end 16 = .ok (.aload_n 0, 1) := by decide +kernel
theorem d_Model_end_17 : decode b_Model_end 17 = .ok (.getfield 138, 3) := by decide +kernel
theorem d_Model_end_20 : decode b_Model_end 20 = .ok (.istore_n 2, 1) := by decide +kernel
theorem d_Model_end_21 : decode b_Model_end 21 = .ok (.aload_n 0, 1) := by decide +kernel
theorem d_Model_end_22 : decode b_Model_end 22 = .ok (.iload_n 1, 1) := by decide +kernel
theorem d_Model_end_23 : decode b_Model_end 23 = .ok (.putfield 138, 3) := by decide +kernel
theorem d_Model_end_26 : decode b_Model_end 26 = .ok (.iload_n 2, 1) := by decide +kernel
theorem d_Model_end_27 : decode b_Model_end 27 = .ok (.ireturn, 1) := by decide +kernel
def X_Model_end (n : Nat) (p1 : Int32) (M : Mem) : Option (Int32 × Mem) :=
  bd (X_Model_in n (p1.toInt64) 0 (((M.1 0 26) : Int32).toInt64) M) fun r1 M2 =>
  (if r1 = 0 then
    some ((-1), M2)
    else
    nm (M2.1 0 26) fun x3 =>
    some (x3, si M2 0 26 p1))
set_option maxRecDepth 20000 in
set_option maxHeartbeats 4000000 in
theorem C_Model_end (n : Nat)   (p1 : Int32) (M : Mem) : Ct y_Model_end mt_Model_end wI [Value.ref 0, Value.int p1] M (X_Model_end n p1 M) := by
  refine ct_of (by decide +kernel) rfl (Nat.le_of_ble_eq_true rfl) ?_
  show J _ _ _ [(0, Value.ref 0), (1, Value.int p1)] _ _ _
  unfold X_Model_end
  refine j_iload_n (pc := 0) (q := 1) d_Model_end_0 rfl rfl ?_
  refine j_i2l (pc := 1) d_Model_end_1 ?_
  refine j_lconst (pc := 2) d_Model_end_2 k_l_0 ?_
  refine j_aload_n (pc := 3) (q := 0) d_Model_end_3 rfl rfl ?_
  refine j_getI (pc := 4) d_Model_end_4 fl_Model_138 sm_0 (by decide) rfl ?_
  refine j_i2l (pc := 7) d_Model_end_7 ?_
  refine j_callS3 (pc := 8) d_Model_end_8 (C_Model_in n (p1.toInt64) 0 (((M.1 0 26) : Int32).toInt64) M) cS_Model_143 cd_Model_in dn_Model_in rfl (by decide) (Nat.le_of_ble_eq_true rfl) (Nat.le_of_ble_eq_true rfl) nr_I (fun r1 M2 => ?_)
  refine j_if_ne (pc := 11) (tgt := 16) d_Model_end_11 (by decide) (fun _ => ?_) (fun _ => ?_)
  · refine j_aload_n (pc := 16) (q := 0) d_Model_end_16 rfl rfl ?_
    refine j_getI (pc := 17) d_Model_end_17 fl_Model_138 sm_0 (by decide) rfl ?_
    refine j_nmi (fun x3 => ?_)
    refine j_istore_n (pc := 20) d_Model_end_20 rfl (by decide) rfl ?_
    refine j_aload_n (pc := 21) (q := 1) d_Model_end_21 rfl rfl ?_
    refine j_iload_n (pc := 22) (q := 2) d_Model_end_22 rfl rfl ?_
    refine j_putI (pc := 23) d_Model_end_23 fl_Model_138 rfl sm_0 (by decide) rfl ?_
    refine j_iload_n (pc := 26) (q := 0) d_Model_end_26 rfl rfl ?_
    exact j_ireturn (pc := 27) d_Model_end_27 rfl
  · refine j_iconst (pc := 14) d_Model_end_14 k_i_m1 ?_
    exact j_ireturn (pc := 15) d_Model_end_15 rfl
-- Model.isHeld ()Z
def mt_Model_isHeld : Mt := ("ShakeHandsModel", b_Model_isHeld, 3, some .boolean, 2, SHm)
theorem d_Model_isHeld_0 : decode b_Model_isHeld 0 = .ok (.iconst 1, 1) := by decide +kernel
theorem d_Model_isHeld_1 : decode b_Model_isHeld 1 = .ok (.istore_n 1, 1) := by decide +kernel
theorem d_Model_isHeld_2 : decode b_Model_isHeld 2 = .ok (.iconst 0, 1) := by decide +kernel
theorem d_Model_isHeld_3 : decode b_Model_isHeld 3 = .ok (.istore_n 2, 1) := by decide +kernel
theorem d_Model_isHeld_4 : decode b_Model_isHeld 4 = .ok (.iload_n 2, 1) := by decide +kernel
theorem d_Model_isHeld_5 : decode b_Model_isHeld 5 = .ok (.bipush 6, 2) := by decide +kernel
theorem d_Model_isHeld_7 : decode b_Model_isHeld 7 = .ok (.if_icmp .ge 35, 3) := by decide +kernel
theorem d_Model_isHeld_10 : decode b_Model_isHeld 10 = .ok (.iload_n 1, 1) := by decide +kernel
theorem d_Model_isHeld_11 : decode b_Model_isHeld 11 = .ok (.ifCond .eq 23, 3) := by decide +kernel
theorem d_Model_isHeld_14 : decode b_Model_isHeld 14 = .ok (.aload_n 0, 1) := by decide +kernel
theorem d_Model_isHeld_15 : decode b_Model_isHeld 15 = .ok (.getfield 41, 3) := by decide +kernel
theorem d_Model_isHeld_18 : decode b_Model_isHeld 18 = .ok (.bipush 10, 2) := by decide +kernel
theorem d_Model_isHeld_20 : decode b_Model_isHeld 20 = .ok (.iload_n 2, 1) := by decide +kernel
theorem d_Model_isHeld_21 : decode b_Model_isHeld 21 = .ok (.imul, 1) := by decide +kernel
theorem d_Model_isHeld_22 : decode b_Model_isHeld 22 = .ok (.iaload, 1) := by decide +kernel
theorem d_Model_isHeld_23 : decode b_Model_isHeld 23 = .ok (.aload_n 0, 1) := by decide +kernel
theorem d_Model_isHeld_24 : decode b_Model_isHeld 24 = .ok (.getfield 101, 3) := by decide +kernel
theorem d_Model_isHeld_27 : decode b_Model_isHeld 27 = .ok (.if_icmp .gt 7, 3) := by decide +kernel
theorem d_Model_isHeld_30 : decode b_Model_isHeld 30 = .ok (.iconst 1, 1) := by decide +kernel
theorem d_Model_isHeld_31 : decode b_Model_isHeld 31 = .ok (.goto 4, 3) := by decide +kernel
theorem d_Model_isHeld_34 : decode b_Model_isHeld 34 = .ok (.iconst 0, 1) := by decide +kernel
theorem d_Model_isHeld_35 : decode b_Model_isHeld 35 = .ok (.istore_n 1, 1) := by decide +kernel
theorem d_Model_isHeld_36 : decode b_Model_isHeld 36 = .ok (.iinc 2 1, 3) := by decide +kernel
theorem d_Model_isHeld_39 : decode b_Model_isHeld 39 = .ok (.goto (-35), 3) := by decide +kernel
theorem d_Model_isHeld_42 : decode b_Model_isHeld 42 = .ok (.iload_n 1, 1) := by decide +kernel
theorem d_Model_isHeld_43 : decode b_Model_isHeld 43 = .ok (.ireturn, 1) := by decide +kernel
def X_Model_isHeld_L4 (n : Nat) (M : Mem) : Nat → Int32 → Int32 → Option (Int32 × Mem)
    | 0, _, _ => none
    | m + 1, v1, v2 => (if 6 ≤ v2 then
    zr v1 M
    else
    nm (fun (u1 : Int32) => (X_Model_isHeld_L4 n M m u1 (v2 + 1) : Option (Int32 × Mem))) fun k35 =>
    (if v1 = 0 then
      k35 0
      else
      gd ((10 : Int32) * v2) 60 (
        (if (M.1 0 13) < (M.1 11 ((10 : Int32) * v2).toNatClampNeg) then
          k35 0
          else
          k35 1))))
def X_Model_isHeld (n : Nat) (M : Mem) : Option (Int32 × Mem) :=
  X_Model_isHeld_L4 n M n 1 0
set_option maxRecDepth 20000 in
set_option maxHeartbeats 4000000 in
theorem X_Model_isHeld_L4_ok {n : Nat} {M : Mem} : ∀ (m : Nat) (v1 : Int32) (v2 : Int32), J (mt_Model_isHeld) wI 4 [(0, Value.ref 0), (1, Value.int v1), (2, Value.int v2)] [] M (X_Model_isHeld_L4 n M m v1 v2) := by
  intro m
  induction m with
  | zero => intro _ _; exact j_none
  | succ m ih =>
    intro v1 v2
    show J _ _ _ _ _ _ ((if 6 ≤ v2 then
zr v1 M
else
nm (fun (u1 : Int32) => (X_Model_isHeld_L4 n M m u1 (v2 + 1) : Option (Int32 × Mem))) fun k35 =>
(if v1 = 0 then
k35 0
else
gd ((10 : Int32) * v2) 60 (
(if (M.1 0 13) < (M.1 11 ((10 : Int32) * v2).toNatClampNeg) then
k35 0
else
k35 1)))))
    refine j_iload_n (pc := 4) (q := 2) d_Model_isHeld_4 rfl rfl ?_
    refine j_bipush (pc := 5) d_Model_isHeld_5 k_b_6 ?_
    refine j_icmp_ge (pc := 7) (tgt := 42) d_Model_isHeld_7 (by decide) (fun _ => ?_) (fun _ => ?_)
    · refine j_iload_n (pc := 42) (q := 1) d_Model_isHeld_42 rfl rfl ?_
      exact j_zr (pc := 43) d_Model_isHeld_43 rfl
    · refine j_iload_n (pc := 10) (q := 1) d_Model_isHeld_10 rfl rfl ?_
      refine j_nmk (fun k => ∀ (u1 : Int32), J (mt_Model_isHeld) wI 35 [(0, Value.ref 0), (2, Value.int v2)] [Value.int u1] M (k u1)) (fun u1 => ?_) (fun k35 hk35 => ?_)
      · refine j_istore_n (pc := 35) d_Model_isHeld_35 rfl (by decide) rfl ?_
        refine j_iinc (pc := 36) (q := 2) d_Model_isHeld_36 rfl (congrArg (v2 + ·) k_i_1) (by decide) rfl ?_
        refine j_goto (pc := 39) (tgt := 4) d_Model_isHeld_39 (by decide) ?_
        refine j_lv [2, 1, 0] rfl ?_
        exact ih u1 (v2 + 1)
      · refine j_if_eq (pc := 11) (tgt := 34) d_Model_isHeld_11 (by decide) (fun _ => ?_) (fun _ => ?_)
        · refine j_iconst (pc := 34) d_Model_isHeld_34 k_i_0 ?_
          refine j_lv [0, 2] rfl ?_
          exact hk35 0
        · refine j_aload_n (pc := 14) (q := 0) d_Model_isHeld_14 rfl rfl ?_
          refine j_getA (pc := 15) d_Model_isHeld_15 fl_Model_41 sm_0 (by decide) rfl ?_
          refine j_bipush (pc := 18) d_Model_isHeld_18 k_b_10 ?_
          refine j_iload_n (pc := 20) (q := 2) d_Model_isHeld_20 rfl rfl ?_
          refine j_imul (pc := 21) d_Model_isHeld_21 ?_
          refine j_iald (pc := 22) d_Model_isHeld_22 sm_11 (fun _ => ?_)
          refine j_aload_n (pc := 23) (q := 0) d_Model_isHeld_23 rfl rfl ?_
          refine j_getI (pc := 24) d_Model_isHeld_24 fl_Model_101 sm_0 (by decide) rfl ?_
          refine j_icmp_gt (pc := 27) (tgt := 34) d_Model_isHeld_27 (by decide) (fun _ => ?_) (fun _ => ?_)
          · refine j_iconst (pc := 34) d_Model_isHeld_34 k_i_0 ?_
            refine j_lv [0, 2] rfl ?_
            exact hk35 0
          · refine j_iconst (pc := 30) d_Model_isHeld_30 k_i_1 ?_
            refine j_goto (pc := 31) (tgt := 35) d_Model_isHeld_31 (by decide) ?_
            refine j_lv [0, 2] rfl ?_
            exact hk35 1
set_option maxRecDepth 20000 in
set_option maxHeartbeats 4000000 in
theorem C_Model_isHeld (n : Nat)    (M : Mem) : Ct y_Model_isHeld mt_Model_isHeld wI [Value.ref 0] M (X_Model_isHeld n M) := by
  refine ct_of (by decide +kernel) rfl (Nat.le_of_ble_eq_true rfl) ?_
  show J _ _ _ [(0, Value.ref 0)] _ _ _
  unfold X_Model_isHeld
  refine j_iconst (pc := 0) d_Model_isHeld_0 k_i_1 ?_
  refine j_istore_n (pc := 1) d_Model_isHeld_1 rfl (by decide) rfl ?_
  refine j_iconst (pc := 2) d_Model_isHeld_2 k_i_0 ?_
  refine j_istore_n (pc := 3) d_Model_isHeld_3 rfl (by decide) rfl ?_
  refine j_lv [2, 1, 0] rfl ?_
  exact X_Model_isHeld_L4_ok   n 1 0
-- Model.needs (ZI)V
def mt_Model_needs : Mt := ("ShakeHandsModel", b_Model_needs, 3, none, 2, SHm)
theorem d_Model_needs_0 : decode b_Model_needs 0 = .ok (.iload_n 1, 1) := by decide +kernel
theorem d_Model_needs_1 : decode b_Model_needs 1 = .ok (.ifCond .ne 23, 3) := by decide +kernel
theorem d_Model_needs_4 : decode b_Model_needs 4 = .ok (.aload_n 0, 1) := by decide +kernel
theorem d_Model_needs_5 : decode b_Model_needs 5 = .ok (.getfield 147, 3) := by decide +kernel
theorem d_Model_needs_8 : decode b_Model_needs 8 = .ok (.ifCond .ne 16, 3) := by decide +kernel
theorem d_Model_needs_11 : decode b_Model_needs 11 = .ok (.aload_n 0, 1) := by decide +kernel
theorem d_Model_needs_12 : decode b_Model_needs 12 = .ok (.iload_n 2, 1) := by decide +kernel
theorem d_Model_needs_13 : decode b_Model_needs 13 = .ok (.putfield 147, 3) := by decide +kernel
theorem d_Model_needs_16 : decode b_Model_needs 16 = .ok (.aload_n 0, 1) := by decide +kernel
theorem d_Model_needs_17 : decode b_Model_needs 17 = .ok (.aload_n 0, 1) := by decide +kernel
theorem d_Model_needs_18 : decode b_Model_needs 18 = .ok (.getfield 150, 3) := by decide +kernel
theorem d_Model_needs_21 : decode b_Model_needs 21 = .ok (.putfield 153, 3) := by decide +kernel
theorem d_Model_needs_24 : decode b_Model_needs 24 = .ok (.return_, 1) := by decide +kernel
def X_Model_needs (n : Nat) (p1 : Int32) (p2 : Int32) (M : Mem) : Option (Unit × Mem) :=
  (if p1 = 0 then
    (if (M.1 0 31) = 0 then
      nm (si M 0 31 p2) fun N1 =>
      some ((), si N1 0 32 (N1.1 0 28))
      else
      some ((), M))
    else
    some ((), M))
set_option maxRecDepth 20000 in
set_option maxHeartbeats 4000000 in
theorem C_Model_needs (n : Nat)   (p1 : Int32) (p2 : Int32) (M : Mem) : Ct y_Model_needs mt_Model_needs wU [Value.ref 0, Value.int p1, Value.int p2] M (X_Model_needs n p1 p2 M) := by
  refine ct_of (by decide +kernel) rfl (Nat.le_of_ble_eq_true rfl) ?_
  show J _ _ _ [(0, Value.ref 0), (1, Value.int p1), (2, Value.int p2)] _ _ _
  unfold X_Model_needs
  refine j_iload_n (pc := 0) (q := 1) d_Model_needs_0 rfl rfl ?_
  refine j_if_ne (pc := 1) (tgt := 24) d_Model_needs_1 (by decide) (fun _ => ?_) (fun _ => ?_)
  · exact j_return (pc := 24) d_Model_needs_24 rfl
  · refine j_aload_n (pc := 4) (q := 0) d_Model_needs_4 rfl rfl ?_
    refine j_getI (pc := 5) d_Model_needs_5 fl_Model_147 sm_0 (by decide) rfl ?_
    refine j_if_ne (pc := 8) (tgt := 24) d_Model_needs_8 (by decide) (fun _ => ?_) (fun _ => ?_)
    · exact j_return (pc := 24) d_Model_needs_24 rfl
    · refine j_aload_n (pc := 11) (q := 0) d_Model_needs_11 rfl rfl ?_
      refine j_iload_n (pc := 12) (q := 2) d_Model_needs_12 rfl rfl ?_
      refine j_putI (pc := 13) d_Model_needs_13 fl_Model_147 rfl sm_0 (by decide) rfl ?_
      refine j_aload_n (pc := 16) (q := 0) d_Model_needs_16 rfl rfl ?_
      refine j_aload_n (pc := 17) (q := 0) d_Model_needs_17 rfl rfl ?_
      refine j_nmM (fun N1 => ?_)
      refine j_getI (pc := 18) d_Model_needs_18 fl_Model_150 sm_0 (by decide) rfl ?_
      refine j_putI (pc := 21) d_Model_needs_21 fl_Model_153 rfl sm_0 (by decide) rfl ?_
      exact j_return (pc := 24) d_Model_needs_24 rfl
-- Model.look (I)I
def mt_Model_look : Mt := ("ShakeHandsModel", b_Model_look, 2, some .int, 2, SHm)
theorem d_Model_look_0 : decode b_Model_look 0 = .ok (.iload_n 1, 1) := by decide +kernel
theorem d_Model_look_1 : decode b_Model_look 1 = .ok (.aload_n 0, 1) := by decide +kernel
theorem d_Model_look_2 : decode b_Model_look 2 = .ok (.getfield 138, 3) := by decide +kernel
theorem d_Model_look_5 : decode b_Model_look 5 = .ok (.if_icmp .ge 12, 3) := by decide +kernel
theorem d_Model_look_8 : decode b_Model_look 8 = .ok (.aload_n 0, 1) := by decide +kernel
theorem d_Model_look_9 : decode b_Model_look 9 = .ok (.getfield 50, 3) := by decide +kernel
theorem d_Model_look_12 : decode b_Model_look 12 = .ok (.iload_n 1, 1) := by decide +kernel
theorem d_Model_look_13 : decode b_Model_look 13 = .ok (.iaload, 1) := by decide +kernel
theorem d_Model_look_14 : decode b_Model_look 14 = .ok (.goto 4, 3) := by decide +kernel
theorem d_Model_look_17 : decode b_Model_look 17 = .ok (.iconst (-1), 1) := by decide +kernel
theorem d_Model_look_18 : decode b_Model_look 18 = .ok (.ireturn, 1) := by decide +kernel
def X_Model_look (n : Nat) (p1 : Int32) (M : Mem) : Option (Int32 × Mem) :=
  (if (M.1 0 26) ≤ p1 then
    some ((-1), M)
    else
    gd p1 320 (
      some ((M.1 14 p1.toNatClampNeg), M)))
set_option maxRecDepth 20000 in
set_option maxHeartbeats 4000000 in
theorem C_Model_look (n : Nat)   (p1 : Int32) (M : Mem) : Ct y_Model_look mt_Model_look wI [Value.ref 0, Value.int p1] M (X_Model_look n p1 M) := by
  refine ct_of (by decide +kernel) rfl (Nat.le_of_ble_eq_true rfl) ?_
  show J _ _ _ [(0, Value.ref 0), (1, Value.int p1)] _ _ _
  unfold X_Model_look
  refine j_iload_n (pc := 0) (q := 1) d_Model_look_0 rfl rfl ?_
  refine j_aload_n (pc := 1) (q := 0) d_Model_look_1 rfl rfl ?_
  refine j_getI (pc := 2) d_Model_look_2 fl_Model_138 sm_0 (by decide) rfl ?_
  refine j_icmp_ge (pc := 5) (tgt := 17) d_Model_look_5 (by decide) (fun _ => ?_) (fun _ => ?_)
  · refine j_iconst (pc := 17) d_Model_look_17 k_i_m1 ?_
    exact j_ireturn (pc := 18) d_Model_look_18 rfl
  · refine j_aload_n (pc := 8) (q := 0) d_Model_look_8 rfl rfl ?_
    refine j_getA (pc := 9) d_Model_look_9 fl_Model_50 sm_0 (by decide) rfl ?_
    refine j_iload_n (pc := 12) (q := 1) d_Model_look_12 rfl rfl ?_
    refine j_iald (pc := 13) d_Model_look_13 sm_14 (fun _ => ?_)
    refine j_goto (pc := 14) (tgt := 18) d_Model_look_14 (by decide) ?_
    exact j_ireturn (pc := 18) d_Model_look_18 rfl
-- Model.next ()V
def mt_Model_next : Mt := ("ShakeHandsModel", b_Model_next, 2, none, 3, SHm)
theorem d_Model_next_0 : decode b_Model_next 0 = .ok (.aload_n 0, 1) := by decide +kernel
theorem d_Model_next_1 : decode b_Model_next 1 = .ok (.getfield 147, 3) := by decide +kernel
theorem d_Model_next_4 : decode b_Model_next 4 = .ok (.ifCond .le 4, 3) := by decide +kernel
theorem d_Model_next_7 : decode b_Model_next 7 = .ok (.return_, 1) := by decide +kernel
theorem d_Model_next_8 : decode b_Model_next 8 = .ok (.aload_n 0, 1) := by decide +kernel
theorem d_Model_next_9 : decode b_Model_next 9 = .ok (.aload_n 0, 1) := by decide +kernel
theorem d_Model_next_10 : decode b_Model_next 10 = .ok (.getfield 156, 3) := by decide +kernel
theorem d_Model_next_13 : decode b_Model_next 13 = .ok (.invokevirtual 159, 3) := by decide +kernel
theorem d_Model_next_16 : decode b_Model_next 16 = .ok (.bipush 32, 2) := by decide +kernel
theorem d_Model_next_18 : decode b_Model_next 18 = .ok (.if_icmp .ne 16, 3) := by decide +kernel
theorem d_Model_next_21 : decode b_Model_next 21 = .ok (.aload_n 0, 1) := by decide +kernel
theorem d_Model_next_22 : decode b_Model_next 22 = .ok (.dup, 1) := by decide +kernel
theorem d_Model_next_23 : decode b_Model_next 23 = .ok (.getfield 156, 3) := by decide +kernel
theorem d_Model_next_26 : decode b_Model_next 26 = .ok (.iconst 1, 1) := by decide +kernel
theorem d_Model_next_27 : decode b_Model_next 27 = .ok (.iadd, 1) := by decide +kernel
theorem d_Model_next_28 : decode b_Model_next 28 = .ok (.putfield 156, 3) := by decide +kernel
theorem d_Model_next_31 : decode b_Model_next 31 = .ok (.goto (-23), 3) := by decide +kernel
theorem d_Model_next_34 : decode b_Model_next 34 = .ok (.aload_n 0, 1) := by decide +kernel
theorem d_Model_next_35 : decode b_Model_next 35 = .ok (.aload_n 0, 1) := by decide +kernel
theorem d_Model_next_36 : decode b_Model_next 36 = .ok (.getfield 156, 3) := by decide +kernel
theorem d_Model_next_39 : decode b_Model_next 39 = .ok (.putfield 150, 3) := by decide +kernel
theorem d_Model_next_42 : decode b_Model_next 42 = .ok (.aload_n 0, 1) := by decide +kernel
theorem d_Model_next_43 : decode b_Model_next 43 = .ok (.aload_n 0, 1) := by decide +kernel
theorem d_Model_next_44 : decode b_Model_next 44 = .ok (.getfield 156, 3) := by decide +kernel
theorem d_Model_next_47 : decode b_Model_next 47 = .ok (.invokevirtual 159, 3) := by decide +kernel
theorem d_Model_next_50 : decode b_Model_next 50 = .ok (.istore_n 1, 1) := by decide +kernel
theorem d_Model_next_51 : decode b_Model_next 51 = .ok (.iload_n 1, 1) := by decide +kernel
theorem d_Model_next_52 : decode b_Model_next 52 = .ok (.ifCond .ge 11, 3) := by decide +kernel
theorem d_Model_next_55 : decode b_Model_next 55 = .ok (.aload_n 0, 1) := by decide +kernel
theorem d_Model_next_56 : decode b_Model_next 56 = .ok (.iconst 0, 1) := by decide +kernel
theorem d_Model_next_57 : decode b_Model_next 57 = .ok (.putfield 167, 3) := by decide +kernel
theorem d_Model_next_60 : decode b_Model_next 60 = .ok (.goto 214, 3) := by decide +kernel
theorem d_Model_next_63 : decode b_Model_next 63 = .ok (.iload_n 1, 1) := by decide +kernel
theorem d_Model_next_64 : decode b_Model_next 64 = .ok (.i2l, 1) := by decide +kernel
theorem d_Model_next_65 : decode b_Model_next 65 = .ok (.ldc2_w 170, 3) := by decide +kernel
theorem d_Model_next_68 : decode b_Model_next 68 = .ok (.ldc2_w 172, 3) := by decide +kernel
theorem d_Model_next_71 : decode b_Model_next 71 = .ok (.invokestatic 143, 3) := by decide +kernel
theorem d_Model_next_74 : decode b_Model_next 74 = .ok (.ifCond .eq 42, 3) := by decide +kernel
theorem d_Model_next_77 : decode b_Model_next 77 = .ok (.aload_n 0, 1) := by decide +kernel
theorem d_Model_next_78 : decode b_Model_next 78 = .ok (.iconst 1, 1) := by decide +kernel
theorem d_Model_next_79 : decode b_Model_next 79 = .ok (.putfield 167, 3) := by decide +kernel
theorem d_Model_next_82 : decode b_Model_next 82 = .ok (.aload_n 0, 1) := by decide +kernel
theorem d_Model_next_83 : decode b_Model_next 83 = .ok (.aload_n 0, 1) := by decide +kernel
theorem d_Model_next_84 : decode b_Model_next 84 = .ok (.getfield 156, 3) := by decide +kernel
theorem d_Model_next_87 : decode b_Model_next 87 = .ok (.invokevirtual 159, 3) := by decide +kernel
theorem d_Model_next_90 : decode b_Model_next 90 = .ok (.i2l, 1) := by decide +kernel
theorem d_Model_next_91 : decode b_Model_next 91 = .ok (.ldc2_w 170, 3) := by decide +kernel
theorem d_Model_next_94 : decode b_Model_next 94 = .ok (.ldc2_w 172, 3) := by decide +kernel
theorem d_Model_next_97 : decode b_Model_next 97 = .ok (.invokestatic 143, 3) := by decide +kernel
theorem d_Model_next_100 : decode b_Model_next 100 = .ok (.ifCond .eq 174, 3) := by decide +kernel
theorem d_Model_next_103 : decode b_Model_next 103 = .ok (.aload_n 0, 1) := by decide +kernel
theorem d_Model_next_104 : decode b_Model_next 104 = .ok (.dup, 1) := by decide +kernel
theorem d_Model_next_105 : decode b_Model_next 105 = .ok (.getfield 156, 3) := by decide +kernel
theorem d_Model_next_108 : decode b_Model_next 108 = .ok (.iconst 1, 1) := by decide +kernel
theorem d_Model_next_109 : decode b_Model_next 109 = .ok (.iadd, 1) := by decide +kernel
theorem d_Model_next_110 : decode b_Model_next 110 = .ok (.putfield 156, 3) := by decide +kernel
theorem d_Model_next_113 : decode b_Model_next 113 = .ok (.goto (-31), 3) := by decide +kernel
theorem d_Model_next_116 : decode b_Model_next 116 = .ok (.iload_n 1, 1) := by decide +kernel
theorem d_Model_next_117 : decode b_Model_next 117 = .ok (.i2l, 1) := by decide +kernel
theorem d_Model_next_118 : decode b_Model_next 118 = .ok (.ldc2_w 174, 3) := by decide +kernel
theorem d_Model_next_121 : decode b_Model_next 121 = .ok (.ldc2_w 176, 3) := by decide +kernel
theorem d_Model_next_124 : decode b_Model_next 124 = .ok (.invokestatic 143, 3) := by decide +kernel
theorem d_Model_next_127 : decode b_Model_next 127 = .ok (.ifCond .eq 116, 3) := by decide +kernel
theorem d_Model_next_130 : decode b_Model_next 130 = .ok (.aload_n 0, 1) := by decide +kernel
theorem d_Model_next_131 : decode b_Model_next 131 = .ok (.iconst 2, 1) := by decide +kernel
theorem d_Model_next_132 : decode b_Model_next 132 = .ok (.putfield 167, 3) := by decide +kernel
theorem d_Model_next_135 : decode b_Model_next 135 = .ok (.aload_n 0, 1) := by decide +kernel
theorem d_Model_next_136 : decode b_Model_next 136 = .ok (.iconst 0, 1) := by decide +kernel
theorem d_Model_next_137 : decode b_Model_next 137 = .ok (.putfield 178, 3) := by decide +kernel
theorem d_Model_next_140 : decode b_Model_next 140 = .ok (.aload_n 0, 1) := by decide +kernel
theorem d_Model_next_141 : decode b_Model_next 141 = .ok (.aload_n 0, 1) := by decide +kernel
theorem d_Model_next_142 : decode b_Model_next 142 = .ok (.getfield 156, 3) := by decide +kernel
theorem d_Model_next_145 : decode b_Model_next 145 = .ok (.invokevirtual 159, 3) := by decide +kernel
theorem d_Model_next_148 : decode b_Model_next 148 = .ok (.i2l, 1) := by decide +kernel
theorem d_Model_next_149 : decode b_Model_next 149 = .ok (.ldc2_w 174, 3) := by decide +kernel
theorem d_Model_next_152 : decode b_Model_next 152 = .ok (.ldc2_w 176, 3) := by decide +kernel
theorem d_Model_next_155 : decode b_Model_next 155 = .ok (.invokestatic 143, 3) := by decide +kernel
theorem d_Model_next_158 : decode b_Model_next 158 = .ok (.ifCond .eq 59, 3) := by decide +kernel
theorem d_Model_next_161 : decode b_Model_next 161 = .ok (.aload_n 0, 1) := by decide +kernel
theorem d_Model_next_162 : decode b_Model_next 162 = .ok (.aload_n 0, 1) := by decide +kernel
theorem d_Model_next_163 : decode b_Model_next 163 = .ok (.getfield 156, 3) := by decide +kernel
theorem d_Model_next_166 : decode b_Model_next 166 = .ok (.aload_n 0, 1) := by decide +kernel
theorem d_Model_next_167 : decode b_Model_next 167 = .ok (.getfield 150, 3) := by decide +kernel
theorem d_Model_next_170 : decode b_Model_next 170 = .ok (.isub, 1) := by decide +kernel
theorem d_Model_next_171 : decode b_Model_next 171 = .ok (.iconst 2, 1) := by decide +kernel
theorem d_Model_next_172 : decode b_Model_next 172 = .ok (.if_icmp .ge 25, 3) := by decide +kernel
theorem d_Model_next_175 : decode b_Model_next 175 = .ok (.bipush 10, 2) := by decide +kernel
theorem d_Model_next_177 : decode b_Model_next 177 = .ok (.aload_n 0, 1) := by decide +kernel
theorem d_Model_next_178 : decode b_Model_next 178 = .ok (.getfield 178, 3) := by decide +kernel
theorem d_Model_next_181 : decode b_Model_next 181 = .ok (.imul, 1) := by decide +kernel
theorem d_Model_next_182 : decode b_Model_next 182 = .ok (.aload_n 0, 1) := by decide +kernel
theorem d_Model_next_183 : decode b_Model_next 183 = .ok (.aload_n 0, 1) := by decide +kernel
theorem d_Model_next_184 : decode b_Model_next 184 = .ok (.getfield 156, 3) := by decide +kernel
theorem d_Model_next_187 : decode b_Model_next 187 = .ok (.invokevirtual 159, 3) := by decide +kernel
theorem d_Model_next_190 : decode b_Model_next 190 = .ok (.iadd, 1) := by decide +kernel
theorem d_Model_next_191 : decode b_Model_next 191 = .ok (.bipush 48, 2) := by decide +kernel
theorem d_Model_next_193 : decode b_Model_next 193 = .ok (.isub, 1) := by decide +kernel
theorem d_Model_next_194 : decode b_Model_next 194 = .ok (.goto 7, 3) := by decide +kernel
theorem d_Model_next_197 : decode b_Model_next 197 = .ok (.aload_n 0, 1) := by decide +kernel
theorem d_Model_next_198 : decode b_Model_next 198 = .ok (.getfield 178, 3) := by decide +kernel
theorem d_Model_next_201 : decode b_Model_next 201 = .ok (.putfield 178, 3) := by decide +kernel
theorem d_Model_next_204 : decode b_Model_next 204 = .ok (.aload_n 0, 1) := by decide +kernel
theorem d_Model_next_205 : decode b_Model_next 205 = .ok (.dup, 1) := by decide +kernel
theorem d_Model_next_206 : decode b_Model_next 206 = .ok (.getfield 156, 3) := by decide +kernel
theorem d_Model_next_209 : decode b_Model_next 209 = .ok (.iconst 1, 1) := by decide +kernel
theorem d_Model_next_210 : decode b_Model_next 210 = .ok (.iadd, 1) := by decide +kernel
theorem d_Model_next_211 : decode b_Model_next 211 = .ok (.putfield 156, 3) := by decide +kernel
theorem d_Model_next_214 : decode b_Model_next 214 = .ok (.goto (-74), 3) := by decide +kernel
theorem d_Model_next_217 : decode b_Model_next 217 = .ok (.aload_n 0, 1) := by decide +kernel
theorem d_Model_next_218 : decode b_Model_next 218 = .ok (.aload_n 0, 1) := by decide +kernel
theorem d_Model_next_219 : decode b_Model_next 219 = .ok (.getfield 156, 3) := by decide +kernel
theorem d_Model_next_222 : decode b_Model_next 222 = .ok (.aload_n 0, 1) := by decide +kernel
theorem d_Model_next_223 : decode b_Model_next 223 = .ok (.getfield 150, 3) := by decide +kernel
theorem d_Model_next_226 : decode b_Model_next 226 = .ok (.isub, 1) := by decide +kernel
theorem d_Model_next_227 : decode b_Model_next 227 = .ok (.iconst 2, 1) := by decide +kernel
theorem d_Model_next_228 : decode b_Model_next 228 = .ok (.if_icmp .gt 7, 3) := by decide +kernel
theorem d_Model_next_231 : decode b_Model_next 231 = .ok (.iconst 1, 1) := by decide +kernel
theorem d_Model_next_232 : decode b_Model_next 232 = .ok (.goto 4, 3) := by decide +kernel
theorem d_Model_next_235 : decode b_Model_next 235 = .ok (.iconst 0, 1) := by decide +kernel
theorem d_Model_next_236 : decode b_Model_next 236 = .ok (.iconst 1, 1) := by decide +kernel
theorem d_Model_next_237 : decode b_Model_next 237 = .ok (.invokevirtual 181, 3) := by decide +kernel
theorem d_Model_next_240 : decode b_Model_next 240 = .ok (.goto 34, 3) := by decide +kernel
theorem d_Model_next_243 : decode b_Model_next 243 = .ok (.aload_n 0, 1) := by decide +kernel
theorem d_Model_next_244 : decode b_Model_next 244 = .ok (.iconst 3, 1) := by decide +kernel
theorem d_Model_next_245 : decode b_Model_next 245 = .ok (.putfield 167, 3) := by decide +kernel
theorem d_Model_next_248 : decode b_Model_next 248 = .ok (.aload_n 0, 1) := by decide +kernel
theorem d_Model_next_249 : decode b_Model_next 249 = .ok (.iload_n 1, 1) := by decide +kernel
theorem d_Model_next_250 : decode b_Model_next 250 = .ok (.bipush 59, 2) := by decide +kernel
theorem d_Model_next_252 : decode b_Model_next 252 = .ok (.if_icmp .ne 7, 3) := by decide +kernel
theorem d_Model_next_255 : decode b_Model_next 255 = .ok (.iconst 1, 1) := by decide +kernel
theorem d_Model_next_256 : decode b_Model_next 256 = .ok (.goto 4, 3) := by decide +kernel
theorem d_Model_next_259 : decode b_Model_next 259 = .ok (.iconst 0, 1) := by decide +kernel
theorem d_Model_next_260 : decode b_Model_next 260 = .ok (.iconst 1, 1) := by decide +kernel
theorem d_Model_next_261 : decode b_Model_next 261 = .ok (.invokevirtual 181, 3) := by decide +kernel
theorem d_Model_next_264 : decode b_Model_next 264 = .ok (.aload_n 0, 1) := by decide +kernel
theorem d_Model_next_265 : decode b_Model_next 265 = .ok (.dup, 1) := by decide +kernel
theorem d_Model_next_266 : decode b_Model_next 266 = .ok (.getfield 156, 3) := by decide +kernel
theorem d_Model_next_269 : decode b_Model_next 269 = .ok (.iconst 1, 1) := by decide +kernel
theorem d_Model_next_270 : decode b_Model_next 270 = .ok (.iadd, 1) := by decide +kernel
theorem d_Model_next_271 : decode b_Model_next 271 = .ok (.putfield 156, 3) := by decide +kernel
theorem d_Model_next_274 : decode b_Model_next 274 = .ok (.return_, 1) := by decide +kernel
def X_Model_next_L8 (n : Nat) (kx34 : Mem → Option (Unit × Mem)) : Nat → Mem → Option (Unit × Mem)
    | 0, _ => none
    | m + 1, M => bd (X_Model_look n (M.1 0 27) M) fun r1 M2 =>
  (if r1 = 32 then
    X_Model_next_L8 n kx34 m (si M2 0 27 ((M2.1 0 27) + 1))
    else
    kx34 M2)
def X_Model_next_L140 (n : Nat) (kx217 : Mem → Option (Unit × Mem)) : Nat → Mem → Option (Unit × Mem)
    | 0, _ => none
    | m + 1, M => bd (X_Model_look n (M.1 0 27) M) fun r15 M16 =>
  bd (X_Model_in n (r15.toInt64) 48 57 M16) fun r17 M18 =>
  (if r17 = 0 then
    kx217 M18
    else
    nm (fun (u19 : Int32) (M20 : Mem) => (nm (si M20 0 30 u19) fun N21 =>
        X_Model_next_L140 n kx217 m (si N21 0 27 ((N21.1 0 27) + 1)) : Option (Unit × Mem))) fun k201 =>
    (if 2 ≤ ((M18.1 0 27) - (M18.1 0 28)) then
      k201 (M18.1 0 30) M18
      else
      bd (X_Model_look n (M18.1 0 27) M18) fun r22 M23 =>
      k201 ((((10 : Int32) * (M18.1 0 30)) + r22) - 48) M23))
def X_Model_next_L82 (n : Nat) : Nat → Mem → Option (Unit × Mem)
    | 0, _ => none
    | m + 1, M => bd (X_Model_look n (M.1 0 27) M) fun r28 M29 =>
  bd (X_Model_in n (r28.toInt64) 97 122 M29) fun r30 M31 =>
  (if r30 = 0 then
    some ((), M31)
    else
    X_Model_next_L82 n m (si M31 0 27 ((M31.1 0 27) + 1)))
def X_Model_next (n : Nat) (M : Mem) : Option (Unit × Mem) :=
  (if (M.1 0 31) ≤ 0 then
    X_Model_next_L8 n (fun M3 => nm (si M3 0 28 (M3.1 0 27)) fun N4 =>
      bd (X_Model_look n (N4.1 0 27) N4) fun r5 M6 =>
      (if 0 ≤ r5 then
        bd (X_Model_in n (r5.toInt64) 97 122 M6) fun r7 M8 =>
        (if r7 = 0 then
          bd (X_Model_in n (r5.toInt64) 48 57 M8) fun r9 M10 =>
          (if r9 = 0 then
            nm (si M10 0 29 3) fun N12 =>
            nm (fun (u11 : Int32) => (bd (X_Model_needs n u11 1 N12) fun _ M14 =>
                some ((), si M14 0 27 ((M14.1 0 27) + 1)) : Option (Unit × Mem))) fun k260 =>
            (if r5 = 59 then
              k260 1
              else
              k260 0)
            else
            X_Model_next_L140 n (fun M24 => nm (fun (u25 : Int32) => (bd (X_Model_needs n u25 1 M24) fun _ M27 =>
                  some ((), M27) : Option (Unit × Mem))) fun k236 =>
              (if 2 < ((M24.1 0 27) - (M24.1 0 28)) then
                k236 0
                else
                k236 1)) n (si (si M10 0 29 2) 0 30 0))
          else
          X_Model_next_L82 n n (si M8 0 29 1))
        else
        some ((), si M6 0 29 0))) n M
    else
    some ((), M))
set_option maxRecDepth 20000 in
set_option maxHeartbeats 4000000 in
theorem X_Model_next_L8_ok {n : Nat} {kx34 : Mem → Option (Unit × Mem)} (hkx34 : ∀ (M : Mem), J (mt_Model_next) wU 34 [(0, Value.ref 0)] [] M (kx34 M)) : ∀ (m : Nat) (M : Mem), J (mt_Model_next) wU 8 [(0, Value.ref 0)] [] M (X_Model_next_L8 n kx34 m M) := by
  intro m
  induction m with
  | zero => intro _; exact j_none
  | succ m ih =>
    intro M
    show J _ _ _ _ _ _ (bd (X_Model_look n (M.1 0 27) M) fun r1 M2 =>
(if r1 = 32 then
X_Model_next_L8 n kx34 m (si M2 0 27 ((M2.1 0 27) + 1))
else
kx34 M2))
    refine j_aload_n (pc := 8) (q := 0) d_Model_next_8 rfl rfl ?_
    refine j_aload_n (pc := 9) (q := 0) d_Model_next_9 rfl rfl ?_
    refine j_getI (pc := 10) d_Model_next_10 fl_Model_156 sm_0 (by decide) rfl ?_
    refine j_callV1 (pc := 13) d_Model_next_13 (C_Model_look n (M.1 0 27) M) cV_Model_159 cd_Model_look dn_Model_look rfl (by decide) (Nat.le_of_ble_eq_true rfl) (Nat.le_of_ble_eq_true rfl) nr_I sm_0 (by decide) rfl (fun r1 M2 => ?_)
    refine j_bipush (pc := 16) d_Model_next_16 k_b_32 ?_
    refine j_icmp_ne (pc := 18) (tgt := 34) d_Model_next_18 (by decide) (fun _ => ?_) (fun _ => ?_)
    · exact hkx34 M2
    · refine j_aload_n (pc := 21) (q := 0) d_Model_next_21 rfl rfl ?_
      refine j_dup (pc := 22) d_Model_next_22 rfl ?_
      refine j_getI (pc := 23) d_Model_next_23 fl_Model_156 sm_0 (by decide) rfl ?_
      refine j_iconst (pc := 26) d_Model_next_26 k_i_1 ?_
      refine j_iadd (pc := 27) d_Model_next_27 ?_
      refine j_putI (pc := 28) d_Model_next_28 fl_Model_156 rfl sm_0 (by decide) rfl ?_
      refine j_goto (pc := 31) (tgt := 8) d_Model_next_31 (by decide) ?_
      exact ih (si M2 0 27 ((M2.1 0 27) + 1))
set_option maxRecDepth 20000 in
set_option maxHeartbeats 4000000 in
theorem X_Model_next_L140_ok {n : Nat} {kx217 : Mem → Option (Unit × Mem)} (hkx217 : ∀ (M : Mem), J (mt_Model_next) wU 217 [(0, Value.ref 0)] [] M (kx217 M)) : ∀ (m : Nat) (M : Mem), J (mt_Model_next) wU 140 [(0, Value.ref 0)] [] M (X_Model_next_L140 n kx217 m M) := by
  intro m
  induction m with
  | zero => intro _; exact j_none
  | succ m ih =>
    intro M
    show J _ _ _ _ _ _ (bd (X_Model_look n (M.1 0 27) M) fun r15 M16 =>
bd (X_Model_in n (r15.toInt64) 48 57 M16) fun r17 M18 =>
(if r17 = 0 then
kx217 M18
else
nm (fun (u19 : Int32) (M20 : Mem) => (nm (si M20 0 30 u19) fun N21 =>
X_Model_next_L140 n kx217 m (si N21 0 27 ((N21.1 0 27) + 1)) : Option (Unit × Mem))) fun k201 =>
(if 2 ≤ ((M18.1 0 27) - (M18.1 0 28)) then
k201 (M18.1 0 30) M18
else
bd (X_Model_look n (M18.1 0 27) M18) fun r22 M23 =>
k201 ((((10 : Int32) * (M18.1 0 30)) + r22) - 48) M23)))
    refine j_aload_n (pc := 140) (q := 0) d_Model_next_140 rfl rfl ?_
    refine j_aload_n (pc := 141) (q := 0) d_Model_next_141 rfl rfl ?_
    refine j_getI (pc := 142) d_Model_next_142 fl_Model_156 sm_0 (by decide) rfl ?_
    refine j_callV1 (pc := 145) d_Model_next_145 (C_Model_look n (M.1 0 27) M) cV_Model_159 cd_Model_look dn_Model_look rfl (by decide) (Nat.le_of_ble_eq_true rfl) (Nat.le_of_ble_eq_true rfl) nr_I sm_0 (by decide) rfl (fun r15 M16 => ?_)
    refine j_i2l (pc := 148) d_Model_next_148 ?_
    refine j_ldc2 (pc := 149) d_Model_next_149 cl_Model_174 ?_
    refine j_ldc2 (pc := 152) d_Model_next_152 cl_Model_176 ?_
    refine j_callS3 (pc := 155) d_Model_next_155 (C_Model_in n (r15.toInt64) 48 57 M16) cS_Model_143 cd_Model_in dn_Model_in rfl (by decide) (Nat.le_of_ble_eq_true rfl) (Nat.le_of_ble_eq_true rfl) nr_I (fun r17 M18 => ?_)
    refine j_if_eq (pc := 158) (tgt := 217) d_Model_next_158 (by decide) (fun _ => ?_) (fun _ => ?_)
    · exact hkx217 M18
    · refine j_aload_n (pc := 161) (q := 0) d_Model_next_161 rfl rfl ?_
      refine j_aload_n (pc := 162) (q := 0) d_Model_next_162 rfl rfl ?_
      refine j_getI (pc := 163) d_Model_next_163 fl_Model_156 sm_0 (by decide) rfl ?_
      refine j_aload_n (pc := 166) (q := 0) d_Model_next_166 rfl rfl ?_
      refine j_getI (pc := 167) d_Model_next_167 fl_Model_150 sm_0 (by decide) rfl ?_
      refine j_isub (pc := 170) d_Model_next_170 ?_
      refine j_iconst (pc := 171) d_Model_next_171 k_i_2 ?_
      refine j_nmk (fun k => ∀ (u19 : Int32) (M20 : Mem), J (mt_Model_next) wU 201 [(0, Value.ref 0)] [Value.int u19, Value.ref 0] M20 (k u19 M20)) (fun u19 M20 => ?_) (fun k201 hk201 => ?_)
      · refine j_putI (pc := 201) d_Model_next_201 fl_Model_178 rfl sm_0 (by decide) rfl ?_
        refine j_aload_n (pc := 204) (q := 0) d_Model_next_204 rfl rfl ?_
        refine j_dup (pc := 205) d_Model_next_205 rfl ?_
        refine j_nmM (fun N21 => ?_)
        refine j_getI (pc := 206) d_Model_next_206 fl_Model_156 sm_0 (by decide) rfl ?_
        refine j_iconst (pc := 209) d_Model_next_209 k_i_1 ?_
        refine j_iadd (pc := 210) d_Model_next_210 ?_
        refine j_putI (pc := 211) d_Model_next_211 fl_Model_156 rfl sm_0 (by decide) rfl ?_
        refine j_goto (pc := 214) (tgt := 140) d_Model_next_214 (by decide) ?_
        exact ih (si N21 0 27 ((N21.1 0 27) + 1))
      · refine j_icmp_ge (pc := 172) (tgt := 197) d_Model_next_172 (by decide) (fun _ => ?_) (fun _ => ?_)
        · refine j_aload_n (pc := 197) (q := 0) d_Model_next_197 rfl rfl ?_
          refine j_getI (pc := 198) d_Model_next_198 fl_Model_178 sm_0 (by decide) rfl ?_
          exact hk201 (M18.1 0 30) M18
        · refine j_bipush (pc := 175) d_Model_next_175 k_b_10 ?_
          refine j_aload_n (pc := 177) (q := 0) d_Model_next_177 rfl rfl ?_
          refine j_getI (pc := 178) d_Model_next_178 fl_Model_178 sm_0 (by decide) rfl ?_
          refine j_imul (pc := 181) d_Model_next_181 ?_
          refine j_aload_n (pc := 182) (q := 0) d_Model_next_182 rfl rfl ?_
          refine j_aload_n (pc := 183) (q := 0) d_Model_next_183 rfl rfl ?_
          refine j_getI (pc := 184) d_Model_next_184 fl_Model_156 sm_0 (by decide) rfl ?_
          refine j_callV1 (pc := 187) d_Model_next_187 (C_Model_look n (M18.1 0 27) M18) cV_Model_159 cd_Model_look dn_Model_look rfl (by decide) (Nat.le_of_ble_eq_true rfl) (Nat.le_of_ble_eq_true rfl) nr_I sm_0 (by decide) rfl (fun r22 M23 => ?_)
          refine j_iadd (pc := 190) d_Model_next_190 ?_
          refine j_bipush (pc := 191) d_Model_next_191 k_b_48 ?_
          refine j_isub (pc := 193) d_Model_next_193 ?_
          refine j_goto (pc := 194) (tgt := 201) d_Model_next_194 (by decide) ?_
          exact hk201 ((((10 : Int32) * (M18.1 0 30)) + r22) - 48) M23
set_option maxRecDepth 20000 in
set_option maxHeartbeats 4000000 in
theorem X_Model_next_L82_ok {n : Nat} : ∀ (m : Nat) (M : Mem), J (mt_Model_next) wU 82 [(0, Value.ref 0)] [] M (X_Model_next_L82 n m M) := by
  intro m
  induction m with
  | zero => intro _; exact j_none
  | succ m ih =>
    intro M
    show J _ _ _ _ _ _ (bd (X_Model_look n (M.1 0 27) M) fun r28 M29 =>
bd (X_Model_in n (r28.toInt64) 97 122 M29) fun r30 M31 =>
(if r30 = 0 then
some ((), M31)
else
X_Model_next_L82 n m (si M31 0 27 ((M31.1 0 27) + 1))))
    refine j_aload_n (pc := 82) (q := 0) d_Model_next_82 rfl rfl ?_
    refine j_aload_n (pc := 83) (q := 0) d_Model_next_83 rfl rfl ?_
    refine j_getI (pc := 84) d_Model_next_84 fl_Model_156 sm_0 (by decide) rfl ?_
    refine j_callV1 (pc := 87) d_Model_next_87 (C_Model_look n (M.1 0 27) M) cV_Model_159 cd_Model_look dn_Model_look rfl (by decide) (Nat.le_of_ble_eq_true rfl) (Nat.le_of_ble_eq_true rfl) nr_I sm_0 (by decide) rfl (fun r28 M29 => ?_)
    refine j_i2l (pc := 90) d_Model_next_90 ?_
    refine j_ldc2 (pc := 91) d_Model_next_91 cl_Model_170 ?_
    refine j_ldc2 (pc := 94) d_Model_next_94 cl_Model_172 ?_
    refine j_callS3 (pc := 97) d_Model_next_97 (C_Model_in n (r28.toInt64) 97 122 M29) cS_Model_143 cd_Model_in dn_Model_in rfl (by decide) (Nat.le_of_ble_eq_true rfl) (Nat.le_of_ble_eq_true rfl) nr_I (fun r30 M31 => ?_)
    refine j_if_eq (pc := 100) (tgt := 274) d_Model_next_100 (by decide) (fun _ => ?_) (fun _ => ?_)
    · exact j_return (pc := 274) d_Model_next_274 rfl
    · refine j_aload_n (pc := 103) (q := 0) d_Model_next_103 rfl rfl ?_
      refine j_dup (pc := 104) d_Model_next_104 rfl ?_
      refine j_getI (pc := 105) d_Model_next_105 fl_Model_156 sm_0 (by decide) rfl ?_
      refine j_iconst (pc := 108) d_Model_next_108 k_i_1 ?_
      refine j_iadd (pc := 109) d_Model_next_109 ?_
      refine j_putI (pc := 110) d_Model_next_110 fl_Model_156 rfl sm_0 (by decide) rfl ?_
      refine j_goto (pc := 113) (tgt := 82) d_Model_next_113 (by decide) ?_
      exact ih (si M31 0 27 ((M31.1 0 27) + 1))
set_option maxRecDepth 20000 in
set_option maxHeartbeats 4000000 in
theorem C_Model_next (n : Nat)    (M : Mem) : Ct y_Model_next mt_Model_next wU [Value.ref 0] M (X_Model_next n M) := by
  refine ct_of (by decide +kernel) rfl (Nat.le_of_ble_eq_true rfl) ?_
  show J _ _ _ [(0, Value.ref 0)] _ _ _
  unfold X_Model_next
  refine j_aload_n (pc := 0) (q := 0) d_Model_next_0 rfl rfl ?_
  refine j_getI (pc := 1) d_Model_next_1 fl_Model_147 sm_0 (by decide) rfl ?_
  refine j_if_le (pc := 4) (tgt := 8) d_Model_next_4 (by decide) (fun _ => ?_) (fun _ => ?_)
  · refine X_Model_next_L8_ok  (fun M3 => ?_) n M
    refine j_aload_n (pc := 34) (q := 0) d_Model_next_34 rfl rfl ?_
    refine j_aload_n (pc := 35) (q := 0) d_Model_next_35 rfl rfl ?_
    refine j_getI (pc := 36) d_Model_next_36 fl_Model_156 sm_0 (by decide) rfl ?_
    refine j_putI (pc := 39) d_Model_next_39 fl_Model_150 rfl sm_0 (by decide) rfl ?_
    refine j_aload_n (pc := 42) (q := 0) d_Model_next_42 rfl rfl ?_
    refine j_aload_n (pc := 43) (q := 0) d_Model_next_43 rfl rfl ?_
    refine j_nmM (fun N4 => ?_)
    refine j_getI (pc := 44) d_Model_next_44 fl_Model_156 sm_0 (by decide) rfl ?_
    refine j_callV1 (pc := 47) d_Model_next_47 (C_Model_look n (N4.1 0 27) N4) cV_Model_159 cd_Model_look dn_Model_look rfl (by decide) (Nat.le_of_ble_eq_true rfl) (Nat.le_of_ble_eq_true rfl) nr_I sm_0 (by decide) rfl (fun r5 M6 => ?_)
    refine j_istore_n (pc := 50) d_Model_next_50 rfl (by decide) rfl ?_
    refine j_iload_n (pc := 51) (q := 0) d_Model_next_51 rfl rfl ?_
    refine j_if_ge (pc := 52) (tgt := 63) d_Model_next_52 (by decide) (fun _ => ?_) (fun _ => ?_)
    · refine j_iload_n (pc := 63) (q := 0) d_Model_next_63 rfl rfl ?_
      refine j_i2l (pc := 64) d_Model_next_64 ?_
      refine j_ldc2 (pc := 65) d_Model_next_65 cl_Model_170 ?_
      refine j_ldc2 (pc := 68) d_Model_next_68 cl_Model_172 ?_
      refine j_callS3 (pc := 71) d_Model_next_71 (C_Model_in n (r5.toInt64) 97 122 M6) cS_Model_143 cd_Model_in dn_Model_in rfl (by decide) (Nat.le_of_ble_eq_true rfl) (Nat.le_of_ble_eq_true rfl) nr_I (fun r7 M8 => ?_)
      refine j_if_eq (pc := 74) (tgt := 116) d_Model_next_74 (by decide) (fun _ => ?_) (fun _ => ?_)
      · refine j_iload_n (pc := 116) (q := 0) d_Model_next_116 rfl rfl ?_
        refine j_i2l (pc := 117) d_Model_next_117 ?_
        refine j_ldc2 (pc := 118) d_Model_next_118 cl_Model_174 ?_
        refine j_ldc2 (pc := 121) d_Model_next_121 cl_Model_176 ?_
        refine j_callS3 (pc := 124) d_Model_next_124 (C_Model_in n (r5.toInt64) 48 57 M8) cS_Model_143 cd_Model_in dn_Model_in rfl (by decide) (Nat.le_of_ble_eq_true rfl) (Nat.le_of_ble_eq_true rfl) nr_I (fun r9 M10 => ?_)
        refine j_if_eq (pc := 127) (tgt := 243) d_Model_next_127 (by decide) (fun _ => ?_) (fun _ => ?_)
        · refine j_aload_n (pc := 243) (q := 1) d_Model_next_243 rfl rfl ?_
          refine j_iconst (pc := 244) d_Model_next_244 k_i_3 ?_
          refine j_putI (pc := 245) d_Model_next_245 fl_Model_167 rfl sm_0 (by decide) rfl ?_
          refine j_aload_n (pc := 248) (q := 1) d_Model_next_248 rfl rfl ?_
          refine j_iload_n (pc := 249) (q := 0) d_Model_next_249 rfl rfl ?_
          refine j_bipush (pc := 250) d_Model_next_250 k_b_59 ?_
          refine j_nmM (fun N12 => ?_)
          refine j_nmk (fun k => ∀ (u11 : Int32), J (mt_Model_next) wU 260 [(0, Value.ref 0)] [Value.int u11, Value.ref 0] N12 (k u11)) (fun u11 => ?_) (fun k260 hk260 => ?_)
          · refine j_iconst (pc := 260) d_Model_next_260 k_i_1 ?_
            refine j_callV2 (pc := 261) d_Model_next_261 (C_Model_needs n u11 1 N12) cV_Model_181 cd_Model_needs dn_Model_needs rfl (by decide) (Nat.le_of_ble_eq_true rfl) (Nat.le_of_ble_eq_true rfl) nr_U sm_0 (by decide) rfl (fun r13 M14 => ?_)
            refine j_aload_n (pc := 264) (q := 0) d_Model_next_264 rfl rfl ?_
            refine j_dup (pc := 265) d_Model_next_265 rfl ?_
            refine j_getI (pc := 266) d_Model_next_266 fl_Model_156 sm_0 (by decide) rfl ?_
            refine j_iconst (pc := 269) d_Model_next_269 k_i_1 ?_
            refine j_iadd (pc := 270) d_Model_next_270 ?_
            refine j_putI (pc := 271) d_Model_next_271 fl_Model_156 rfl sm_0 (by decide) rfl ?_
            exact j_return (pc := 274) d_Model_next_274 rfl
          · refine j_icmp_ne (pc := 252) (tgt := 259) d_Model_next_252 (by decide) (fun _ => ?_) (fun _ => ?_)
            · refine j_iconst (pc := 259) d_Model_next_259 k_i_0 ?_
              refine j_lv [1] rfl ?_
              exact hk260 0
            · refine j_iconst (pc := 255) d_Model_next_255 k_i_1 ?_
              refine j_goto (pc := 256) (tgt := 260) d_Model_next_256 (by decide) ?_
              refine j_lv [1] rfl ?_
              exact hk260 1
        · refine j_aload_n (pc := 130) (q := 1) d_Model_next_130 rfl rfl ?_
          refine j_iconst (pc := 131) d_Model_next_131 k_i_2 ?_
          refine j_putI (pc := 132) d_Model_next_132 fl_Model_167 rfl sm_0 (by decide) rfl ?_
          refine j_aload_n (pc := 135) (q := 1) d_Model_next_135 rfl rfl ?_
          refine j_iconst (pc := 136) d_Model_next_136 k_i_0 ?_
          refine j_putI (pc := 137) d_Model_next_137 fl_Model_178 rfl sm_0 (by decide) rfl ?_
          refine j_lv [1] rfl ?_
          refine X_Model_next_L140_ok  (fun M24 => ?_) n (si (si M10 0 29 2) 0 30 0)
          refine j_aload_n (pc := 217) (q := 0) d_Model_next_217 rfl rfl ?_
          refine j_aload_n (pc := 218) (q := 0) d_Model_next_218 rfl rfl ?_
          refine j_getI (pc := 219) d_Model_next_219 fl_Model_156 sm_0 (by decide) rfl ?_
          refine j_aload_n (pc := 222) (q := 0) d_Model_next_222 rfl rfl ?_
          refine j_getI (pc := 223) d_Model_next_223 fl_Model_150 sm_0 (by decide) rfl ?_
          refine j_isub (pc := 226) d_Model_next_226 ?_
          refine j_iconst (pc := 227) d_Model_next_227 k_i_2 ?_
          refine j_nmk (fun k => ∀ (u25 : Int32), J (mt_Model_next) wU 236 [] [Value.int u25, Value.ref 0] M24 (k u25)) (fun u25 => ?_) (fun k236 hk236 => ?_)
          · refine j_iconst (pc := 236) d_Model_next_236 k_i_1 ?_
            refine j_callV2 (pc := 237) d_Model_next_237 (C_Model_needs n u25 1 M24) cV_Model_181 cd_Model_needs dn_Model_needs rfl (by decide) (Nat.le_of_ble_eq_true rfl) (Nat.le_of_ble_eq_true rfl) nr_U sm_0 (by decide) rfl (fun r26 M27 => ?_)
            refine j_goto (pc := 240) (tgt := 274) d_Model_next_240 (by decide) ?_
            exact j_return (pc := 274) d_Model_next_274 rfl
          · refine j_icmp_gt (pc := 228) (tgt := 235) d_Model_next_228 (by decide) (fun _ => ?_) (fun _ => ?_)
            · refine j_iconst (pc := 235) d_Model_next_235 k_i_0 ?_
              refine j_lv [] rfl ?_
              exact hk236 0
            · refine j_iconst (pc := 231) d_Model_next_231 k_i_1 ?_
              refine j_goto (pc := 232) (tgt := 236) d_Model_next_232 (by decide) ?_
              refine j_lv [] rfl ?_
              exact hk236 1
      · refine j_aload_n (pc := 77) (q := 1) d_Model_next_77 rfl rfl ?_
        refine j_iconst (pc := 78) d_Model_next_78 k_i_1 ?_
        refine j_putI (pc := 79) d_Model_next_79 fl_Model_167 rfl sm_0 (by decide) rfl ?_
        refine j_lv [1] rfl ?_
        exact X_Model_next_L82_ok   n (si M8 0 29 1)
    · refine j_aload_n (pc := 55) (q := 1) d_Model_next_55 rfl rfl ?_
      refine j_iconst (pc := 56) d_Model_next_56 k_i_0 ?_
      refine j_putI (pc := 57) d_Model_next_57 fl_Model_167 rfl sm_0 (by decide) rfl ?_
      refine j_goto (pc := 60) (tgt := 274) d_Model_next_60 (by decide) ?_
      exact j_return (pc := 274) d_Model_next_274 rfl
  · exact j_return (pc := 7) d_Model_next_7 rfl
-- Model.is (IIIII)Z
def mt_Model_is : Mt := ("ShakeHandsModel", b_Model_is, 6, some .boolean, 3, SHm)
theorem d_Model_is_0 : decode b_Model_is 0 = .ok (.aload_n 0, 1) := by decide +kernel
theorem d_Model_is_1 : decode b_Model_is 1 = .ok (.getfield 156, 3) := by decide +kernel
theorem d_Model_is_4 : decode b_Model_is 4 = .ok (.aload_n 0, 1) := by decide +kernel
theorem d_Model_is_5 : decode b_Model_is 5 = .ok (.getfield 150, 3) := by decide +kernel
theorem d_Model_is_8 : decode b_Model_is 8 = .ok (.isub, 1) := by decide +kernel
theorem d_Model_is_9 : decode b_Model_is 9 = .ok (.iload_n 1, 1) := by decide +kernel
theorem d_Model_is_10 : decode b_Model_is 10 = .ok (.if_icmp .ne 63, 3) := by decide +kernel
theorem d_Model_is_13 : decode b_Model_is 13 = .ok (.aload_n 0, 1) := by decide +kernel
theorem d_Model_is_14 : decode b_Model_is 14 = .ok (.aload_n 0, 1) := by decide +kernel
theorem d_Model_is_15 : decode b_Model_is 15 = .ok (.getfield 150, 3) := by decide +kernel
theorem d_Model_is_18 : decode b_Model_is 18 = .ok (.invokevirtual 159, 3) := by decide +kernel
theorem d_Model_is_21 : decode b_Model_is 21 = .ok (.iload_n 2, 1) := by decide +kernel
theorem d_Model_is_22 : decode b_Model_is 22 = .ok (.if_icmp .ne 51, 3) := by decide +kernel
theorem d_Model_is_25 : decode b_Model_is 25 = .ok (.aload_n 0, 1) := by decide +kernel
theorem d_Model_is_26 : decode b_Model_is 26 = .ok (.aload_n 0, 1) := by decide +kernel
theorem d_Model_is_27 : decode b_Model_is 27 = .ok (.getfield 150, 3) := by decide +kernel
theorem d_Model_is_30 : decode b_Model_is 30 = .ok (.iconst 1, 1) := by decide +kernel
theorem d_Model_is_31 : decode b_Model_is 31 = .ok (.iadd, 1) := by decide +kernel
theorem d_Model_is_32 : decode b_Model_is 32 = .ok (.invokevirtual 159, 3) := by decide +kernel
theorem d_Model_is_35 : decode b_Model_is 35 = .ok (.iload_n 3, 1) := by decide +kernel
theorem d_Model_is_36 : decode b_Model_is 36 = .ok (.if_icmp .ne 37, 3) := by decide +kernel
theorem d_Model_is_39 : decode b_Model_is 39 = .ok (.aload_n 0, 1) := by decide +kernel
theorem d_Model_is_40 : decode b_Model_is 40 = .ok (.aload_n 0, 1) := by decide +kernel
theorem d_Model_is_41 : decode b_Model_is 41 = .ok (.getfield 150, 3) := by decide +kernel
theorem d_Model_is_44 : decode b_Model_is 44 = .ok (.iconst 2, 1) := by decide +kernel
theorem d_Model_is_45 : decode b_Model_is 45 = .ok (.iadd, 1) := by decide +kernel
theorem d_Model_is_46 : decode b_Model_is 46 = .ok (.invokevirtual 159, 3) := by decide +kernel
theorem d_Model_is_49 : decode b_Model_is 49 = .ok (.iload 4, 2) := by decide +kernel
theorem d_Model_is_51 : decode b_Model_is 51 = .ok (.if_icmp .ne 22, 3) := by decide +kernel
theorem d_Model_is_54 : decode b_Model_is 54 = .ok (.aload_n 0, 1) := by decide +kernel
theorem d_Model_is_55 : decode b_Model_is 55 = .ok (.aload_n 0, 1) := by decide +kernel
theorem d_Model_is_56 : decode b_Model_is 56 = .ok (.getfield 150, 3) := by decide +kernel
theorem d_Model_is_59 : decode b_Model_is 59 = .ok (.iconst 3, 1) := by decide +kernel
theorem d_Model_is_60 : decode b_Model_is 60 = .ok (.iadd, 1) := by decide +kernel
theorem d_Model_is_61 : decode b_Model_is 61 = .ok (.invokevirtual 159, 3) := by decide +kernel
theorem d_Model_is_64 : decode b_Model_is 64 = .ok (.iload 5, 2) := by decide +kernel
theorem d_Model_is_66 : decode b_Model_is 66 = .ok (.if_icmp .ne 7, 3) := by decide +kernel
theorem d_Model_is_69 : decode b_Model_is 69 = .ok (.iconst 1, 1) := by decide +kernel
theorem d_Model_is_70 : decode b_Model_is 70 = .ok (.goto 4, 3) := by decide +kernel
theorem d_Model_is_73 : decode b_Model_is 73 = .ok (.iconst 0, 1) := by decide +kernel
theorem d_Model_is_74 : decode b_Model_is 74 = .ok (.ireturn, 1) := by decide +kernel
def X_Model_is (n : Nat) (p1 : Int32) (p2 : Int32) (p3 : Int32) (p4 : Int32) (p5 : Int32) (M : Mem) : Option (Int32 × Mem) :=
  (if ((M.1 0 27) - (M.1 0 28)) = p1 then
    bd (X_Model_look n (M.1 0 28) M) fun r1 M2 =>
    (if r1 = p2 then
      bd (X_Model_look n ((M2.1 0 28) + 1) M2) fun r3 M4 =>
      (if r3 = p3 then
        bd (X_Model_look n ((M4.1 0 28) + 2) M4) fun r5 M6 =>
        (if r5 = p4 then
          bd (X_Model_look n ((M6.1 0 28) + 3) M6) fun r7 M8 =>
          (if r7 = p5 then
            some (1, M8)
            else
            some (0, M8))
          else
          some (0, M6))
        else
        some (0, M4))
      else
      some (0, M2))
    else
    some (0, M))
set_option maxRecDepth 20000 in
set_option maxHeartbeats 4000000 in
theorem C_Model_is (n : Nat)   (p1 : Int32) (p2 : Int32) (p3 : Int32) (p4 : Int32) (p5 : Int32) (M : Mem) : Ct y_Model_is mt_Model_is wI [Value.ref 0, Value.int p1, Value.int p2, Value.int p3, Value.int p4, Value.int p5] M (X_Model_is n p1 p2 p3 p4 p5 M) := by
  refine ct_of (by decide +kernel) rfl (Nat.le_of_ble_eq_true rfl) ?_
  show J _ _ _ [(0, Value.ref 0), (1, Value.int p1), (2, Value.int p2), (3, Value.int p3), (4, Value.int p4), (5, Value.int p5)] _ _ _
  unfold X_Model_is
  refine j_aload_n (pc := 0) (q := 0) d_Model_is_0 rfl rfl ?_
  refine j_getI (pc := 1) d_Model_is_1 fl_Model_156 sm_0 (by decide) rfl ?_
  refine j_aload_n (pc := 4) (q := 0) d_Model_is_4 rfl rfl ?_
  refine j_getI (pc := 5) d_Model_is_5 fl_Model_150 sm_0 (by decide) rfl ?_
  refine j_isub (pc := 8) d_Model_is_8 ?_
  refine j_iload_n (pc := 9) (q := 1) d_Model_is_9 rfl rfl ?_
  refine j_icmp_ne (pc := 10) (tgt := 73) d_Model_is_10 (by decide) (fun _ => ?_) (fun _ => ?_)
  · refine j_iconst (pc := 73) d_Model_is_73 k_i_0 ?_
    exact j_zreturn (pc := 74) d_Model_is_74 rfl rfl
  · refine j_aload_n (pc := 13) (q := 0) d_Model_is_13 rfl rfl ?_
    refine j_aload_n (pc := 14) (q := 0) d_Model_is_14 rfl rfl ?_
    refine j_getI (pc := 15) d_Model_is_15 fl_Model_150 sm_0 (by decide) rfl ?_
    refine j_callV1 (pc := 18) d_Model_is_18 (C_Model_look n (M.1 0 28) M) cV_Model_159 cd_Model_look dn_Model_look rfl (by decide) (Nat.le_of_ble_eq_true rfl) (Nat.le_of_ble_eq_true rfl) nr_I sm_0 (by decide) rfl (fun r1 M2 => ?_)
    refine j_iload_n (pc := 21) (q := 2) d_Model_is_21 rfl rfl ?_
    refine j_icmp_ne (pc := 22) (tgt := 73) d_Model_is_22 (by decide) (fun _ => ?_) (fun _ => ?_)
    · refine j_iconst (pc := 73) d_Model_is_73 k_i_0 ?_
      exact j_zreturn (pc := 74) d_Model_is_74 rfl rfl
    · refine j_aload_n (pc := 25) (q := 0) d_Model_is_25 rfl rfl ?_
      refine j_aload_n (pc := 26) (q := 0) d_Model_is_26 rfl rfl ?_
      refine j_getI (pc := 27) d_Model_is_27 fl_Model_150 sm_0 (by decide) rfl ?_
      refine j_iconst (pc := 30) d_Model_is_30 k_i_1 ?_
      refine j_iadd (pc := 31) d_Model_is_31 ?_
      refine j_callV1 (pc := 32) d_Model_is_32 (C_Model_look n ((M2.1 0 28) + 1) M2) cV_Model_159 cd_Model_look dn_Model_look rfl (by decide) (Nat.le_of_ble_eq_true rfl) (Nat.le_of_ble_eq_true rfl) nr_I sm_0 (by decide) rfl (fun r3 M4 => ?_)
      refine j_iload_n (pc := 35) (q := 3) d_Model_is_35 rfl rfl ?_
      refine j_icmp_ne (pc := 36) (tgt := 73) d_Model_is_36 (by decide) (fun _ => ?_) (fun _ => ?_)
      · refine j_iconst (pc := 73) d_Model_is_73 k_i_0 ?_
        exact j_zreturn (pc := 74) d_Model_is_74 rfl rfl
      · refine j_aload_n (pc := 39) (q := 0) d_Model_is_39 rfl rfl ?_
        refine j_aload_n (pc := 40) (q := 0) d_Model_is_40 rfl rfl ?_
        refine j_getI (pc := 41) d_Model_is_41 fl_Model_150 sm_0 (by decide) rfl ?_
        refine j_iconst (pc := 44) d_Model_is_44 k_i_2 ?_
        refine j_iadd (pc := 45) d_Model_is_45 ?_
        refine j_callV1 (pc := 46) d_Model_is_46 (C_Model_look n ((M4.1 0 28) + 2) M4) cV_Model_159 cd_Model_look dn_Model_look rfl (by decide) (Nat.le_of_ble_eq_true rfl) (Nat.le_of_ble_eq_true rfl) nr_I sm_0 (by decide) rfl (fun r5 M6 => ?_)
        refine j_iload (pc := 49) (q := 4) d_Model_is_49 rfl ?_
        refine j_icmp_ne (pc := 51) (tgt := 73) d_Model_is_51 (by decide) (fun _ => ?_) (fun _ => ?_)
        · refine j_iconst (pc := 73) d_Model_is_73 k_i_0 ?_
          exact j_zreturn (pc := 74) d_Model_is_74 rfl rfl
        · refine j_aload_n (pc := 54) (q := 0) d_Model_is_54 rfl rfl ?_
          refine j_aload_n (pc := 55) (q := 0) d_Model_is_55 rfl rfl ?_
          refine j_getI (pc := 56) d_Model_is_56 fl_Model_150 sm_0 (by decide) rfl ?_
          refine j_iconst (pc := 59) d_Model_is_59 k_i_3 ?_
          refine j_iadd (pc := 60) d_Model_is_60 ?_
          refine j_callV1 (pc := 61) d_Model_is_61 (C_Model_look n ((M6.1 0 28) + 3) M6) cV_Model_159 cd_Model_look dn_Model_look rfl (by decide) (Nat.le_of_ble_eq_true rfl) (Nat.le_of_ble_eq_true rfl) nr_I sm_0 (by decide) rfl (fun r7 M8 => ?_)
          refine j_iload (pc := 64) (q := 5) d_Model_is_64 rfl ?_
          refine j_icmp_ne (pc := 66) (tgt := 73) d_Model_is_66 (by decide) (fun _ => ?_) (fun _ => ?_)
          · refine j_iconst (pc := 73) d_Model_is_73 k_i_0 ?_
            exact j_zreturn (pc := 74) d_Model_is_74 rfl rfl
          · refine j_iconst (pc := 69) d_Model_is_69 k_i_1 ?_
            refine j_goto (pc := 70) (tgt := 74) d_Model_is_70 (by decide) ?_
            exact j_zreturn (pc := 74) d_Model_is_74 rfl rfl
-- Model.nameNow ()I
def mt_Model_nameNow : Mt := ("ShakeHandsModel", b_Model_nameNow, 1, some .int, 4, SHm)
theorem d_Model_nameNow_0 : decode b_Model_nameNow 0 = .ok (.aload_n 0, 1) := by decide +kernel
theorem d_Model_nameNow_1 : decode b_Model_nameNow 1 = .ok (.bipush 6, 2) := by decide +kernel
theorem d_Model_nameNow_3 : decode b_Model_nameNow 3 = .ok (.bipush 112, 2) := by decide +kernel
theorem d_Model_nameNow_5 : decode b_Model_nameNow 5 = .ok (.bipush 101, 2) := by decide +kernel
theorem d_Model_nameNow_7 : decode b_Model_nameNow 7 = .ok (.bipush 111, 2) := by decide +kernel
theorem d_Model_nameNow_9 : decode b_Model_nameNow 9 = .ok (.bipush 112, 2) := by decide +kernel
theorem d_Model_nameNow_11 : decode b_Model_nameNow 11 = .ok (.invokevirtual 163, 3) := by decide +kernel
theorem d_Model_nameNow_14 : decode b_Model_nameNow 14 = .ok (.ifCond .eq 35, 3) := by decide +kernel
theorem d_Model_nameNow_17 : decode b_Model_nameNow 17 = .ok (.aload_n 0, 1) := by decide +kernel
theorem d_Model_nameNow_18 : decode b_Model_nameNow 18 = .ok (.aload_n 0, 1) := by decide +kernel
theorem d_Model_nameNow_19 : decode b_Model_nameNow 19 = .ok (.getfield 150, 3) := by decide +kernel
theorem d_Model_nameNow_22 : decode b_Model_nameNow 22 = .ok (.iconst 4, 1) := by decide +kernel
theorem d_Model_nameNow_23 : decode b_Model_nameNow 23 = .ok (.iadd, 1) := by decide +kernel
theorem d_Model_nameNow_24 : decode b_Model_nameNow 24 = .ok (.invokevirtual 159, 3) := by decide +kernel
theorem d_Model_nameNow_27 : decode b_Model_nameNow 27 = .ok (.bipush 108, 2) := by decide +kernel
theorem d_Model_nameNow_29 : decode b_Model_nameNow 29 = .ok (.if_icmp .ne 20, 3) := by decide +kernel
theorem d_Model_nameNow_32 : decode b_Model_nameNow 32 = .ok (.aload_n 0, 1) := by decide +kernel
theorem d_Model_nameNow_33 : decode b_Model_nameNow 33 = .ok (.aload_n 0, 1) := by decide +kernel
theorem d_Model_nameNow_34 : decode b_Model_nameNow 34 = .ok (.getfield 150, 3) := by decide +kernel
theorem d_Model_nameNow_37 : decode b_Model_nameNow 37 = .ok (.iconst 5, 1) := by decide +kernel
theorem d_Model_nameNow_38 : decode b_Model_nameNow 38 = .ok (.iadd, 1) := by decide +kernel
theorem d_Model_nameNow_39 : decode b_Model_nameNow 39 = .ok (.invokevirtual 159, 3) := by decide +kernel
theorem d_Model_nameNow_42 : decode b_Model_nameNow 42 = .ok (.bipush 101, 2) := by decide +kernel
theorem d_Model_nameNow_44 : decode b_Model_nameNow 44 = .ok (.if_icmp .ne 5, 3) := by decide +kernel
theorem d_Model_nameNow_47 : decode b_Model_nameNow 47 = .ok (.iconst 0, 1) := by decide +kernel
theorem d_Model_nameNow_48 : decode b_Model_nameNow 48 = .ok (.ireturn, 1) := by decide +kernel
theorem d_Model_nameNow_49 : decode b_Model_nameNow 49 = .ok (.aload_n 0, 1) := by decide +kernel
theorem d_Model_nameNow_50 : decode b_Model_nameNow 50 = .ok (.iconst 4, 1) := by decide +kernel
theorem d_Model_nameNow_51 : decode b_Model_nameNow 51 = .ok (.bipush 104, 2) := by decide +kernel
theorem d_Model_nameNow_53 : decode b_Model_nameNow 53 = .ok (.bipush 111, 2) := by decide +kernel
theorem d_Model_nameNow_55 : decode b_Model_nameNow 55 = .ok (.bipush 108, 2) := by decide +kernel
theorem d_Model_nameNow_57 : decode b_Model_nameNow 57 = .ok (.bipush 100, 2) := by decide +kernel
theorem d_Model_nameNow_59 : decode b_Model_nameNow 59 = .ok (.invokevirtual 163, 3) := by decide +kernel
theorem d_Model_nameNow_62 : decode b_Model_nameNow 62 = .ok (.ifCond .eq 5, 3) := by decide +kernel
theorem d_Model_nameNow_65 : decode b_Model_nameNow 65 = .ok (.iconst 1, 1) := by decide +kernel
theorem d_Model_nameNow_66 : decode b_Model_nameNow 66 = .ok (.ireturn, 1) := by decide +kernel
theorem d_Model_nameNow_67 : decode b_Model_nameNow 67 = .ok (.aload_n 0, 1) := by decide +kernel
theorem d_Model_nameNow_68 : decode b_Model_nameNow 68 = .ok (.iconst 5, 1) := by decide +kernel
theorem d_Model_nameNow_69 : decode b_Model_nameNow 69 = .ok (.bipush 107, 2) := by decide +kernel
theorem d_Model_nameNow_71 : decode b_Model_nameNow 71 = .ok (.bipush 110, 2) := by decide +kernel
theorem d_Model_nameNow_73 : decode b_Model_nameNow 73 = .ok (.bipush 111, 2) := by decide +kernel
theorem d_Model_nameNow_75 : decode b_Model_nameNow 75 = .ok (.bipush 119, 2) := by decide +kernel
theorem d_Model_nameNow_77 : decode b_Model_nameNow 77 = .ok (.invokevirtual 163, 3) := by decide +kernel
theorem d_Model_nameNow_80 : decode b_Model_nameNow 80 = .ok (.ifCond .eq 20, 3) := by decide +kernel
theorem d_Model_nameNow_83 : decode b_Model_nameNow 83 = .ok (.aload_n 0, 1) := by decide +kernel
theorem d_Model_nameNow_84 : decode b_Model_nameNow 84 = .ok (.aload_n 0, 1) := by decide +kernel
theorem d_Model_nameNow_85 : decode b_Model_nameNow 85 = .ok (.getfield 150, 3) := by decide +kernel
theorem d_Model_nameNow_88 : decode b_Model_nameNow 88 = .ok (.iconst 4, 1) := by decide +kernel
theorem d_Model_nameNow_89 : decode b_Model_nameNow 89 = .ok (.iadd, 1) := by decide +kernel
theorem d_Model_nameNow_90 : decode b_Model_nameNow 90 = .ok (.invokevirtual 159, 3) := by decide +kernel
theorem d_Model_nameNow_93 : decode b_Model_nameNow 93 = .ok (.bipush 115, 2) := by decide +kernel
theorem d_Model_nameNow_95 : decode b_Model_nameNow 95 = .ok (.if_icmp .ne 5, 3) := by decide +kernel
theorem d_Model_nameNow_98 : decode b_Model_nameNow 98 = .ok (.iconst 2, 1) := by decide +kernel
theorem d_Model_nameNow_99 : decode b_Model_nameNow 99 = .ok (.ireturn, 1) := by decide +kernel
theorem d_Model_nameNow_100 : decode b_Model_nameNow 100 = .ok (.aload_n 0, 1) := by decide +kernel
theorem d_Model_nameNow_101 : decode b_Model_nameNow 101 = .ok (.iconst 4, 1) := by decide +kernel
theorem d_Model_nameNow_102 : decode b_Model_nameNow 102 = .ok (.bipush 106, 2) := by decide +kernel
theorem d_Model_nameNow_104 : decode b_Model_nameNow 104 = .ok (.bipush 111, 2) := by decide +kernel
theorem d_Model_nameNow_106 : decode b_Model_nameNow 106 = .ok (.bipush 105, 2) := by decide +kernel
theorem d_Model_nameNow_108 : decode b_Model_nameNow 108 = .ok (.bipush 110, 2) := by decide +kernel
theorem d_Model_nameNow_110 : decode b_Model_nameNow 110 = .ok (.invokevirtual 163, 3) := by decide +kernel
theorem d_Model_nameNow_113 : decode b_Model_nameNow 113 = .ok (.ifCond .eq 5, 3) := by decide +kernel
theorem d_Model_nameNow_116 : decode b_Model_nameNow 116 = .ok (.iconst 3, 1) := by decide +kernel
theorem d_Model_nameNow_117 : decode b_Model_nameNow 117 = .ok (.ireturn, 1) := by decide +kernel
theorem d_Model_nameNow_118 : decode b_Model_nameNow 118 = .ok (.aload_n 0, 1) := by decide +kernel
theorem d_Model_nameNow_119 : decode b_Model_nameNow 119 = .ok (.iconst 4, 1) := by decide +kernel
theorem d_Model_nameNow_120 : decode b_Model_nameNow 120 = .ok (.bipush 104, 2) := by decide +kernel
theorem d_Model_nameNow_122 : decode b_Model_nameNow 122 = .ok (.bipush 97, 2) := by decide +kernel
theorem d_Model_nameNow_124 : decode b_Model_nameNow 124 = .ok (.bipush 110, 2) := by decide +kernel
theorem d_Model_nameNow_126 : decode b_Model_nameNow 126 = .ok (.bipush 100, 2) := by decide +kernel
theorem d_Model_nameNow_128 : decode b_Model_nameNow 128 = .ok (.invokevirtual 163, 3) := by decide +kernel
theorem d_Model_nameNow_131 : decode b_Model_nameNow 131 = .ok (.ifCond .eq 5, 3) := by decide +kernel
theorem d_Model_nameNow_134 : decode b_Model_nameNow 134 = .ok (.iconst 4, 1) := by decide +kernel
theorem d_Model_nameNow_135 : decode b_Model_nameNow 135 = .ok (.ireturn, 1) := by decide +kernel
theorem d_Model_nameNow_136 : decode b_Model_nameNow 136 = .ok (.aload_n 0, 1) := by decide +kernel
theorem d_Model_nameNow_137 : decode b_Model_nameNow 137 = .ok (.iconst 5, 1) := by decide +kernel
theorem d_Model_nameNow_138 : decode b_Model_nameNow 138 = .ok (.bipush 100, 2) := by decide +kernel
theorem d_Model_nameNow_140 : decode b_Model_nameNow 140 = .ok (.bipush 97, 2) := by decide +kernel
theorem d_Model_nameNow_142 : decode b_Model_nameNow 142 = .ok (.bipush 105, 2) := by decide +kernel
theorem d_Model_nameNow_144 : decode b_Model_nameNow 144 = .ok (.bipush 108, 2) := by decide +kernel
theorem d_Model_nameNow_146 : decode b_Model_nameNow 146 = .ok (.invokevirtual 163, 3) := by decide +kernel
theorem d_Model_nameNow_149 : decode b_Model_nameNow 149 = .ok (.ifCond .eq 20, 3) := by decide +kernel
theorem d_Model_nameNow_152 : decode b_Model_nameNow 152 = .ok (.aload_n 0, 1) := by decide +kernel
theorem d_Model_nameNow_153 : decode b_Model_nameNow 153 = .ok (.aload_n 0, 1) := by decide +kernel
theorem d_Model_nameNow_154 : decode b_Model_nameNow 154 = .ok (.getfield 150, 3) := by decide +kernel
theorem d_Model_nameNow_157 : decode b_Model_nameNow 157 = .ok (.iconst 4, 1) := by decide +kernel
theorem d_Model_nameNow_158 : decode b_Model_nameNow 158 = .ok (.iadd, 1) := by decide +kernel
theorem d_Model_nameNow_159 : decode b_Model_nameNow 159 = .ok (.invokevirtual 159, 3) := by decide +kernel
theorem d_Model_nameNow_162 : decode b_Model_nameNow 162 = .ok (.bipush 121, 2) := by decide +kernel
theorem d_Model_nameNow_164 : decode b_Model_nameNow 164 = .ok (.if_icmp .ne 5, 3) := by decide +kernel
theorem d_Model_nameNow_167 : decode b_Model_nameNow 167 = .ok (.iconst 5, 1) := by decide +kernel
theorem d_Model_nameNow_168 : decode b_Model_nameNow 168 = .ok (.ireturn, 1) := by decide +kernel
theorem d_Model_nameNow_169 : decode b_Model_nameNow 169 = .ok (.aload_n 0, 1) := by decide +kernel
theorem d_Model_nameNow_170 : decode b_Model_nameNow 170 = .ok (.iconst 5, 1) := by decide +kernel
theorem d_Model_nameNow_171 : decode b_Model_nameNow 171 = .ok (.bipush 103, 2) := by decide +kernel
theorem d_Model_nameNow_173 : decode b_Model_nameNow 173 = .ok (.bipush 108, 2) := by decide +kernel
theorem d_Model_nameNow_175 : decode b_Model_nameNow 175 = .ok (.bipush 111, 2) := by decide +kernel
theorem d_Model_nameNow_177 : decode b_Model_nameNow 177 = .ok (.bipush 118, 2) := by decide +kernel
theorem d_Model_nameNow_179 : decode b_Model_nameNow 179 = .ok (.invokevirtual 163, 3) := by decide +kernel
theorem d_Model_nameNow_182 : decode b_Model_nameNow 182 = .ok (.ifCond .eq 23, 3) := by decide +kernel
theorem d_Model_nameNow_185 : decode b_Model_nameNow 185 = .ok (.aload_n 0, 1) := by decide +kernel
theorem d_Model_nameNow_186 : decode b_Model_nameNow 186 = .ok (.aload_n 0, 1) := by decide +kernel
theorem d_Model_nameNow_187 : decode b_Model_nameNow 187 = .ok (.getfield 150, 3) := by decide +kernel
theorem d_Model_nameNow_190 : decode b_Model_nameNow 190 = .ok (.iconst 4, 1) := by decide +kernel
theorem d_Model_nameNow_191 : decode b_Model_nameNow 191 = .ok (.iadd, 1) := by decide +kernel
theorem d_Model_nameNow_192 : decode b_Model_nameNow 192 = .ok (.invokevirtual 159, 3) := by decide +kernel
theorem d_Model_nameNow_195 : decode b_Model_nameNow 195 = .ok (.bipush 101, 2) := by decide +kernel
theorem d_Model_nameNow_197 : decode b_Model_nameNow 197 = .ok (.if_icmp .ne 8, 3) := by decide +kernel
theorem d_Model_nameNow_200 : decode b_Model_nameNow 200 = .ok (.bipush 6, 2) := by decide +kernel
theorem d_Model_nameNow_202 : decode b_Model_nameNow 202 = .ok (.goto 5, 3) := by decide +kernel
theorem d_Model_nameNow_205 : decode b_Model_nameNow 205 = .ok (.bipush (-4), 2) := by decide +kernel
theorem d_Model_nameNow_207 : decode b_Model_nameNow 207 = .ok (.ireturn, 1) := by decide +kernel
def X_Model_nameNow (n : Nat) (M : Mem) : Option (Int32 × Mem) :=
  bd (X_Model_is n 6 112 101 111 112 M) fun r1 M2 =>
  nm (fun (M3 : Mem) => (bd (X_Model_is n 4 104 111 108 100 M3) fun r4 M5 =>
      (if r4 = 0 then
        bd (X_Model_is n 5 107 110 111 119 M5) fun r6 M7 =>
        nm (fun (M8 : Mem) => (bd (X_Model_is n 4 106 111 105 110 M8) fun r9 M10 =>
            (if r9 = 0 then
              bd (X_Model_is n 4 104 97 110 100 M10) fun r11 M12 =>
              (if r11 = 0 then
                bd (X_Model_is n 5 100 97 105 108 M12) fun r13 M14 =>
                nm (fun (M15 : Mem) => (bd (X_Model_is n 5 103 108 111 118 M15) fun r16 M17 =>
                    (if r16 = 0 then
                      some ((-4), M17)
                      else
                      bd (X_Model_look n ((M17.1 0 28) + 4) M17) fun r18 M19 =>
                      (if r18 = 101 then
                        some (6, M19)
                        else
                        some ((-4), M19))) : Option (Int32 × Mem))) fun k169 =>
                (if r13 = 0 then
                  k169 M14
                  else
                  bd (X_Model_look n ((M14.1 0 28) + 4) M14) fun r20 M21 =>
                  (if r20 = 121 then
                    some (5, M21)
                    else
                    k169 M21))
                else
                some (4, M12))
              else
              some (3, M10)) : Option (Int32 × Mem))) fun k100 =>
        (if r6 = 0 then
          k100 M7
          else
          bd (X_Model_look n ((M7.1 0 28) + 4) M7) fun r22 M23 =>
          (if r22 = 115 then
            some (2, M23)
            else
            k100 M23))
        else
        some (1, M5)) : Option (Int32 × Mem))) fun k49 =>
  (if r1 = 0 then
    k49 M2
    else
    bd (X_Model_look n ((M2.1 0 28) + 4) M2) fun r24 M25 =>
    (if r24 = 108 then
      bd (X_Model_look n ((M25.1 0 28) + 5) M25) fun r26 M27 =>
      (if r26 = 101 then
        some (0, M27)
        else
        k49 M27)
      else
      k49 M25))
set_option maxRecDepth 20000 in
set_option maxHeartbeats 4000000 in
theorem C_Model_nameNow (n : Nat)    (M : Mem) : Ct y_Model_nameNow mt_Model_nameNow wI [Value.ref 0] M (X_Model_nameNow n M) := by
  refine ct_of (by decide +kernel) rfl (Nat.le_of_ble_eq_true rfl) ?_
  show J _ _ _ [(0, Value.ref 0)] _ _ _
  unfold X_Model_nameNow
  refine j_aload_n (pc := 0) (q := 0) d_Model_nameNow_0 rfl rfl ?_
  refine j_bipush (pc := 1) d_Model_nameNow_1 k_b_6 ?_
  refine j_bipush (pc := 3) d_Model_nameNow_3 k_b_112 ?_
  refine j_bipush (pc := 5) d_Model_nameNow_5 k_b_101 ?_
  refine j_bipush (pc := 7) d_Model_nameNow_7 k_b_111 ?_
  refine j_bipush (pc := 9) d_Model_nameNow_9 k_b_112 ?_
  refine j_callV5 (pc := 11) d_Model_nameNow_11 (C_Model_is n 6 112 101 111 112 M) cV_Model_163 cd_Model_is dn_Model_is rfl (by decide) (Nat.le_of_ble_eq_true rfl) (Nat.le_of_ble_eq_true rfl) nr_I sm_0 (by decide) rfl (fun r1 M2 => ?_)
  refine j_nmk (fun k => ∀ (M3 : Mem), J (mt_Model_nameNow) wI 49 [(0, Value.ref 0)] [] M3 (k M3)) (fun M3 => ?_) (fun k49 hk49 => ?_)
  · refine j_aload_n (pc := 49) (q := 0) d_Model_nameNow_49 rfl rfl ?_
    refine j_iconst (pc := 50) d_Model_nameNow_50 k_i_4 ?_
    refine j_bipush (pc := 51) d_Model_nameNow_51 k_b_104 ?_
    refine j_bipush (pc := 53) d_Model_nameNow_53 k_b_111 ?_
    refine j_bipush (pc := 55) d_Model_nameNow_55 k_b_108 ?_
    refine j_bipush (pc := 57) d_Model_nameNow_57 k_b_100 ?_
    refine j_callV5 (pc := 59) d_Model_nameNow_59 (C_Model_is n 4 104 111 108 100 M3) cV_Model_163 cd_Model_is dn_Model_is rfl (by decide) (Nat.le_of_ble_eq_true rfl) (Nat.le_of_ble_eq_true rfl) nr_I sm_0 (by decide) rfl (fun r4 M5 => ?_)
    refine j_if_eq (pc := 62) (tgt := 67) d_Model_nameNow_62 (by decide) (fun _ => ?_) (fun _ => ?_)
    · refine j_aload_n (pc := 67) (q := 0) d_Model_nameNow_67 rfl rfl ?_
      refine j_iconst (pc := 68) d_Model_nameNow_68 k_i_5 ?_
      refine j_bipush (pc := 69) d_Model_nameNow_69 k_b_107 ?_
      refine j_bipush (pc := 71) d_Model_nameNow_71 k_b_110 ?_
      refine j_bipush (pc := 73) d_Model_nameNow_73 k_b_111 ?_
      refine j_bipush (pc := 75) d_Model_nameNow_75 k_b_119 ?_
      refine j_callV5 (pc := 77) d_Model_nameNow_77 (C_Model_is n 5 107 110 111 119 M5) cV_Model_163 cd_Model_is dn_Model_is rfl (by decide) (Nat.le_of_ble_eq_true rfl) (Nat.le_of_ble_eq_true rfl) nr_I sm_0 (by decide) rfl (fun r6 M7 => ?_)
      refine j_nmk (fun k => ∀ (M8 : Mem), J (mt_Model_nameNow) wI 100 [(0, Value.ref 0)] [] M8 (k M8)) (fun M8 => ?_) (fun k100 hk100 => ?_)
      · refine j_aload_n (pc := 100) (q := 0) d_Model_nameNow_100 rfl rfl ?_
        refine j_iconst (pc := 101) d_Model_nameNow_101 k_i_4 ?_
        refine j_bipush (pc := 102) d_Model_nameNow_102 k_b_106 ?_
        refine j_bipush (pc := 104) d_Model_nameNow_104 k_b_111 ?_
        refine j_bipush (pc := 106) d_Model_nameNow_106 k_b_105 ?_
        refine j_bipush (pc := 108) d_Model_nameNow_108 k_b_110 ?_
        refine j_callV5 (pc := 110) d_Model_nameNow_110 (C_Model_is n 4 106 111 105 110 M8) cV_Model_163 cd_Model_is dn_Model_is rfl (by decide) (Nat.le_of_ble_eq_true rfl) (Nat.le_of_ble_eq_true rfl) nr_I sm_0 (by decide) rfl (fun r9 M10 => ?_)
        refine j_if_eq (pc := 113) (tgt := 118) d_Model_nameNow_113 (by decide) (fun _ => ?_) (fun _ => ?_)
        · refine j_aload_n (pc := 118) (q := 0) d_Model_nameNow_118 rfl rfl ?_
          refine j_iconst (pc := 119) d_Model_nameNow_119 k_i_4 ?_
          refine j_bipush (pc := 120) d_Model_nameNow_120 k_b_104 ?_
          refine j_bipush (pc := 122) d_Model_nameNow_122 k_b_97 ?_
          refine j_bipush (pc := 124) d_Model_nameNow_124 k_b_110 ?_
          refine j_bipush (pc := 126) d_Model_nameNow_126 k_b_100 ?_
          refine j_callV5 (pc := 128) d_Model_nameNow_128 (C_Model_is n 4 104 97 110 100 M10) cV_Model_163 cd_Model_is dn_Model_is rfl (by decide) (Nat.le_of_ble_eq_true rfl) (Nat.le_of_ble_eq_true rfl) nr_I sm_0 (by decide) rfl (fun r11 M12 => ?_)
          refine j_if_eq (pc := 131) (tgt := 136) d_Model_nameNow_131 (by decide) (fun _ => ?_) (fun _ => ?_)
          · refine j_aload_n (pc := 136) (q := 0) d_Model_nameNow_136 rfl rfl ?_
            refine j_iconst (pc := 137) d_Model_nameNow_137 k_i_5 ?_
            refine j_bipush (pc := 138) d_Model_nameNow_138 k_b_100 ?_
            refine j_bipush (pc := 140) d_Model_nameNow_140 k_b_97 ?_
            refine j_bipush (pc := 142) d_Model_nameNow_142 k_b_105 ?_
            refine j_bipush (pc := 144) d_Model_nameNow_144 k_b_108 ?_
            refine j_callV5 (pc := 146) d_Model_nameNow_146 (C_Model_is n 5 100 97 105 108 M12) cV_Model_163 cd_Model_is dn_Model_is rfl (by decide) (Nat.le_of_ble_eq_true rfl) (Nat.le_of_ble_eq_true rfl) nr_I sm_0 (by decide) rfl (fun r13 M14 => ?_)
            refine j_nmk (fun k => ∀ (M15 : Mem), J (mt_Model_nameNow) wI 169 [(0, Value.ref 0)] [] M15 (k M15)) (fun M15 => ?_) (fun k169 hk169 => ?_)
            · refine j_aload_n (pc := 169) (q := 0) d_Model_nameNow_169 rfl rfl ?_
              refine j_iconst (pc := 170) d_Model_nameNow_170 k_i_5 ?_
              refine j_bipush (pc := 171) d_Model_nameNow_171 k_b_103 ?_
              refine j_bipush (pc := 173) d_Model_nameNow_173 k_b_108 ?_
              refine j_bipush (pc := 175) d_Model_nameNow_175 k_b_111 ?_
              refine j_bipush (pc := 177) d_Model_nameNow_177 k_b_118 ?_
              refine j_callV5 (pc := 179) d_Model_nameNow_179 (C_Model_is n 5 103 108 111 118 M15) cV_Model_163 cd_Model_is dn_Model_is rfl (by decide) (Nat.le_of_ble_eq_true rfl) (Nat.le_of_ble_eq_true rfl) nr_I sm_0 (by decide) rfl (fun r16 M17 => ?_)
              refine j_if_eq (pc := 182) (tgt := 205) d_Model_nameNow_182 (by decide) (fun _ => ?_) (fun _ => ?_)
              · refine j_bipush (pc := 205) d_Model_nameNow_205 k_b_m4 ?_
                exact j_ireturn (pc := 207) d_Model_nameNow_207 rfl
              · refine j_aload_n (pc := 185) (q := 0) d_Model_nameNow_185 rfl rfl ?_
                refine j_aload_n (pc := 186) (q := 0) d_Model_nameNow_186 rfl rfl ?_
                refine j_getI (pc := 187) d_Model_nameNow_187 fl_Model_150 sm_0 (by decide) rfl ?_
                refine j_iconst (pc := 190) d_Model_nameNow_190 k_i_4 ?_
                refine j_iadd (pc := 191) d_Model_nameNow_191 ?_
                refine j_callV1 (pc := 192) d_Model_nameNow_192 (C_Model_look n ((M17.1 0 28) + 4) M17) cV_Model_159 cd_Model_look dn_Model_look rfl (by decide) (Nat.le_of_ble_eq_true rfl) (Nat.le_of_ble_eq_true rfl) nr_I sm_0 (by decide) rfl (fun r18 M19 => ?_)
                refine j_bipush (pc := 195) d_Model_nameNow_195 k_b_101 ?_
                refine j_icmp_ne (pc := 197) (tgt := 205) d_Model_nameNow_197 (by decide) (fun _ => ?_) (fun _ => ?_)
                · refine j_bipush (pc := 205) d_Model_nameNow_205 k_b_m4 ?_
                  exact j_ireturn (pc := 207) d_Model_nameNow_207 rfl
                · refine j_bipush (pc := 200) d_Model_nameNow_200 k_b_6 ?_
                  refine j_goto (pc := 202) (tgt := 207) d_Model_nameNow_202 (by decide) ?_
                  exact j_ireturn (pc := 207) d_Model_nameNow_207 rfl
            · refine j_if_eq (pc := 149) (tgt := 169) d_Model_nameNow_149 (by decide) (fun _ => ?_) (fun _ => ?_)
              · exact hk169 M14
              · refine j_aload_n (pc := 152) (q := 0) d_Model_nameNow_152 rfl rfl ?_
                refine j_aload_n (pc := 153) (q := 0) d_Model_nameNow_153 rfl rfl ?_
                refine j_getI (pc := 154) d_Model_nameNow_154 fl_Model_150 sm_0 (by decide) rfl ?_
                refine j_iconst (pc := 157) d_Model_nameNow_157 k_i_4 ?_
                refine j_iadd (pc := 158) d_Model_nameNow_158 ?_
                refine j_callV1 (pc := 159) d_Model_nameNow_159 (C_Model_look n ((M14.1 0 28) + 4) M14) cV_Model_159 cd_Model_look dn_Model_look rfl (by decide) (Nat.le_of_ble_eq_true rfl) (Nat.le_of_ble_eq_true rfl) nr_I sm_0 (by decide) rfl (fun r20 M21 => ?_)
                refine j_bipush (pc := 162) d_Model_nameNow_162 k_b_121 ?_
                refine j_icmp_ne (pc := 164) (tgt := 169) d_Model_nameNow_164 (by decide) (fun _ => ?_) (fun _ => ?_)
                · exact hk169 M21
                · refine j_iconst (pc := 167) d_Model_nameNow_167 k_i_5 ?_
                  exact j_ireturn (pc := 168) d_Model_nameNow_168 rfl
          · refine j_iconst (pc := 134) d_Model_nameNow_134 k_i_4 ?_
            exact j_ireturn (pc := 135) d_Model_nameNow_135 rfl
        · refine j_iconst (pc := 116) d_Model_nameNow_116 k_i_3 ?_
          exact j_ireturn (pc := 117) d_Model_nameNow_117 rfl
      · refine j_if_eq (pc := 80) (tgt := 100) d_Model_nameNow_80 (by decide) (fun _ => ?_) (fun _ => ?_)
        · exact hk100 M7
        · refine j_aload_n (pc := 83) (q := 0) d_Model_nameNow_83 rfl rfl ?_
          refine j_aload_n (pc := 84) (q := 0) d_Model_nameNow_84 rfl rfl ?_
          refine j_getI (pc := 85) d_Model_nameNow_85 fl_Model_150 sm_0 (by decide) rfl ?_
          refine j_iconst (pc := 88) d_Model_nameNow_88 k_i_4 ?_
          refine j_iadd (pc := 89) d_Model_nameNow_89 ?_
          refine j_callV1 (pc := 90) d_Model_nameNow_90 (C_Model_look n ((M7.1 0 28) + 4) M7) cV_Model_159 cd_Model_look dn_Model_look rfl (by decide) (Nat.le_of_ble_eq_true rfl) (Nat.le_of_ble_eq_true rfl) nr_I sm_0 (by decide) rfl (fun r22 M23 => ?_)
          refine j_bipush (pc := 93) d_Model_nameNow_93 k_b_115 ?_
          refine j_icmp_ne (pc := 95) (tgt := 100) d_Model_nameNow_95 (by decide) (fun _ => ?_) (fun _ => ?_)
          · exact hk100 M23
          · refine j_iconst (pc := 98) d_Model_nameNow_98 k_i_2 ?_
            exact j_ireturn (pc := 99) d_Model_nameNow_99 rfl
    · refine j_iconst (pc := 65) d_Model_nameNow_65 k_i_1 ?_
      exact j_ireturn (pc := 66) d_Model_nameNow_66 rfl
  · refine j_if_eq (pc := 14) (tgt := 49) d_Model_nameNow_14 (by decide) (fun _ => ?_) (fun _ => ?_)
    · exact hk49 M2
    · refine j_aload_n (pc := 17) (q := 0) d_Model_nameNow_17 rfl rfl ?_
      refine j_aload_n (pc := 18) (q := 0) d_Model_nameNow_18 rfl rfl ?_
      refine j_getI (pc := 19) d_Model_nameNow_19 fl_Model_150 sm_0 (by decide) rfl ?_
      refine j_iconst (pc := 22) d_Model_nameNow_22 k_i_4 ?_
      refine j_iadd (pc := 23) d_Model_nameNow_23 ?_
      refine j_callV1 (pc := 24) d_Model_nameNow_24 (C_Model_look n ((M2.1 0 28) + 4) M2) cV_Model_159 cd_Model_look dn_Model_look rfl (by decide) (Nat.le_of_ble_eq_true rfl) (Nat.le_of_ble_eq_true rfl) nr_I sm_0 (by decide) rfl (fun r24 M25 => ?_)
      refine j_bipush (pc := 27) d_Model_nameNow_27 k_b_108 ?_
      refine j_icmp_ne (pc := 29) (tgt := 49) d_Model_nameNow_29 (by decide) (fun _ => ?_) (fun _ => ?_)
      · exact hk49 M25
      · refine j_aload_n (pc := 32) (q := 0) d_Model_nameNow_32 rfl rfl ?_
        refine j_aload_n (pc := 33) (q := 0) d_Model_nameNow_33 rfl rfl ?_
        refine j_getI (pc := 34) d_Model_nameNow_34 fl_Model_150 sm_0 (by decide) rfl ?_
        refine j_iconst (pc := 37) d_Model_nameNow_37 k_i_5 ?_
        refine j_iadd (pc := 38) d_Model_nameNow_38 ?_
        refine j_callV1 (pc := 39) d_Model_nameNow_39 (C_Model_look n ((M25.1 0 28) + 5) M25) cV_Model_159 cd_Model_look dn_Model_look rfl (by decide) (Nat.le_of_ble_eq_true rfl) (Nat.le_of_ble_eq_true rfl) nr_I sm_0 (by decide) rfl (fun r26 M27 => ?_)
        refine j_bipush (pc := 42) d_Model_nameNow_42 k_b_101 ?_
        refine j_icmp_ne (pc := 44) (tgt := 49) d_Model_nameNow_44 (by decide) (fun _ => ?_) (fun _ => ?_)
        · exact hk49 M27
        · refine j_iconst (pc := 47) d_Model_nameNow_47 k_i_0 ?_
          exact j_ireturn (pc := 48) d_Model_nameNow_48 rfl
-- Model.looked (II)I
def mt_Model_looked : Mt := ("ShakeHandsModel", b_Model_looked, 3, some .int, 3, SHm)
theorem d_Model_looked_0 : decode b_Model_looked 0 = .ok (.aload_n 0, 1) := by decide +kernel
theorem d_Model_looked_1 : decode b_Model_looked 1 = .ok (.getfield 147, 3) := by decide +kernel
theorem d_Model_looked_4 : decode b_Model_looked 4 = .ok (.ifCond .ne 21, 3) := by decide +kernel
theorem d_Model_looked_7 : decode b_Model_looked 7 = .ok (.aload_n 0, 1) := by decide +kernel
theorem d_Model_looked_8 : decode b_Model_looked 8 = .ok (.aload_n 0, 1) := by decide +kernel
theorem d_Model_looked_9 : decode b_Model_looked 9 = .ok (.getfield 167, 3) := by decide +kernel
theorem d_Model_looked_12 : decode b_Model_looked 12 = .ok (.iconst 2, 1) := by decide +kernel
theorem d_Model_looked_13 : decode b_Model_looked 13 = .ok (.if_icmp .ne 7, 3) := by decide +kernel
theorem d_Model_looked_16 : decode b_Model_looked 16 = .ok (.iconst 1, 1) := by decide +kernel
theorem d_Model_looked_17 : decode b_Model_looked 17 = .ok (.goto 4, 3) := by decide +kernel
theorem d_Model_looked_20 : decode b_Model_looked 20 = .ok (.iconst 0, 1) := by decide +kernel
theorem d_Model_looked_21 : decode b_Model_looked 21 = .ok (.iconst 2, 1) := by decide +kernel
theorem d_Model_looked_22 : decode b_Model_looked 22 = .ok (.invokevirtual 181, 3) := by decide +kernel
theorem d_Model_looked_25 : decode b_Model_looked 25 = .ok (.aload_n 0, 1) := by decide +kernel
theorem d_Model_looked_26 : decode b_Model_looked 26 = .ok (.getfield 147, 3) := by decide +kernel
theorem d_Model_looked_29 : decode b_Model_looked 29 = .ok (.ifCond .ne 20, 3) := by decide +kernel
theorem d_Model_looked_32 : decode b_Model_looked 32 = .ok (.aload_n 0, 1) := by decide +kernel
theorem d_Model_looked_33 : decode b_Model_looked 33 = .ok (.aload_n 0, 1) := by decide +kernel
theorem d_Model_looked_34 : decode b_Model_looked 34 = .ok (.getfield 178, 3) := by decide +kernel
theorem d_Model_looked_37 : decode b_Model_looked 37 = .ok (.i2l, 1) := by decide +kernel
theorem d_Model_looked_38 : decode b_Model_looked 38 = .ok (.iload_n 1, 1) := by decide +kernel
theorem d_Model_looked_39 : decode b_Model_looked 39 = .ok (.i2l, 1) := by decide +kernel
theorem d_Model_looked_40 : decode b_Model_looked 40 = .ok (.iload_n 2, 1) := by decide +kernel
theorem d_Model_looked_41 : decode b_Model_looked 41 = .ok (.i2l, 1) := by decide +kernel
theorem d_Model_looked_42 : decode b_Model_looked 42 = .ok (.invokestatic 143, 3) := by decide +kernel
theorem d_Model_looked_45 : decode b_Model_looked 45 = .ok (.iconst 3, 1) := by decide +kernel
theorem d_Model_looked_46 : decode b_Model_looked 46 = .ok (.invokevirtual 181, 3) := by decide +kernel
theorem d_Model_looked_49 : decode b_Model_looked 49 = .ok (.aload_n 0, 1) := by decide +kernel
theorem d_Model_looked_50 : decode b_Model_looked 50 = .ok (.getfield 147, 3) := by decide +kernel
theorem d_Model_looked_53 : decode b_Model_looked 53 = .ok (.ifCond .ne 10, 3) := by decide +kernel
theorem d_Model_looked_56 : decode b_Model_looked 56 = .ok (.aload_n 0, 1) := by decide +kernel
theorem d_Model_looked_57 : decode b_Model_looked 57 = .ok (.getfield 178, 3) := by decide +kernel
theorem d_Model_looked_60 : decode b_Model_looked 60 = .ok (.goto 4, 3) := by decide +kernel
theorem d_Model_looked_63 : decode b_Model_looked 63 = .ok (.iconst 0, 1) := by decide +kernel
theorem d_Model_looked_64 : decode b_Model_looked 64 = .ok (.ireturn, 1) := by decide +kernel
def X_Model_looked (n : Nat) (p1 : Int32) (p2 : Int32) (M : Mem) : Option (Int32 × Mem) :=
  nm (fun (M1 : Mem) => (nm (fun (M2 : Mem) => ((if (M2.1 0 31) = 0 then
            some ((M2.1 0 30), M2)
            else
            some (0, M2)) : Option (Int32 × Mem))) fun k49 =>
      (if (M1.1 0 31) = 0 then
        bd (X_Model_in n (((M1.1 0 30) : Int32).toInt64) (p1.toInt64) (p2.toInt64) M1) fun r3 M4 =>
        bd (X_Model_needs n r3 3 M4) fun _ M6 =>
        k49 M6
        else
        k49 M1) : Option (Int32 × Mem))) fun k25 =>
  (if (M.1 0 31) = 0 then
    nm (fun (u7 : Int32) => (bd (X_Model_needs n u7 2 M) fun _ M9 =>
        k25 M9 : Option (Int32 × Mem))) fun k21 =>
    (if (M.1 0 29) = 2 then
      k21 1
      else
      k21 0)
    else
    k25 M)
set_option maxRecDepth 20000 in
set_option maxHeartbeats 4000000 in
theorem C_Model_looked (n : Nat)   (p1 : Int32) (p2 : Int32) (M : Mem) : Ct y_Model_looked mt_Model_looked wI [Value.ref 0, Value.int p1, Value.int p2] M (X_Model_looked n p1 p2 M) := by
  refine ct_of (by decide +kernel) rfl (Nat.le_of_ble_eq_true rfl) ?_
  show J _ _ _ [(0, Value.ref 0), (1, Value.int p1), (2, Value.int p2)] _ _ _
  unfold X_Model_looked
  refine j_aload_n (pc := 0) (q := 0) d_Model_looked_0 rfl rfl ?_
  refine j_getI (pc := 1) d_Model_looked_1 fl_Model_147 sm_0 (by decide) rfl ?_
  refine j_nmk (fun k => ∀ (M1 : Mem), J (mt_Model_looked) wI 25 [(0, Value.ref 0), (1, Value.int p1), (2, Value.int p2)] [] M1 (k M1)) (fun M1 => ?_) (fun k25 hk25 => ?_)
  · refine j_aload_n (pc := 25) (q := 0) d_Model_looked_25 rfl rfl ?_
    refine j_getI (pc := 26) d_Model_looked_26 fl_Model_147 sm_0 (by decide) rfl ?_
    refine j_nmk (fun k => ∀ (M2 : Mem), J (mt_Model_looked) wI 49 [(0, Value.ref 0)] [] M2 (k M2)) (fun M2 => ?_) (fun k49 hk49 => ?_)
    · refine j_aload_n (pc := 49) (q := 0) d_Model_looked_49 rfl rfl ?_
      refine j_getI (pc := 50) d_Model_looked_50 fl_Model_147 sm_0 (by decide) rfl ?_
      refine j_if_ne (pc := 53) (tgt := 63) d_Model_looked_53 (by decide) (fun _ => ?_) (fun _ => ?_)
      · refine j_iconst (pc := 63) d_Model_looked_63 k_i_0 ?_
        exact j_ireturn (pc := 64) d_Model_looked_64 rfl
      · refine j_aload_n (pc := 56) (q := 0) d_Model_looked_56 rfl rfl ?_
        refine j_getI (pc := 57) d_Model_looked_57 fl_Model_178 sm_0 (by decide) rfl ?_
        refine j_goto (pc := 60) (tgt := 64) d_Model_looked_60 (by decide) ?_
        exact j_ireturn (pc := 64) d_Model_looked_64 rfl
    · refine j_if_ne (pc := 29) (tgt := 49) d_Model_looked_29 (by decide) (fun _ => ?_) (fun _ => ?_)
      · refine j_lv [0] rfl ?_
        exact hk49 M1
      · refine j_aload_n (pc := 32) (q := 0) d_Model_looked_32 rfl rfl ?_
        refine j_aload_n (pc := 33) (q := 0) d_Model_looked_33 rfl rfl ?_
        refine j_getI (pc := 34) d_Model_looked_34 fl_Model_178 sm_0 (by decide) rfl ?_
        refine j_i2l (pc := 37) d_Model_looked_37 ?_
        refine j_iload_n (pc := 38) (q := 1) d_Model_looked_38 rfl rfl ?_
        refine j_i2l (pc := 39) d_Model_looked_39 ?_
        refine j_iload_n (pc := 40) (q := 2) d_Model_looked_40 rfl rfl ?_
        refine j_i2l (pc := 41) d_Model_looked_41 ?_
        refine j_callS3 (pc := 42) d_Model_looked_42 (C_Model_in n (((M1.1 0 30) : Int32).toInt64) (p1.toInt64) (p2.toInt64) M1) cS_Model_143 cd_Model_in dn_Model_in rfl (by decide) (Nat.le_of_ble_eq_true rfl) (Nat.le_of_ble_eq_true rfl) nr_I (fun r3 M4 => ?_)
        refine j_iconst (pc := 45) d_Model_looked_45 k_i_3 ?_
        refine j_callV2 (pc := 46) d_Model_looked_46 (C_Model_needs n r3 3 M4) cV_Model_181 cd_Model_needs dn_Model_needs rfl (by decide) (Nat.le_of_ble_eq_true rfl) (Nat.le_of_ble_eq_true rfl) nr_U sm_0 (by decide) rfl (fun r5 M6 => ?_)
        refine j_lv [0] rfl ?_
        exact hk49 M6
  · refine j_if_ne (pc := 4) (tgt := 25) d_Model_looked_4 (by decide) (fun _ => ?_) (fun _ => ?_)
    · exact hk25 M
    · refine j_aload_n (pc := 7) (q := 0) d_Model_looked_7 rfl rfl ?_
      refine j_aload_n (pc := 8) (q := 0) d_Model_looked_8 rfl rfl ?_
      refine j_getI (pc := 9) d_Model_looked_9 fl_Model_167 sm_0 (by decide) rfl ?_
      refine j_iconst (pc := 12) d_Model_looked_12 k_i_2 ?_
      refine j_nmk (fun k => ∀ (u7 : Int32), J (mt_Model_looked) wI 21 [(0, Value.ref 0), (1, Value.int p1), (2, Value.int p2)] [Value.int u7, Value.ref 0] M (k u7)) (fun u7 => ?_) (fun k21 hk21 => ?_)
      · refine j_iconst (pc := 21) d_Model_looked_21 k_i_2 ?_
        refine j_callV2 (pc := 22) d_Model_looked_22 (C_Model_needs n u7 2 M) cV_Model_181 cd_Model_needs dn_Model_needs rfl (by decide) (Nat.le_of_ble_eq_true rfl) (Nat.le_of_ble_eq_true rfl) nr_U sm_0 (by decide) rfl (fun r8 M9 => ?_)
        exact hk25 M9
      · refine j_icmp_ne (pc := 13) (tgt := 20) d_Model_looked_13 (by decide) (fun _ => ?_) (fun _ => ?_)
        · refine j_iconst (pc := 20) d_Model_looked_20 k_i_0 ?_
          exact hk21 0
        · refine j_iconst (pc := 16) d_Model_looked_16 k_i_1 ?_
          refine j_goto (pc := 17) (tgt := 21) d_Model_looked_17 (by decide) ?_
          exact hk21 1
-- Model.tells (I)V
def mt_Model_tells : Mt := ("ShakeHandsModel", b_Model_tells, 2, none, 2, SHm)
theorem d_Model_tells_0 : decode b_Model_tells 0 = .ok (.aload_n 0, 1) := by decide +kernel
theorem d_Model_tells_1 : decode b_Model_tells 1 = .ok (.iload_n 1, 1) := by decide +kernel
theorem d_Model_tells_2 : decode b_Model_tells 2 = .ok (.aload_n 0, 1) := by decide +kernel
theorem d_Model_tells_3 : decode b_Model_tells 3 = .ok (.getfield 113, 3) := by decide +kernel
theorem d_Model_tells_6 : decode b_Model_tells 6 = .ok (.if_icmp .le 7, 3) := by decide +kernel
theorem d_Model_tells_9 : decode b_Model_tells 9 = .ok (.iload_n 1, 1) := by decide +kernel
theorem d_Model_tells_10 : decode b_Model_tells 10 = .ok (.goto 7, 3) := by decide +kernel
theorem d_Model_tells_13 : decode b_Model_tells 13 = .ok (.aload_n 0, 1) := by decide +kernel
theorem d_Model_tells_14 : decode b_Model_tells 14 = .ok (.getfield 113, 3) := by decide +kernel
theorem d_Model_tells_17 : decode b_Model_tells 17 = .ok (.putfield 113, 3) := by decide +kernel
theorem d_Model_tells_20 : decode b_Model_tells 20 = .ok (.return_, 1) := by decide +kernel
def X_Model_tells (n : Nat) (p1 : Int32) (M : Mem) : Option (Unit × Mem) :=
  nm (fun (u1 : Int32) => (some ((), si M 0 17 u1) : Option (Unit × Mem))) fun k17 =>
  (if p1 ≤ (M.1 0 17) then
    k17 (M.1 0 17)
    else
    k17 p1)
set_option maxRecDepth 20000 in
set_option maxHeartbeats 4000000 in
theorem C_Model_tells (n : Nat)   (p1 : Int32) (M : Mem) : Ct y_Model_tells mt_Model_tells wU [Value.ref 0, Value.int p1] M (X_Model_tells n p1 M) := by
  refine ct_of (by decide +kernel) rfl (Nat.le_of_ble_eq_true rfl) ?_
  show J _ _ _ [(0, Value.ref 0), (1, Value.int p1)] _ _ _
  unfold X_Model_tells
  refine j_aload_n (pc := 0) (q := 0) d_Model_tells_0 rfl rfl ?_
  refine j_iload_n (pc := 1) (q := 1) d_Model_tells_1 rfl rfl ?_
  refine j_aload_n (pc := 2) (q := 0) d_Model_tells_2 rfl rfl ?_
  refine j_getI (pc := 3) d_Model_tells_3 fl_Model_113 sm_0 (by decide) rfl ?_
  refine j_nmk (fun k => ∀ (u1 : Int32), J (mt_Model_tells) wU 17 [] [Value.int u1, Value.ref 0] M (k u1)) (fun u1 => ?_) (fun k17 hk17 => ?_)
  · refine j_putI (pc := 17) d_Model_tells_17 fl_Model_113 rfl sm_0 (by decide) rfl ?_
    exact j_return (pc := 20) d_Model_tells_20 rfl
  · refine j_icmp_le (pc := 6) (tgt := 13) d_Model_tells_6 (by decide) (fun _ => ?_) (fun _ => ?_)
    · refine j_aload_n (pc := 13) (q := 0) d_Model_tells_13 rfl rfl ?_
      refine j_getI (pc := 14) d_Model_tells_14 fl_Model_113 sm_0 (by decide) rfl ?_
      refine j_lv [] rfl ?_
      exact hk17 (M.1 0 17)
    · refine j_iload_n (pc := 9) (q := 1) d_Model_tells_9 rfl rfl ?_
      refine j_goto (pc := 10) (tgt := 17) d_Model_tells_10 (by decide) ?_
      refine j_lv [] rfl ?_
      exact hk17 p1
-- Model.readGlove ()V
def mt_Model_readGlove : Mt := ("ShakeHandsModel", b_Model_readGlove, 2, none, 4, SHm)
theorem d_Model_readGlove_0 : decode b_Model_readGlove 0 = .ok (.aload_n 0, 1) := by decide +kernel
theorem d_Model_readGlove_1 : decode b_Model_readGlove 1 = .ok (.iconst 0, 1) := by decide +kernel
theorem d_Model_readGlove_2 : decode b_Model_readGlove 2 = .ok (.iconst 5, 1) := by decide +kernel
theorem d_Model_readGlove_3 : decode b_Model_readGlove 3 = .ok (.invokevirtual 185, 3) := by decide +kernel
theorem d_Model_readGlove_6 : decode b_Model_readGlove 6 = .ok (.istore_n 1, 1) := by decide +kernel
theorem d_Model_readGlove_7 : decode b_Model_readGlove 7 = .ok (.aload_n 0, 1) := by decide +kernel
theorem d_Model_readGlove_8 : decode b_Model_readGlove 8 = .ok (.getfield 147, 3) := by decide +kernel
theorem d_Model_readGlove_11 : decode b_Model_readGlove 11 = .ok (.ifCond .ne 22, 3) := by decide +kernel
theorem d_Model_readGlove_14 : decode b_Model_readGlove 14 = .ok (.aload_n 0, 1) := by decide +kernel
theorem d_Model_readGlove_15 : decode b_Model_readGlove 15 = .ok (.aload_n 0, 1) := by decide +kernel
theorem d_Model_readGlove_16 : decode b_Model_readGlove 16 = .ok (.getfield 44, 3) := by decide +kernel
theorem d_Model_readGlove_19 : decode b_Model_readGlove 19 = .ok (.iload_n 1, 1) := by decide +kernel
theorem d_Model_readGlove_20 : decode b_Model_readGlove 20 = .ok (.baload, 1) := by decide +kernel
theorem d_Model_readGlove_21 : decode b_Model_readGlove 21 = .ok (.ifCond .ne 7, 3) := by decide +kernel
theorem d_Model_readGlove_24 : decode b_Model_readGlove 24 = .ok (.iconst 1, 1) := by decide +kernel
theorem d_Model_readGlove_25 : decode b_Model_readGlove 25 = .ok (.goto 4, 3) := by decide +kernel
theorem d_Model_readGlove_28 : decode b_Model_readGlove 28 = .ok (.iconst 0, 1) := by decide +kernel
theorem d_Model_readGlove_29 : decode b_Model_readGlove 29 = .ok (.iconst 4, 1) := by decide +kernel
theorem d_Model_readGlove_30 : decode b_Model_readGlove 30 = .ok (.invokevirtual 181, 3) := by decide +kernel
theorem d_Model_readGlove_33 : decode b_Model_readGlove 33 = .ok (.aload_n 0, 1) := by decide +kernel
theorem d_Model_readGlove_34 : decode b_Model_readGlove 34 = .ok (.invokevirtual 188, 3) := by decide +kernel
theorem d_Model_readGlove_37 : decode b_Model_readGlove 37 = .ok (.aload_n 0, 1) := by decide +kernel
theorem d_Model_readGlove_38 : decode b_Model_readGlove 38 = .ok (.getfield 44, 3) := by decide +kernel
theorem d_Model_readGlove_41 : decode b_Model_readGlove 41 = .ok (.iload_n 1, 1) := by decide +kernel
theorem d_Model_readGlove_42 : decode b_Model_readGlove 42 = .ok (.iconst 1, 1) := by decide +kernel
theorem d_Model_readGlove_43 : decode b_Model_readGlove 43 = .ok (.bastore, 1) := by decide +kernel
theorem d_Model_readGlove_44 : decode b_Model_readGlove 44 = .ok (.aload_n 0, 1) := by decide +kernel
theorem d_Model_readGlove_45 : decode b_Model_readGlove 45 = .ok (.iload_n 1, 1) := by decide +kernel
theorem d_Model_readGlove_46 : decode b_Model_readGlove 46 = .ok (.invokevirtual 191, 3) := by decide +kernel
theorem d_Model_readGlove_49 : decode b_Model_readGlove 49 = .ok (.return_, 1) := by decide +kernel
def X_Model_readGlove (n : Nat) (M : Mem) : Option (Unit × Mem) :=
  bd (X_Model_looked n 0 5 M) fun r1 M2 =>
  nm (fun (M3 : Mem) => (bd (X_Model_next n M3) fun _ M5 =>
      gd r1 6 (
        nm (si M5 12 (r1.toNatClampNeg) (vp_nar .boolean 1)) fun N6 =>
        bd (X_Model_tells n r1 N6) fun _ M8 =>
        some ((), M8)) : Option (Unit × Mem))) fun k33 =>
  (if (M2.1 0 31) = 0 then
    gd r1 6 (
      nm (fun (u9 : Int32) => (bd (X_Model_needs n u9 4 M2) fun _ M11 =>
          k33 M11 : Option (Unit × Mem))) fun k29 =>
      (if (M2.1 12 r1.toNatClampNeg) = 0 then
        k29 1
        else
        k29 0))
    else
    k33 M2)
set_option maxRecDepth 20000 in
set_option maxHeartbeats 4000000 in
theorem C_Model_readGlove (n : Nat)    (M : Mem) : Ct y_Model_readGlove mt_Model_readGlove wU [Value.ref 0] M (X_Model_readGlove n M) := by
  refine ct_of (by decide +kernel) rfl (Nat.le_of_ble_eq_true rfl) ?_
  show J _ _ _ [(0, Value.ref 0)] _ _ _
  unfold X_Model_readGlove
  refine j_aload_n (pc := 0) (q := 0) d_Model_readGlove_0 rfl rfl ?_
  refine j_iconst (pc := 1) d_Model_readGlove_1 k_i_0 ?_
  refine j_iconst (pc := 2) d_Model_readGlove_2 k_i_5 ?_
  refine j_callV2 (pc := 3) d_Model_readGlove_3 (C_Model_looked n 0 5 M) cV_Model_185 cd_Model_looked dn_Model_looked rfl (by decide) (Nat.le_of_ble_eq_true rfl) (Nat.le_of_ble_eq_true rfl) nr_I sm_0 (by decide) rfl (fun r1 M2 => ?_)
  refine j_istore_n (pc := 6) d_Model_readGlove_6 rfl (by decide) rfl ?_
  refine j_aload_n (pc := 7) (q := 1) d_Model_readGlove_7 rfl rfl ?_
  refine j_getI (pc := 8) d_Model_readGlove_8 fl_Model_147 sm_0 (by decide) rfl ?_
  refine j_nmk (fun k => ∀ (M3 : Mem), J (mt_Model_readGlove) wU 33 [(0, Value.ref 0), (1, Value.int r1)] [] M3 (k M3)) (fun M3 => ?_) (fun k33 hk33 => ?_)
  · refine j_aload_n (pc := 33) (q := 0) d_Model_readGlove_33 rfl rfl ?_
    refine j_callV0 (pc := 34) d_Model_readGlove_34 (C_Model_next n M3) cV_Model_188 cd_Model_next dn_Model_next rfl (by decide) (Nat.le_of_ble_eq_true rfl) (Nat.le_of_ble_eq_true rfl) nr_U sm_0 (by decide) rfl (fun r4 M5 => ?_)
    refine j_aload_n (pc := 37) (q := 0) d_Model_readGlove_37 rfl rfl ?_
    refine j_getA (pc := 38) d_Model_readGlove_38 fl_Model_44 sm_0 (by decide) rfl ?_
    refine j_iload_n (pc := 41) (q := 1) d_Model_readGlove_41 rfl rfl ?_
    refine j_iconst (pc := 42) d_Model_readGlove_42 k_i_1 ?_
    refine j_zast (pc := 43) d_Model_readGlove_43 sm_12 (fun _ => ?_)
    refine j_aload_n (pc := 44) (q := 0) d_Model_readGlove_44 rfl rfl ?_
    refine j_iload_n (pc := 45) (q := 1) d_Model_readGlove_45 rfl rfl ?_
    refine j_nmM (fun N6 => ?_)
    refine j_callV1 (pc := 46) d_Model_readGlove_46 (C_Model_tells n r1 N6) cV_Model_191 cd_Model_tells dn_Model_tells rfl (by decide) (Nat.le_of_ble_eq_true rfl) (Nat.le_of_ble_eq_true rfl) nr_U sm_0 (by decide) rfl (fun r7 M8 => ?_)
    exact j_return (pc := 49) d_Model_readGlove_49 rfl
  · refine j_if_ne (pc := 11) (tgt := 33) d_Model_readGlove_11 (by decide) (fun _ => ?_) (fun _ => ?_)
    · refine j_lv [1, 0] rfl ?_
      exact hk33 M2
    · refine j_aload_n (pc := 14) (q := 1) d_Model_readGlove_14 rfl rfl ?_
      refine j_aload_n (pc := 15) (q := 1) d_Model_readGlove_15 rfl rfl ?_
      refine j_getA (pc := 16) d_Model_readGlove_16 fl_Model_44 sm_0 (by decide) rfl ?_
      refine j_iload_n (pc := 19) (q := 0) d_Model_readGlove_19 rfl rfl ?_
      refine j_zald (pc := 20) d_Model_readGlove_20 sm_12 (fun _ => ?_)
      refine j_nmk (fun k => ∀ (u9 : Int32), J (mt_Model_readGlove) wU 29 [(0, Value.ref 0), (1, Value.int r1)] [Value.int u9, Value.ref 0] M2 (k u9)) (fun u9 => ?_) (fun k29 hk29 => ?_)
      · refine j_iconst (pc := 29) d_Model_readGlove_29 k_i_4 ?_
        refine j_callV2 (pc := 30) d_Model_readGlove_30 (C_Model_needs n u9 4 M2) cV_Model_181 cd_Model_needs dn_Model_needs rfl (by decide) (Nat.le_of_ble_eq_true rfl) (Nat.le_of_ble_eq_true rfl) nr_U sm_0 (by decide) rfl (fun r10 M11 => ?_)
        exact hk33 M11
      · refine j_if_ne (pc := 21) (tgt := 28) d_Model_readGlove_21 (by decide) (fun _ => ?_) (fun _ => ?_)
        · refine j_iconst (pc := 28) d_Model_readGlove_28 k_i_0 ?_
          refine j_lv [1, 0] rfl ?_
          exact hk29 0
        · refine j_iconst (pc := 24) d_Model_readGlove_24 k_i_1 ?_
          refine j_goto (pc := 25) (tgt := 29) d_Model_readGlove_25 (by decide) ?_
          refine j_lv [1, 0] rfl ?_
          exact hk29 1
-- Model.readNumber (II)I
def mt_Model_readNumber : Mt := ("ShakeHandsModel", b_Model_readNumber, 4, some .int, 4, SHm)
theorem d_Model_readNumber_0 : decode b_Model_readNumber 0 = .ok (.aload_n 0, 1) := by decide +kernel
theorem d_Model_readNumber_1 : decode b_Model_readNumber 1 = .ok (.iload_n 1, 1) := by decide +kernel
theorem d_Model_readNumber_2 : decode b_Model_readNumber 2 = .ok (.iload_n 2, 1) := by decide +kernel
theorem d_Model_readNumber_3 : decode b_Model_readNumber 3 = .ok (.invokevirtual 185, 3) := by decide +kernel
theorem d_Model_readNumber_6 : decode b_Model_readNumber 6 = .ok (.istore_n 3, 1) := by decide +kernel
theorem d_Model_readNumber_7 : decode b_Model_readNumber 7 = .ok (.aload_n 0, 1) := by decide +kernel
theorem d_Model_readNumber_8 : decode b_Model_readNumber 8 = .ok (.invokevirtual 188, 3) := by decide +kernel
theorem d_Model_readNumber_11 : decode b_Model_readNumber 11 = .ok (.iload_n 3, 1) := by decide +kernel
theorem d_Model_readNumber_12 : decode b_Model_readNumber 12 = .ok (.ireturn, 1) := by decide +kernel
def X_Model_readNumber (n : Nat) (p1 : Int32) (p2 : Int32) (M : Mem) : Option (Int32 × Mem) :=
  bd (X_Model_looked n p1 p2 M) fun r1 M2 =>
  bd (X_Model_next n M2) fun _ M4 =>
  some (r1, M4)
set_option maxRecDepth 20000 in
set_option maxHeartbeats 4000000 in
theorem C_Model_readNumber (n : Nat)   (p1 : Int32) (p2 : Int32) (M : Mem) : Ct y_Model_readNumber mt_Model_readNumber wI [Value.ref 0, Value.int p1, Value.int p2] M (X_Model_readNumber n p1 p2 M) := by
  refine ct_of (by decide +kernel) rfl (Nat.le_of_ble_eq_true rfl) ?_
  show J _ _ _ [(0, Value.ref 0), (1, Value.int p1), (2, Value.int p2)] _ _ _
  unfold X_Model_readNumber
  refine j_aload_n (pc := 0) (q := 0) d_Model_readNumber_0 rfl rfl ?_
  refine j_iload_n (pc := 1) (q := 1) d_Model_readNumber_1 rfl rfl ?_
  refine j_iload_n (pc := 2) (q := 2) d_Model_readNumber_2 rfl rfl ?_
  refine j_callV2 (pc := 3) d_Model_readNumber_3 (C_Model_looked n p1 p2 M) cV_Model_185 cd_Model_looked dn_Model_looked rfl (by decide) (Nat.le_of_ble_eq_true rfl) (Nat.le_of_ble_eq_true rfl) nr_I sm_0 (by decide) rfl (fun r1 M2 => ?_)
  refine j_istore_n (pc := 6) d_Model_readNumber_6 rfl (by decide) rfl ?_
  refine j_aload_n (pc := 7) (q := 1) d_Model_readNumber_7 rfl rfl ?_
  refine j_callV0 (pc := 8) d_Model_readNumber_8 (C_Model_next n M2) cV_Model_188 cd_Model_next dn_Model_next rfl (by decide) (Nat.le_of_ble_eq_true rfl) (Nat.le_of_ble_eq_true rfl) nr_U sm_0 (by decide) rfl (fun r3 M4 => ?_)
  refine j_iload_n (pc := 11) (q := 0) d_Model_readNumber_11 rfl rfl ?_
  exact j_ireturn (pc := 12) d_Model_readNumber_12 rfl
-- Model.readHand ()I
def mt_Model_readHand : Mt := ("ShakeHandsModel", b_Model_readHand, 3, some .int, 5, SHm)
theorem d_Model_readHand_0 : decode b_Model_readHand 0 = .ok (.aload_n 0, 1) := by decide +kernel
theorem d_Model_readHand_1 : decode b_Model_readHand 1 = .ok (.iconst 0, 1) := by decide +kernel
theorem d_Model_readHand_2 : decode b_Model_readHand 2 = .ok (.iconst 5, 1) := by decide +kernel
theorem d_Model_readHand_3 : decode b_Model_readHand 3 = .ok (.invokevirtual 195, 3) := by decide +kernel
theorem d_Model_readHand_6 : decode b_Model_readHand 6 = .ok (.istore_n 1, 1) := by decide +kernel
theorem d_Model_readHand_7 : decode b_Model_readHand 7 = .ok (.aload_n 0, 1) := by decide +kernel
theorem d_Model_readHand_8 : decode b_Model_readHand 8 = .ok (.iconst 0, 1) := by decide +kernel
theorem d_Model_readHand_9 : decode b_Model_readHand 9 = .ok (.iconst 5, 1) := by decide +kernel
theorem d_Model_readHand_10 : decode b_Model_readHand 10 = .ok (.invokevirtual 185, 3) := by decide +kernel
theorem d_Model_readHand_13 : decode b_Model_readHand 13 = .ok (.istore_n 2, 1) := by decide +kernel
theorem d_Model_readHand_14 : decode b_Model_readHand 14 = .ok (.aload_n 0, 1) := by decide +kernel
theorem d_Model_readHand_15 : decode b_Model_readHand 15 = .ok (.getfield 147, 3) := by decide +kernel
theorem d_Model_readHand_18 : decode b_Model_readHand 18 = .ok (.ifCond .ne 18, 3) := by decide +kernel
theorem d_Model_readHand_21 : decode b_Model_readHand 21 = .ok (.aload_n 0, 1) := by decide +kernel
theorem d_Model_readHand_22 : decode b_Model_readHand 22 = .ok (.iload_n 1, 1) := by decide +kernel
theorem d_Model_readHand_23 : decode b_Model_readHand 23 = .ok (.iload_n 2, 1) := by decide +kernel
theorem d_Model_readHand_24 : decode b_Model_readHand 24 = .ok (.if_icmp .eq 7, 3) := by decide +kernel
theorem d_Model_readHand_27 : decode b_Model_readHand 27 = .ok (.iconst 1, 1) := by decide +kernel
theorem d_Model_readHand_28 : decode b_Model_readHand 28 = .ok (.goto 4, 3) := by decide +kernel
theorem d_Model_readHand_31 : decode b_Model_readHand 31 = .ok (.iconst 0, 1) := by decide +kernel
theorem d_Model_readHand_32 : decode b_Model_readHand 32 = .ok (.iconst 4, 1) := by decide +kernel
theorem d_Model_readHand_33 : decode b_Model_readHand 33 = .ok (.invokevirtual 181, 3) := by decide +kernel
theorem d_Model_readHand_36 : decode b_Model_readHand 36 = .ok (.aload_n 0, 1) := by decide +kernel
theorem d_Model_readHand_37 : decode b_Model_readHand 37 = .ok (.invokevirtual 188, 3) := by decide +kernel
theorem d_Model_readHand_40 : decode b_Model_readHand 40 = .ok (.aload_n 0, 1) := by decide +kernel
theorem d_Model_readHand_41 : decode b_Model_readHand 41 = .ok (.iload_n 1, 1) := by decide +kernel
theorem d_Model_readHand_42 : decode b_Model_readHand 42 = .ok (.invokevirtual 191, 3) := by decide +kernel
theorem d_Model_readHand_45 : decode b_Model_readHand 45 = .ok (.aload_n 0, 1) := by decide +kernel
theorem d_Model_readHand_46 : decode b_Model_readHand 46 = .ok (.iload_n 2, 1) := by decide +kernel
theorem d_Model_readHand_47 : decode b_Model_readHand 47 = .ok (.invokevirtual 191, 3) := by decide +kernel
theorem d_Model_readHand_50 : decode b_Model_readHand 50 = .ok (.aload_n 0, 1) := by decide +kernel
theorem d_Model_readHand_51 : decode b_Model_readHand 51 = .ok (.getfield 147, 3) := by decide +kernel
theorem d_Model_readHand_54 : decode b_Model_readHand 54 = .ok (.ifCond .ne 11, 3) := by decide +kernel
theorem d_Model_readHand_57 : decode b_Model_readHand 57 = .ok (.iload_n 1, 1) := by decide +kernel
theorem d_Model_readHand_58 : decode b_Model_readHand 58 = .ok (.iload_n 2, 1) := by decide +kernel
theorem d_Model_readHand_59 : decode b_Model_readHand 59 = .ok (.invokestatic 87, 3) := by decide +kernel
theorem d_Model_readHand_62 : decode b_Model_readHand 62 = .ok (.goto 4, 3) := by decide +kernel
theorem d_Model_readHand_65 : decode b_Model_readHand 65 = .ok (.iconst 0, 1) := by decide +kernel
theorem d_Model_readHand_66 : decode b_Model_readHand 66 = .ok (.ireturn, 1) := by decide +kernel
def X_Model_readHand (n : Nat) (M : Mem) : Option (Int32 × Mem) :=
  bd (X_Model_readNumber n 0 5 M) fun r1 M2 =>
  bd (X_Model_looked n 0 5 M2) fun r3 M4 =>
  nm (fun (M5 : Mem) => (bd (X_Model_next n M5) fun _ M7 =>
      bd (X_Model_tells n r1 M7) fun _ M9 =>
      bd (X_Model_tells n r3 M9) fun _ M11 =>
      (if (M11.1 0 31) = 0 then
        bd (X_Model_pairOf n r1 r3 M11) fun r12 M13 =>
        some (r12, M13)
        else
        some (0, M11)) : Option (Int32 × Mem))) fun k36 =>
  (if (M4.1 0 31) = 0 then
    nm (fun (u14 : Int32) => (bd (X_Model_needs n u14 4 M4) fun _ M16 =>
        k36 M16 : Option (Int32 × Mem))) fun k32 =>
    (if r1 = r3 then
      k32 0
      else
      k32 1)
    else
    k36 M4)
set_option maxRecDepth 20000 in
set_option maxHeartbeats 4000000 in
theorem C_Model_readHand (n : Nat)    (M : Mem) : Ct y_Model_readHand mt_Model_readHand wI [Value.ref 0] M (X_Model_readHand n M) := by
  refine ct_of (by decide +kernel) rfl (Nat.le_of_ble_eq_true rfl) ?_
  show J _ _ _ [(0, Value.ref 0)] _ _ _
  unfold X_Model_readHand
  refine j_aload_n (pc := 0) (q := 0) d_Model_readHand_0 rfl rfl ?_
  refine j_iconst (pc := 1) d_Model_readHand_1 k_i_0 ?_
  refine j_iconst (pc := 2) d_Model_readHand_2 k_i_5 ?_
  refine j_callV2 (pc := 3) d_Model_readHand_3 (C_Model_readNumber n 0 5 M) cV_Model_195 cd_Model_readNumber dn_Model_readNumber rfl (by decide) (Nat.le_of_ble_eq_true rfl) (Nat.le_of_ble_eq_true rfl) nr_I sm_0 (by decide) rfl (fun r1 M2 => ?_)
  refine j_istore_n (pc := 6) d_Model_readHand_6 rfl (by decide) rfl ?_
  refine j_aload_n (pc := 7) (q := 1) d_Model_readHand_7 rfl rfl ?_
  refine j_iconst (pc := 8) d_Model_readHand_8 k_i_0 ?_
  refine j_iconst (pc := 9) d_Model_readHand_9 k_i_5 ?_
  refine j_callV2 (pc := 10) d_Model_readHand_10 (C_Model_looked n 0 5 M2) cV_Model_185 cd_Model_looked dn_Model_looked rfl (by decide) (Nat.le_of_ble_eq_true rfl) (Nat.le_of_ble_eq_true rfl) nr_I sm_0 (by decide) rfl (fun r3 M4 => ?_)
  refine j_istore_n (pc := 13) d_Model_readHand_13 rfl (by decide) rfl ?_
  refine j_aload_n (pc := 14) (q := 2) d_Model_readHand_14 rfl rfl ?_
  refine j_getI (pc := 15) d_Model_readHand_15 fl_Model_147 sm_0 (by decide) rfl ?_
  refine j_nmk (fun k => ∀ (M5 : Mem), J (mt_Model_readHand) wI 36 [(0, Value.ref 0), (1, Value.int r1), (2, Value.int r3)] [] M5 (k M5)) (fun M5 => ?_) (fun k36 hk36 => ?_)
  · refine j_aload_n (pc := 36) (q := 0) d_Model_readHand_36 rfl rfl ?_
    refine j_callV0 (pc := 37) d_Model_readHand_37 (C_Model_next n M5) cV_Model_188 cd_Model_next dn_Model_next rfl (by decide) (Nat.le_of_ble_eq_true rfl) (Nat.le_of_ble_eq_true rfl) nr_U sm_0 (by decide) rfl (fun r6 M7 => ?_)
    refine j_aload_n (pc := 40) (q := 0) d_Model_readHand_40 rfl rfl ?_
    refine j_iload_n (pc := 41) (q := 1) d_Model_readHand_41 rfl rfl ?_
    refine j_callV1 (pc := 42) d_Model_readHand_42 (C_Model_tells n r1 M7) cV_Model_191 cd_Model_tells dn_Model_tells rfl (by decide) (Nat.le_of_ble_eq_true rfl) (Nat.le_of_ble_eq_true rfl) nr_U sm_0 (by decide) rfl (fun r8 M9 => ?_)
    refine j_aload_n (pc := 45) (q := 0) d_Model_readHand_45 rfl rfl ?_
    refine j_iload_n (pc := 46) (q := 2) d_Model_readHand_46 rfl rfl ?_
    refine j_callV1 (pc := 47) d_Model_readHand_47 (C_Model_tells n r3 M9) cV_Model_191 cd_Model_tells dn_Model_tells rfl (by decide) (Nat.le_of_ble_eq_true rfl) (Nat.le_of_ble_eq_true rfl) nr_U sm_0 (by decide) rfl (fun r10 M11 => ?_)
    refine j_aload_n (pc := 50) (q := 0) d_Model_readHand_50 rfl rfl ?_
    refine j_getI (pc := 51) d_Model_readHand_51 fl_Model_147 sm_0 (by decide) rfl ?_
    refine j_if_ne (pc := 54) (tgt := 65) d_Model_readHand_54 (by decide) (fun _ => ?_) (fun _ => ?_)
    · refine j_iconst (pc := 65) d_Model_readHand_65 k_i_0 ?_
      exact j_ireturn (pc := 66) d_Model_readHand_66 rfl
    · refine j_iload_n (pc := 57) (q := 1) d_Model_readHand_57 rfl rfl ?_
      refine j_iload_n (pc := 58) (q := 2) d_Model_readHand_58 rfl rfl ?_
      refine j_callS2 (pc := 59) d_Model_readHand_59 (C_Model_pairOf n r1 r3 M11) cS_Model_87 cd_Model_pairOf dn_Model_pairOf rfl (by decide) (Nat.le_of_ble_eq_true rfl) (Nat.le_of_ble_eq_true rfl) nr_I (fun r12 M13 => ?_)
      refine j_goto (pc := 62) (tgt := 66) d_Model_readHand_62 (by decide) ?_
      exact j_ireturn (pc := 66) d_Model_readHand_66 rfl
  · refine j_if_ne (pc := 18) (tgt := 36) d_Model_readHand_18 (by decide) (fun _ => ?_) (fun _ => ?_)
    · refine j_lv [2, 1, 0] rfl ?_
      exact hk36 M4
    · refine j_aload_n (pc := 21) (q := 2) d_Model_readHand_21 rfl rfl ?_
      refine j_iload_n (pc := 22) (q := 1) d_Model_readHand_22 rfl rfl ?_
      refine j_iload_n (pc := 23) (q := 0) d_Model_readHand_23 rfl rfl ?_
      refine j_nmk (fun k => ∀ (u14 : Int32), J (mt_Model_readHand) wI 32 [(0, Value.ref 0), (1, Value.int r1), (2, Value.int r3)] [Value.int u14, Value.ref 0] M4 (k u14)) (fun u14 => ?_) (fun k32 hk32 => ?_)
      · refine j_iconst (pc := 32) d_Model_readHand_32 k_i_4 ?_
        refine j_callV2 (pc := 33) d_Model_readHand_33 (C_Model_needs n u14 4 M4) cV_Model_181 cd_Model_needs dn_Model_needs rfl (by decide) (Nat.le_of_ble_eq_true rfl) (Nat.le_of_ble_eq_true rfl) nr_U sm_0 (by decide) rfl (fun r15 M16 => ?_)
        exact hk36 M16
      · refine j_icmp_eq (pc := 24) (tgt := 31) d_Model_readHand_24 (by decide) (fun _ => ?_) (fun _ => ?_)
        · refine j_iconst (pc := 31) d_Model_readHand_31 k_i_0 ?_
          refine j_lv [2, 1, 0] rfl ?_
          exact hk32 0
        · refine j_iconst (pc := 27) d_Model_readHand_27 k_i_1 ?_
          refine j_goto (pc := 28) (tgt := 32) d_Model_readHand_28 (by decide) ?_
          refine j_lv [2, 1, 0] rfl ?_
          exact hk32 1
-- Model.readJoin ()V
def mt_Model_readJoin : Mt := ("ShakeHandsModel", b_Model_readJoin, 4, none, 5, SHm)
theorem d_Model_readJoin_0 : decode b_Model_readJoin 0 = .ok (.aload_n 0, 1) := by decide +kernel
theorem d_Model_readJoin_1 : decode b_Model_readJoin 1 = .ok (.iconst 0, 1) := by decide +kernel
theorem d_Model_readJoin_2 : decode b_Model_readJoin 2 = .ok (.bipush 15, 2) := by decide +kernel
theorem d_Model_readJoin_4 : decode b_Model_readJoin 4 = .ok (.invokevirtual 195, 3) := by decide +kernel
theorem d_Model_readJoin_7 : decode b_Model_readJoin 7 = .ok (.istore_n 1, 1) := by decide +kernel
theorem d_Model_readJoin_8 : decode b_Model_readJoin 8 = .ok (.aload_n 0, 1) := by decide +kernel
theorem d_Model_readJoin_9 : decode b_Model_readJoin 9 = .ok (.iconst 0, 1) := by decide +kernel
theorem d_Model_readJoin_10 : decode b_Model_readJoin 10 = .ok (.bipush 15, 2) := by decide +kernel
theorem d_Model_readJoin_12 : decode b_Model_readJoin 12 = .ok (.invokevirtual 185, 3) := by decide +kernel
theorem d_Model_readJoin_15 : decode b_Model_readJoin 15 = .ok (.istore_n 2, 1) := by decide +kernel
theorem d_Model_readJoin_16 : decode b_Model_readJoin 16 = .ok (.aload_n 0, 1) := by decide +kernel
theorem d_Model_readJoin_17 : decode b_Model_readJoin 17 = .ok (.getfield 147, 3) := by decide +kernel
theorem d_Model_readJoin_20 : decode b_Model_readJoin 20 = .ok (.ifCond .ne 18, 3) := by decide +kernel
theorem d_Model_readJoin_23 : decode b_Model_readJoin 23 = .ok (.aload_n 0, 1) := by decide +kernel
theorem d_Model_readJoin_24 : decode b_Model_readJoin 24 = .ok (.iload_n 2, 1) := by decide +kernel
theorem d_Model_readJoin_25 : decode b_Model_readJoin 25 = .ok (.iload_n 1, 1) := by decide +kernel
theorem d_Model_readJoin_26 : decode b_Model_readJoin 26 = .ok (.if_icmp .eq 7, 3) := by decide +kernel
theorem d_Model_readJoin_29 : decode b_Model_readJoin 29 = .ok (.iconst 1, 1) := by decide +kernel
theorem d_Model_readJoin_30 : decode b_Model_readJoin 30 = .ok (.goto 4, 3) := by decide +kernel
theorem d_Model_readJoin_33 : decode b_Model_readJoin 33 = .ok (.iconst 0, 1) := by decide +kernel
theorem d_Model_readJoin_34 : decode b_Model_readJoin 34 = .ok (.iconst 4, 1) := by decide +kernel
theorem d_Model_readJoin_35 : decode b_Model_readJoin 35 = .ok (.invokevirtual 181, 3) := by decide +kernel
theorem d_Model_readJoin_38 : decode b_Model_readJoin 38 = .ok (.aload_n 0, 1) := by decide +kernel
theorem d_Model_readJoin_39 : decode b_Model_readJoin 39 = .ok (.invokevirtual 188, 3) := by decide +kernel
theorem d_Model_readJoin_42 : decode b_Model_readJoin 42 = .ok (.aload_n 0, 1) := by decide +kernel
theorem d_Model_readJoin_43 : decode b_Model_readJoin 43 = .ok (.iconst 0, 1) := by decide +kernel
theorem d_Model_readJoin_44 : decode b_Model_readJoin 44 = .ok (.bipush 15, 2) := by decide +kernel
theorem d_Model_readJoin_46 : decode b_Model_readJoin 46 = .ok (.invokevirtual 185, 3) := by decide +kernel
theorem d_Model_readJoin_49 : decode b_Model_readJoin 49 = .ok (.istore_n 3, 1) := by decide +kernel
theorem d_Model_readJoin_50 : decode b_Model_readJoin 50 = .ok (.aload_n 0, 1) := by decide +kernel
theorem d_Model_readJoin_51 : decode b_Model_readJoin 51 = .ok (.getfield 147, 3) := by decide +kernel
theorem d_Model_readJoin_54 : decode b_Model_readJoin 54 = .ok (.ifCond .ne 23, 3) := by decide +kernel
theorem d_Model_readJoin_57 : decode b_Model_readJoin 57 = .ok (.aload_n 0, 1) := by decide +kernel
theorem d_Model_readJoin_58 : decode b_Model_readJoin 58 = .ok (.iload_n 3, 1) := by decide +kernel
theorem d_Model_readJoin_59 : decode b_Model_readJoin 59 = .ok (.iload_n 1, 1) := by decide +kernel
theorem d_Model_readJoin_60 : decode b_Model_readJoin 60 = .ok (.if_icmp .eq 12, 3) := by decide +kernel
theorem d_Model_readJoin_63 : decode b_Model_readJoin 63 = .ok (.iload_n 3, 1) := by decide +kernel
theorem d_Model_readJoin_64 : decode b_Model_readJoin 64 = .ok (.iload_n 2, 1) := by decide +kernel
theorem d_Model_readJoin_65 : decode b_Model_readJoin 65 = .ok (.if_icmp .eq 7, 3) := by decide +kernel
theorem d_Model_readJoin_68 : decode b_Model_readJoin 68 = .ok (.iconst 1, 1) := by decide +kernel
theorem d_Model_readJoin_69 : decode b_Model_readJoin 69 = .ok (.goto 4, 3) := by decide +kernel
theorem d_Model_readJoin_72 : decode b_Model_readJoin 72 = .ok (.iconst 0, 1) := by decide +kernel
theorem d_Model_readJoin_73 : decode b_Model_readJoin 73 = .ok (.iconst 4, 1) := by decide +kernel
theorem d_Model_readJoin_74 : decode b_Model_readJoin 74 = .ok (.invokevirtual 181, 3) := by decide +kernel
theorem d_Model_readJoin_77 : decode b_Model_readJoin 77 = .ok (.aload_n 0, 1) := by decide +kernel
theorem d_Model_readJoin_78 : decode b_Model_readJoin 78 = .ok (.invokevirtual 188, 3) := by decide +kernel
theorem d_Model_readJoin_81 : decode b_Model_readJoin 81 = .ok (.aload_n 0, 1) := by decide +kernel
theorem d_Model_readJoin_82 : decode b_Model_readJoin 82 = .ok (.getfield 147, 3) := by decide +kernel
theorem d_Model_readJoin_85 : decode b_Model_readJoin 85 = .ok (.ifCond .ne 43, 3) := by decide +kernel
theorem d_Model_readJoin_88 : decode b_Model_readJoin 88 = .ok (.aload_n 0, 1) := by decide +kernel
theorem d_Model_readJoin_89 : decode b_Model_readJoin 89 = .ok (.getfield 32, 3) := by decide +kernel
theorem d_Model_readJoin_92 : decode b_Model_readJoin 92 = .ok (.iconst 3, 1) := by decide +kernel
theorem d_Model_readJoin_93 : decode b_Model_readJoin 93 = .ok (.aload_n 0, 1) := by decide +kernel
theorem d_Model_readJoin_94 : decode b_Model_readJoin 94 = .ok (.getfield 104, 3) := by decide +kernel
theorem d_Model_readJoin_97 : decode b_Model_readJoin 97 = .ok (.imul, 1) := by decide +kernel
theorem d_Model_readJoin_98 : decode b_Model_readJoin 98 = .ok (.iload_n 1, 1) := by decide +kernel
theorem d_Model_readJoin_99 : decode b_Model_readJoin 99 = .ok (.iastore, 1) := by decide +kernel
theorem d_Model_readJoin_100 : decode b_Model_readJoin 100 = .ok (.aload_n 0, 1) := by decide +kernel
theorem d_Model_readJoin_101 : decode b_Model_readJoin 101 = .ok (.getfield 32, 3) := by decide +kernel
theorem d_Model_readJoin_104 : decode b_Model_readJoin 104 = .ok (.iconst 3, 1) := by decide +kernel
theorem d_Model_readJoin_105 : decode b_Model_readJoin 105 = .ok (.aload_n 0, 1) := by decide +kernel
theorem d_Model_readJoin_106 : decode b_Model_readJoin 106 = .ok (.getfield 104, 3) := by decide +kernel
theorem d_Model_readJoin_109 : decode b_Model_readJoin 109 = .ok (.imul, 1) := by decide +kernel
theorem d_Model_readJoin_110 : decode b_Model_readJoin 110 = .ok (.iconst 1, 1) := by decide +kernel
theorem d_Model_readJoin_111 : decode b_Model_readJoin 111 = .ok (.iadd, 1) := by decide +kernel
theorem d_Model_readJoin_112 : decode b_Model_readJoin 112 = .ok (.iload_n 2, 1) := by decide +kernel
theorem d_Model_readJoin_113 : decode b_Model_readJoin 113 = .ok (.iastore, 1) := by decide +kernel
theorem d_Model_readJoin_114 : decode b_Model_readJoin 114 = .ok (.aload_n 0, 1) := by decide +kernel
theorem d_Model_readJoin_115 : decode b_Model_readJoin 115 = .ok (.getfield 32, 3) := by decide +kernel
theorem d_Model_readJoin_118 : decode b_Model_readJoin 118 = .ok (.iconst 3, 1) := by decide +kernel
theorem d_Model_readJoin_119 : decode b_Model_readJoin 119 = .ok (.aload_n 0, 1) := by decide +kernel
theorem d_Model_readJoin_120 : decode b_Model_readJoin 120 = .ok (.getfield 104, 3) := by decide +kernel
theorem d_Model_readJoin_123 : decode b_Model_readJoin 123 = .ok (.imul, 1) := by decide +kernel
theorem d_Model_readJoin_124 : decode b_Model_readJoin 124 = .ok (.iconst 2, 1) := by decide +kernel
theorem d_Model_readJoin_125 : decode b_Model_readJoin 125 = .ok (.iadd, 1) := by decide +kernel
theorem d_Model_readJoin_126 : decode b_Model_readJoin 126 = .ok (.iload_n 3, 1) := by decide +kernel
theorem d_Model_readJoin_127 : decode b_Model_readJoin 127 = .ok (.iastore, 1) := by decide +kernel
theorem d_Model_readJoin_128 : decode b_Model_readJoin 128 = .ok (.aload_n 0, 1) := by decide +kernel
theorem d_Model_readJoin_129 : decode b_Model_readJoin 129 = .ok (.dup, 1) := by decide +kernel
theorem d_Model_readJoin_130 : decode b_Model_readJoin 130 = .ok (.getfield 104, 3) := by decide +kernel
theorem d_Model_readJoin_133 : decode b_Model_readJoin 133 = .ok (.iconst 1, 1) := by decide +kernel
theorem d_Model_readJoin_134 : decode b_Model_readJoin 134 = .ok (.iadd, 1) := by decide +kernel
theorem d_Model_readJoin_135 : decode b_Model_readJoin 135 = .ok (.putfield 104, 3) := by decide +kernel
theorem d_Model_readJoin_138 : decode b_Model_readJoin 138 = .ok (.return_, 1) := by decide +kernel
def X_Model_readJoin (n : Nat) (M : Mem) : Option (Unit × Mem) :=
  bd (X_Model_readNumber n 0 15 M) fun r1 M2 =>
  bd (X_Model_looked n 0 15 M2) fun r3 M4 =>
  nm (fun (M5 : Mem) => (bd (X_Model_next n M5) fun _ M7 =>
      bd (X_Model_looked n 0 15 M7) fun r8 M9 =>
      nm (fun (M10 : Mem) => (bd (X_Model_next n M10) fun _ M12 =>
          nm (fun (M13 : Mem) => (some ((), si M13 0 14 ((M13.1 0 14) + 1)) : Option (Unit × Mem))) fun k128 =>
          (if (M12.1 0 31) = 0 then
            gd ((3 : Int32) * (M12.1 0 14)) 12 (
              nm (si M12 8 (((3 : Int32) * (M12.1 0 14)).toNatClampNeg) r1) fun N14 =>
              gd (((3 : Int32) * (N14.1 0 14)) + 1) 12 (
                nm (si N14 8 ((((3 : Int32) * (N14.1 0 14)) + 1).toNatClampNeg) r3) fun N15 =>
                gd (((3 : Int32) * (N15.1 0 14)) + 2) 12 (
                  k128 (si N15 8 ((((3 : Int32) * (N15.1 0 14)) + 2).toNatClampNeg) r8))))
            else
            k128 M12) : Option (Unit × Mem))) fun k77 =>
      (if (M9.1 0 31) = 0 then
        nm (fun (u16 : Int32) => (bd (X_Model_needs n u16 4 M9) fun _ M18 =>
            k77 M18 : Option (Unit × Mem))) fun k73 =>
        (if r8 = r1 then
          k73 0
          else
          (if r8 = r3 then
            k73 0
            else
            k73 1))
        else
        k77 M9) : Option (Unit × Mem))) fun k38 =>
  (if (M4.1 0 31) = 0 then
    nm (fun (u19 : Int32) => (bd (X_Model_needs n u19 4 M4) fun _ M21 =>
        k38 M21 : Option (Unit × Mem))) fun k34 =>
    (if r3 = r1 then
      k34 0
      else
      k34 1)
    else
    k38 M4)
set_option maxRecDepth 20000 in
set_option maxHeartbeats 4000000 in
theorem C_Model_readJoin (n : Nat)    (M : Mem) : Ct y_Model_readJoin mt_Model_readJoin wU [Value.ref 0] M (X_Model_readJoin n M) := by
  refine ct_of (by decide +kernel) rfl (Nat.le_of_ble_eq_true rfl) ?_
  show J _ _ _ [(0, Value.ref 0)] _ _ _
  unfold X_Model_readJoin
  refine j_aload_n (pc := 0) (q := 0) d_Model_readJoin_0 rfl rfl ?_
  refine j_iconst (pc := 1) d_Model_readJoin_1 k_i_0 ?_
  refine j_bipush (pc := 2) d_Model_readJoin_2 k_b_15 ?_
  refine j_callV2 (pc := 4) d_Model_readJoin_4 (C_Model_readNumber n 0 15 M) cV_Model_195 cd_Model_readNumber dn_Model_readNumber rfl (by decide) (Nat.le_of_ble_eq_true rfl) (Nat.le_of_ble_eq_true rfl) nr_I sm_0 (by decide) rfl (fun r1 M2 => ?_)
  refine j_istore_n (pc := 7) d_Model_readJoin_7 rfl (by decide) rfl ?_
  refine j_aload_n (pc := 8) (q := 1) d_Model_readJoin_8 rfl rfl ?_
  refine j_iconst (pc := 9) d_Model_readJoin_9 k_i_0 ?_
  refine j_bipush (pc := 10) d_Model_readJoin_10 k_b_15 ?_
  refine j_callV2 (pc := 12) d_Model_readJoin_12 (C_Model_looked n 0 15 M2) cV_Model_185 cd_Model_looked dn_Model_looked rfl (by decide) (Nat.le_of_ble_eq_true rfl) (Nat.le_of_ble_eq_true rfl) nr_I sm_0 (by decide) rfl (fun r3 M4 => ?_)
  refine j_istore_n (pc := 15) d_Model_readJoin_15 rfl (by decide) rfl ?_
  refine j_aload_n (pc := 16) (q := 2) d_Model_readJoin_16 rfl rfl ?_
  refine j_getI (pc := 17) d_Model_readJoin_17 fl_Model_147 sm_0 (by decide) rfl ?_
  refine j_nmk (fun k => ∀ (M5 : Mem), J (mt_Model_readJoin) wU 38 [(0, Value.ref 0), (1, Value.int r1), (2, Value.int r3)] [] M5 (k M5)) (fun M5 => ?_) (fun k38 hk38 => ?_)
  · refine j_aload_n (pc := 38) (q := 0) d_Model_readJoin_38 rfl rfl ?_
    refine j_callV0 (pc := 39) d_Model_readJoin_39 (C_Model_next n M5) cV_Model_188 cd_Model_next dn_Model_next rfl (by decide) (Nat.le_of_ble_eq_true rfl) (Nat.le_of_ble_eq_true rfl) nr_U sm_0 (by decide) rfl (fun r6 M7 => ?_)
    refine j_aload_n (pc := 42) (q := 0) d_Model_readJoin_42 rfl rfl ?_
    refine j_iconst (pc := 43) d_Model_readJoin_43 k_i_0 ?_
    refine j_bipush (pc := 44) d_Model_readJoin_44 k_b_15 ?_
    refine j_callV2 (pc := 46) d_Model_readJoin_46 (C_Model_looked n 0 15 M7) cV_Model_185 cd_Model_looked dn_Model_looked rfl (by decide) (Nat.le_of_ble_eq_true rfl) (Nat.le_of_ble_eq_true rfl) nr_I sm_0 (by decide) rfl (fun r8 M9 => ?_)
    refine j_istore_n (pc := 49) d_Model_readJoin_49 rfl (by decide) rfl ?_
    refine j_aload_n (pc := 50) (q := 1) d_Model_readJoin_50 rfl rfl ?_
    refine j_getI (pc := 51) d_Model_readJoin_51 fl_Model_147 sm_0 (by decide) rfl ?_
    refine j_nmk (fun k => ∀ (M10 : Mem), J (mt_Model_readJoin) wU 77 [(0, Value.ref 0), (1, Value.int r1), (2, Value.int r3), (3, Value.int r8)] [] M10 (k M10)) (fun M10 => ?_) (fun k77 hk77 => ?_)
    · refine j_aload_n (pc := 77) (q := 0) d_Model_readJoin_77 rfl rfl ?_
      refine j_callV0 (pc := 78) d_Model_readJoin_78 (C_Model_next n M10) cV_Model_188 cd_Model_next dn_Model_next rfl (by decide) (Nat.le_of_ble_eq_true rfl) (Nat.le_of_ble_eq_true rfl) nr_U sm_0 (by decide) rfl (fun r11 M12 => ?_)
      refine j_aload_n (pc := 81) (q := 0) d_Model_readJoin_81 rfl rfl ?_
      refine j_getI (pc := 82) d_Model_readJoin_82 fl_Model_147 sm_0 (by decide) rfl ?_
      refine j_nmk (fun k => ∀ (M13 : Mem), J (mt_Model_readJoin) wU 128 [(0, Value.ref 0)] [] M13 (k M13)) (fun M13 => ?_) (fun k128 hk128 => ?_)
      · refine j_aload_n (pc := 128) (q := 0) d_Model_readJoin_128 rfl rfl ?_
        refine j_dup (pc := 129) d_Model_readJoin_129 rfl ?_
        refine j_getI (pc := 130) d_Model_readJoin_130 fl_Model_104 sm_0 (by decide) rfl ?_
        refine j_iconst (pc := 133) d_Model_readJoin_133 k_i_1 ?_
        refine j_iadd (pc := 134) d_Model_readJoin_134 ?_
        refine j_putI (pc := 135) d_Model_readJoin_135 fl_Model_104 rfl sm_0 (by decide) rfl ?_
        exact j_return (pc := 138) d_Model_readJoin_138 rfl
      · refine j_if_ne (pc := 85) (tgt := 128) d_Model_readJoin_85 (by decide) (fun _ => ?_) (fun _ => ?_)
        · refine j_lv [0] rfl ?_
          exact hk128 M12
        · refine j_aload_n (pc := 88) (q := 0) d_Model_readJoin_88 rfl rfl ?_
          refine j_getA (pc := 89) d_Model_readJoin_89 fl_Model_32 sm_0 (by decide) rfl ?_
          refine j_iconst (pc := 92) d_Model_readJoin_92 k_i_3 ?_
          refine j_aload_n (pc := 93) (q := 0) d_Model_readJoin_93 rfl rfl ?_
          refine j_getI (pc := 94) d_Model_readJoin_94 fl_Model_104 sm_0 (by decide) rfl ?_
          refine j_imul (pc := 97) d_Model_readJoin_97 ?_
          refine j_iload_n (pc := 98) (q := 1) d_Model_readJoin_98 rfl rfl ?_
          refine j_iast (pc := 99) d_Model_readJoin_99 sm_8 (fun _ => ?_)
          refine j_aload_n (pc := 100) (q := 0) d_Model_readJoin_100 rfl rfl ?_
          refine j_getA (pc := 101) d_Model_readJoin_101 fl_Model_32 sm_0 (by decide) rfl ?_
          refine j_iconst (pc := 104) d_Model_readJoin_104 k_i_3 ?_
          refine j_aload_n (pc := 105) (q := 0) d_Model_readJoin_105 rfl rfl ?_
          refine j_nmM (fun N14 => ?_)
          refine j_getI (pc := 106) d_Model_readJoin_106 fl_Model_104 sm_0 (by decide) rfl ?_
          refine j_imul (pc := 109) d_Model_readJoin_109 ?_
          refine j_iconst (pc := 110) d_Model_readJoin_110 k_i_1 ?_
          refine j_iadd (pc := 111) d_Model_readJoin_111 ?_
          refine j_iload_n (pc := 112) (q := 2) d_Model_readJoin_112 rfl rfl ?_
          refine j_iast (pc := 113) d_Model_readJoin_113 sm_8 (fun _ => ?_)
          refine j_aload_n (pc := 114) (q := 0) d_Model_readJoin_114 rfl rfl ?_
          refine j_getA (pc := 115) d_Model_readJoin_115 fl_Model_32 sm_0 (by decide) rfl ?_
          refine j_iconst (pc := 118) d_Model_readJoin_118 k_i_3 ?_
          refine j_aload_n (pc := 119) (q := 0) d_Model_readJoin_119 rfl rfl ?_
          refine j_nmM (fun N15 => ?_)
          refine j_getI (pc := 120) d_Model_readJoin_120 fl_Model_104 sm_0 (by decide) rfl ?_
          refine j_imul (pc := 123) d_Model_readJoin_123 ?_
          refine j_iconst (pc := 124) d_Model_readJoin_124 k_i_2 ?_
          refine j_iadd (pc := 125) d_Model_readJoin_125 ?_
          refine j_iload_n (pc := 126) (q := 3) d_Model_readJoin_126 rfl rfl ?_
          refine j_iast (pc := 127) d_Model_readJoin_127 sm_8 (fun _ => ?_)
          refine j_lv [0] rfl ?_
          exact hk128 (si N15 8 ((((3 : Int32) * (N15.1 0 14)) + 2).toNatClampNeg) r8)
    · refine j_if_ne (pc := 54) (tgt := 77) d_Model_readJoin_54 (by decide) (fun _ => ?_) (fun _ => ?_)
      · refine j_lv [1, 2, 3, 0] rfl ?_
        exact hk77 M9
      · refine j_aload_n (pc := 57) (q := 1) d_Model_readJoin_57 rfl rfl ?_
        refine j_iload_n (pc := 58) (q := 0) d_Model_readJoin_58 rfl rfl ?_
        refine j_iload_n (pc := 59) (q := 2) d_Model_readJoin_59 rfl rfl ?_
        refine j_nmk (fun k => ∀ (u16 : Int32), J (mt_Model_readJoin) wU 73 [(0, Value.ref 0), (1, Value.int r1), (2, Value.int r3), (3, Value.int r8)] [Value.int u16, Value.ref 0] M9 (k u16)) (fun u16 => ?_) (fun k73 hk73 => ?_)
        · refine j_iconst (pc := 73) d_Model_readJoin_73 k_i_4 ?_
          refine j_callV2 (pc := 74) d_Model_readJoin_74 (C_Model_needs n u16 4 M9) cV_Model_181 cd_Model_needs dn_Model_needs rfl (by decide) (Nat.le_of_ble_eq_true rfl) (Nat.le_of_ble_eq_true rfl) nr_U sm_0 (by decide) rfl (fun r17 M18 => ?_)
          exact hk77 M18
        · refine j_icmp_eq (pc := 60) (tgt := 72) d_Model_readJoin_60 (by decide) (fun _ => ?_) (fun _ => ?_)
          · refine j_iconst (pc := 72) d_Model_readJoin_72 k_i_0 ?_
            refine j_lv [1, 2, 3, 0] rfl ?_
            exact hk73 0
          · refine j_iload_n (pc := 63) (q := 0) d_Model_readJoin_63 rfl rfl ?_
            refine j_iload_n (pc := 64) (q := 3) d_Model_readJoin_64 rfl rfl ?_
            refine j_icmp_eq (pc := 65) (tgt := 72) d_Model_readJoin_65 (by decide) (fun _ => ?_) (fun _ => ?_)
            · refine j_iconst (pc := 72) d_Model_readJoin_72 k_i_0 ?_
              refine j_lv [1, 2, 3, 0] rfl ?_
              exact hk73 0
            · refine j_iconst (pc := 68) d_Model_readJoin_68 k_i_1 ?_
              refine j_goto (pc := 69) (tgt := 73) d_Model_readJoin_69 (by decide) ?_
              refine j_lv [1, 2, 3, 0] rfl ?_
              exact hk73 1
  · refine j_if_ne (pc := 20) (tgt := 38) d_Model_readJoin_20 (by decide) (fun _ => ?_) (fun _ => ?_)
    · refine j_lv [2, 1, 0] rfl ?_
      exact hk38 M4
    · refine j_aload_n (pc := 23) (q := 2) d_Model_readJoin_23 rfl rfl ?_
      refine j_iload_n (pc := 24) (q := 0) d_Model_readJoin_24 rfl rfl ?_
      refine j_iload_n (pc := 25) (q := 1) d_Model_readJoin_25 rfl rfl ?_
      refine j_nmk (fun k => ∀ (u19 : Int32), J (mt_Model_readJoin) wU 34 [(0, Value.ref 0), (1, Value.int r1), (2, Value.int r3)] [Value.int u19, Value.ref 0] M4 (k u19)) (fun u19 => ?_) (fun k34 hk34 => ?_)
      · refine j_iconst (pc := 34) d_Model_readJoin_34 k_i_4 ?_
        refine j_callV2 (pc := 35) d_Model_readJoin_35 (C_Model_needs n u19 4 M4) cV_Model_181 cd_Model_needs dn_Model_needs rfl (by decide) (Nat.le_of_ble_eq_true rfl) (Nat.le_of_ble_eq_true rfl) nr_U sm_0 (by decide) rfl (fun r20 M21 => ?_)
        exact hk38 M21
      · refine j_icmp_eq (pc := 26) (tgt := 33) d_Model_readJoin_26 (by decide) (fun _ => ?_) (fun _ => ?_)
        · refine j_iconst (pc := 33) d_Model_readJoin_33 k_i_0 ?_
          refine j_lv [2, 1, 0] rfl ?_
          exact hk34 0
        · refine j_iconst (pc := 29) d_Model_readJoin_29 k_i_1 ?_
          refine j_goto (pc := 30) (tgt := 34) d_Model_readJoin_30 (by decide) ?_
          refine j_lv [2, 1, 0] rfl ?_
          exact hk34 1
-- Model.readKnows ()V
def mt_Model_readKnows : Mt := ("ShakeHandsModel", b_Model_readKnows, 6, none, 4, SHm)
theorem d_Model_readKnows_0 : decode b_Model_readKnows 0 = .ok (.aload_n 0, 1) := by decide +kernel
theorem d_Model_readKnows_1 : decode b_Model_readKnows 1 = .ok (.iconst 0, 1) := by decide +kernel
theorem d_Model_readKnows_2 : decode b_Model_readKnows 2 = .ok (.iconst 5, 1) := by decide +kernel
theorem d_Model_readKnows_3 : decode b_Model_readKnows 3 = .ok (.invokevirtual 185, 3) := by decide +kernel
theorem d_Model_readKnows_6 : decode b_Model_readKnows 6 = .ok (.istore_n 1, 1) := by decide +kernel
theorem d_Model_readKnows_7 : decode b_Model_readKnows 7 = .ok (.aload_n 0, 1) := by decide +kernel
theorem d_Model_readKnows_8 : decode b_Model_readKnows 8 = .ok (.getfield 147, 3) := by decide +kernel
theorem d_Model_readKnows_11 : decode b_Model_readKnows 11 = .ok (.ifCond .ne 22, 3) := by decide +kernel
theorem d_Model_readKnows_14 : decode b_Model_readKnows 14 = .ok (.aload_n 0, 1) := by decide +kernel
theorem d_Model_readKnows_15 : decode b_Model_readKnows 15 = .ok (.aload_n 0, 1) := by decide +kernel
theorem d_Model_readKnows_16 : decode b_Model_readKnows 16 = .ok (.getfield 47, 3) := by decide +kernel
theorem d_Model_readKnows_19 : decode b_Model_readKnows 19 = .ok (.iload_n 1, 1) := by decide +kernel
theorem d_Model_readKnows_20 : decode b_Model_readKnows 20 = .ok (.baload, 1) := by decide +kernel
theorem d_Model_readKnows_21 : decode b_Model_readKnows 21 = .ok (.ifCond .ne 7, 3) := by decide +kernel
theorem d_Model_readKnows_24 : decode b_Model_readKnows 24 = .ok (.iconst 1, 1) := by decide +kernel
theorem d_Model_readKnows_25 : decode b_Model_readKnows 25 = .ok (.goto 4, 3) := by decide +kernel
theorem d_Model_readKnows_28 : decode b_Model_readKnows 28 = .ok (.iconst 0, 1) := by decide +kernel
theorem d_Model_readKnows_29 : decode b_Model_readKnows 29 = .ok (.iconst 4, 1) := by decide +kernel
theorem d_Model_readKnows_30 : decode b_Model_readKnows 30 = .ok (.invokevirtual 181, 3) := by decide +kernel
theorem d_Model_readKnows_33 : decode b_Model_readKnows 33 = .ok (.aload_n 0, 1) := by decide +kernel
theorem d_Model_readKnows_34 : decode b_Model_readKnows 34 = .ok (.invokevirtual 188, 3) := by decide +kernel
theorem d_Model_readKnows_37 : decode b_Model_readKnows 37 = .ok (.aload_n 0, 1) := by decide +kernel
theorem d_Model_readKnows_38 : decode b_Model_readKnows 38 = .ok (.getfield 47, 3) := by decide +kernel
theorem d_Model_readKnows_41 : decode b_Model_readKnows 41 = .ok (.iload_n 1, 1) := by decide +kernel
theorem d_Model_readKnows_42 : decode b_Model_readKnows 42 = .ok (.iconst 1, 1) := by decide +kernel
theorem d_Model_readKnows_43 : decode b_Model_readKnows 43 = .ok (.bastore, 1) := by decide +kernel
theorem d_Model_readKnows_44 : decode b_Model_readKnows 44 = .ok (.aload_n 0, 1) := by decide +kernel
theorem d_Model_readKnows_45 : decode b_Model_readKnows 45 = .ok (.iload_n 1, 1) := by decide +kernel
theorem d_Model_readKnows_46 : decode b_Model_readKnows 46 = .ok (.invokevirtual 191, 3) := by decide +kernel
theorem d_Model_readKnows_49 : decode b_Model_readKnows 49 = .ok (.iconst 0, 1) := by decide +kernel
theorem d_Model_readKnows_50 : decode b_Model_readKnows 50 = .ok (.istore_n 2, 1) := by decide +kernel
theorem d_Model_readKnows_51 : decode b_Model_readKnows 51 = .ok (.iconst 1, 1) := by decide +kernel
theorem d_Model_readKnows_52 : decode b_Model_readKnows 52 = .ok (.istore_n 3, 1) := by decide +kernel
theorem d_Model_readKnows_53 : decode b_Model_readKnows 53 = .ok (.aload_n 0, 1) := by decide +kernel
theorem d_Model_readKnows_54 : decode b_Model_readKnows 54 = .ok (.getfield 147, 3) := by decide +kernel
theorem d_Model_readKnows_57 : decode b_Model_readKnows 57 = .ok (.ifCond .ne 130, 3) := by decide +kernel
theorem d_Model_readKnows_60 : decode b_Model_readKnows 60 = .ok (.iload_n 3, 1) := by decide +kernel
theorem d_Model_readKnows_61 : decode b_Model_readKnows 61 = .ok (.ifCond .eq 126, 3) := by decide +kernel
theorem d_Model_readKnows_64 : decode b_Model_readKnows 64 = .ok (.aload_n 0, 1) := by decide +kernel
theorem d_Model_readKnows_65 : decode b_Model_readKnows 65 = .ok (.aload_n 0, 1) := by decide +kernel
theorem d_Model_readKnows_66 : decode b_Model_readKnows 66 = .ok (.getfield 167, 3) := by decide +kernel
theorem d_Model_readKnows_69 : decode b_Model_readKnows 69 = .ok (.iconst 2, 1) := by decide +kernel
theorem d_Model_readKnows_70 : decode b_Model_readKnows 70 = .ok (.if_icmp .ne 9, 3) := by decide +kernel
theorem d_Model_readKnows_73 : decode b_Model_readKnows 73 = .ok (.iload_n 2, 1) := by decide +kernel
theorem d_Model_readKnows_74 : decode b_Model_readKnows 74 = .ok (.bipush 9, 2) := by decide +kernel
theorem d_Model_readKnows_76 : decode b_Model_readKnows 76 = .ok (.if_icmp .ge 7, 3) := by decide +kernel
theorem d_Model_readKnows_79 : decode b_Model_readKnows 79 = .ok (.iconst 1, 1) := by decide +kernel
theorem d_Model_readKnows_80 : decode b_Model_readKnows 80 = .ok (.goto 4, 3) := by decide +kernel
theorem d_Model_readKnows_83 : decode b_Model_readKnows 83 = .ok (.iconst 0, 1) := by decide +kernel
theorem d_Model_readKnows_84 : decode b_Model_readKnows 84 = .ok (.iconst 5, 1) := by decide +kernel
theorem d_Model_readKnows_85 : decode b_Model_readKnows 85 = .ok (.invokevirtual 181, 3) := by decide +kernel
theorem d_Model_readKnows_88 : decode b_Model_readKnows 88 = .ok (.aload_n 0, 1) := by decide +kernel
theorem d_Model_readKnows_89 : decode b_Model_readKnows 89 = .ok (.iconst 0, 1) := by decide +kernel
theorem d_Model_readKnows_90 : decode b_Model_readKnows 90 = .ok (.bipush 15, 2) := by decide +kernel
theorem d_Model_readKnows_92 : decode b_Model_readKnows 92 = .ok (.invokevirtual 185, 3) := by decide +kernel
theorem d_Model_readKnows_95 : decode b_Model_readKnows 95 = .ok (.istore 4, 2) := by decide +kernel
theorem d_Model_readKnows_97 : decode b_Model_readKnows 97 = .ok (.iconst 0, 1) := by decide +kernel
theorem d_Model_readKnows_98 : decode b_Model_readKnows 98 = .ok (.istore 5, 2) := by decide +kernel
theorem d_Model_readKnows_100 : decode b_Model_readKnows 100 = .ok (.iload 5, 2) := by decide +kernel
theorem d_Model_readKnows_102 : decode b_Model_readKnows 102 = .ok (.iload_n 2, 1) := by decide +kernel
theorem d_Model_readKnows_103 : decode b_Model_readKnows 103 = .ok (.if_icmp .ge 38, 3) := by decide +kernel
theorem d_Model_readKnows_106 : decode b_Model_readKnows 106 = .ok (.aload_n 0, 1) := by decide +kernel
theorem d_Model_readKnows_107 : decode b_Model_readKnows 107 = .ok (.aload_n 0, 1) := by decide +kernel
theorem d_Model_readKnows_108 : decode b_Model_readKnows 108 = .ok (.getfield 41, 3) := by decide +kernel
theorem d_Model_readKnows_111 : decode b_Model_readKnows 111 = .ok (.bipush 10, 2) := by decide +kernel
theorem d_Model_readKnows_113 : decode b_Model_readKnows 113 = .ok (.iload_n 1, 1) := by decide +kernel
theorem d_Model_readKnows_114 : decode b_Model_readKnows 114 = .ok (.imul, 1) := by decide +kernel
theorem d_Model_readKnows_115 : decode b_Model_readKnows 115 = .ok (.iconst 1, 1) := by decide +kernel
theorem d_Model_readKnows_116 : decode b_Model_readKnows 116 = .ok (.iadd, 1) := by decide +kernel
theorem d_Model_readKnows_117 : decode b_Model_readKnows 117 = .ok (.iload 5, 2) := by decide +kernel
theorem d_Model_readKnows_119 : decode b_Model_readKnows 119 = .ok (.iadd, 1) := by decide +kernel
theorem d_Model_readKnows_120 : decode b_Model_readKnows 120 = .ok (.iaload, 1) := by decide +kernel
theorem d_Model_readKnows_121 : decode b_Model_readKnows 121 = .ok (.iload 4, 2) := by decide +kernel
theorem d_Model_readKnows_123 : decode b_Model_readKnows 123 = .ok (.if_icmp .eq 7, 3) := by decide +kernel
theorem d_Model_readKnows_126 : decode b_Model_readKnows 126 = .ok (.iconst 1, 1) := by decide +kernel
theorem d_Model_readKnows_127 : decode b_Model_readKnows 127 = .ok (.goto 4, 3) := by decide +kernel
theorem d_Model_readKnows_130 : decode b_Model_readKnows 130 = .ok (.iconst 0, 1) := by decide +kernel
theorem d_Model_readKnows_131 : decode b_Model_readKnows 131 = .ok (.iconst 4, 1) := by decide +kernel
theorem d_Model_readKnows_132 : decode b_Model_readKnows 132 = .ok (.invokevirtual 181, 3) := by decide +kernel
theorem d_Model_readKnows_135 : decode b_Model_readKnows 135 = .ok (.iinc 5 1, 3) := by decide +kernel
theorem d_Model_readKnows_138 : decode b_Model_readKnows 138 = .ok (.goto (-38), 3) := by decide +kernel
theorem d_Model_readKnows_141 : decode b_Model_readKnows 141 = .ok (.aload_n 0, 1) := by decide +kernel
theorem d_Model_readKnows_142 : decode b_Model_readKnows 142 = .ok (.invokevirtual 188, 3) := by decide +kernel
theorem d_Model_readKnows_145 : decode b_Model_readKnows 145 = .ok (.aload_n 0, 1) := by decide +kernel
theorem d_Model_readKnows_146 : decode b_Model_readKnows 146 = .ok (.getfield 147, 3) := by decide +kernel
theorem d_Model_readKnows_149 : decode b_Model_readKnows 149 = .ok (.ifCond .ne 21, 3) := by decide +kernel
theorem d_Model_readKnows_152 : decode b_Model_readKnows 152 = .ok (.aload_n 0, 1) := by decide +kernel
theorem d_Model_readKnows_153 : decode b_Model_readKnows 153 = .ok (.getfield 41, 3) := by decide +kernel
theorem d_Model_readKnows_156 : decode b_Model_readKnows 156 = .ok (.bipush 10, 2) := by decide +kernel
theorem d_Model_readKnows_158 : decode b_Model_readKnows 158 = .ok (.iload_n 1, 1) := by decide +kernel
theorem d_Model_readKnows_159 : decode b_Model_readKnows 159 = .ok (.imul, 1) := by decide +kernel
theorem d_Model_readKnows_160 : decode b_Model_readKnows 160 = .ok (.iconst 1, 1) := by decide +kernel
theorem d_Model_readKnows_161 : decode b_Model_readKnows 161 = .ok (.iadd, 1) := by decide +kernel
theorem d_Model_readKnows_162 : decode b_Model_readKnows 162 = .ok (.iload_n 2, 1) := by decide +kernel
theorem d_Model_readKnows_163 : decode b_Model_readKnows 163 = .ok (.iadd, 1) := by decide +kernel
theorem d_Model_readKnows_164 : decode b_Model_readKnows 164 = .ok (.iload 4, 2) := by decide +kernel
theorem d_Model_readKnows_166 : decode b_Model_readKnows 166 = .ok (.iastore, 1) := by decide +kernel
theorem d_Model_readKnows_167 : decode b_Model_readKnows 167 = .ok (.iinc 2 1, 3) := by decide +kernel
theorem d_Model_readKnows_170 : decode b_Model_readKnows 170 = .ok (.aload_n 0, 1) := by decide +kernel
theorem d_Model_readKnows_171 : decode b_Model_readKnows 171 = .ok (.getfield 167, 3) := by decide +kernel
theorem d_Model_readKnows_174 : decode b_Model_readKnows 174 = .ok (.iconst 2, 1) := by decide +kernel
theorem d_Model_readKnows_175 : decode b_Model_readKnows 175 = .ok (.if_icmp .ne 7, 3) := by decide +kernel
theorem d_Model_readKnows_178 : decode b_Model_readKnows 178 = .ok (.iconst 1, 1) := by decide +kernel
theorem d_Model_readKnows_179 : decode b_Model_readKnows 179 = .ok (.goto 4, 3) := by decide +kernel
theorem d_Model_readKnows_182 : decode b_Model_readKnows 182 = .ok (.iconst 0, 1) := by decide +kernel
theorem d_Model_readKnows_183 : decode b_Model_readKnows 183 = .ok (.istore_n 3, 1) := by decide +kernel
theorem d_Model_readKnows_184 : decode b_Model_readKnows 184 = .ok (.goto (-131), 3) := by decide +kernel
theorem d_Model_readKnows_187 : decode b_Model_readKnows 187 = .ok (.aload_n 0, 1) := by decide +kernel
theorem d_Model_readKnows_188 : decode b_Model_readKnows 188 = .ok (.getfield 41, 3) := by decide +kernel
theorem d_Model_readKnows_191 : decode b_Model_readKnows 191 = .ok (.bipush 10, 2) := by decide +kernel
theorem d_Model_readKnows_193 : decode b_Model_readKnows 193 = .ok (.iload_n 1, 1) := by decide +kernel
theorem d_Model_readKnows_194 : decode b_Model_readKnows 194 = .ok (.imul, 1) := by decide +kernel
theorem d_Model_readKnows_195 : decode b_Model_readKnows 195 = .ok (.iload_n 2, 1) := by decide +kernel
theorem d_Model_readKnows_196 : decode b_Model_readKnows 196 = .ok (.iastore, 1) := by decide +kernel
theorem d_Model_readKnows_197 : decode b_Model_readKnows 197 = .ok (.return_, 1) := by decide +kernel
def X_Model_readKnows_L100 (n : Nat) (a1 : Int32) (a2 : Int32) (a4 : Int32) (kx141 : Mem → Option (Unit × Mem)) : Nat → Int32 → Mem → Option (Unit × Mem)
    | 0, _, _ => none
    | m + 1, v5, M => (if a2 ≤ v5 then
    kx141 M
    else
    gd ((((10 : Int32) * a1) + 1) + v5) 60 (
      nm (fun (u14 : Int32) => (bd (X_Model_needs n u14 4 M) fun _ M16 =>
          X_Model_readKnows_L100 n a1 a2 a4 kx141 m (v5 + 1) M16 : Option (Unit × Mem))) fun k131 =>
      (if (M.1 11 ((((10 : Int32) * a1) + 1) + v5).toNatClampNeg) = a4 then
        k131 0
        else
        k131 1)))
def X_Model_readKnows_L53 (n : Nat) (a1 : Int32) (kx187 : Int32 → Mem → Option (Unit × Mem)) : Nat → Int32 → Int32 → Mem → Option (Unit × Mem)
    | 0, _, _, _ => none
    | m + 1, v2, v3, M => (if (M.1 0 31) = 0 then
    (if v3 = 0 then
      kx187 v2 M
      else
      nm (fun (u9 : Int32) => (bd (X_Model_needs n u9 5 M) fun _ M11 =>
          bd (X_Model_looked n 0 15 M11) fun r12 M13 =>
          X_Model_readKnows_L100 n a1 v2 r12 (fun M17 => bd (X_Model_next n M17) fun _ M19 =>
            nm (fun (z20 : Int32) (M21 : Mem) => (nm (fun (u22 : Int32) => (X_Model_readKnows_L53 n a1 kx187 m z20 u22 M21 : Option (Unit × Mem))) fun k183 =>
                (if (M21.1 0 29) = 2 then
                  k183 1
                  else
                  k183 0) : Option (Unit × Mem))) fun k170 =>
            (if (M19.1 0 31) = 0 then
              gd ((((10 : Int32) * a1) + 1) + v2) 60 (
                k170 (v2 + 1) (si M19 11 (((((10 : Int32) * a1) + 1) + v2).toNatClampNeg) r12))
              else
              k170 v2 M19)) n 0 M13 : Option (Unit × Mem))) fun k84 =>
      (if (M.1 0 29) = 2 then
        (if 9 ≤ v2 then
          k84 0
          else
          k84 1)
        else
        k84 1))
    else
    kx187 v2 M)
def X_Model_readKnows (n : Nat) (M : Mem) : Option (Unit × Mem) :=
  bd (X_Model_looked n 0 5 M) fun r1 M2 =>
  nm (fun (M3 : Mem) => (bd (X_Model_next n M3) fun _ M5 =>
      gd r1 6 (
        nm (si M5 13 (r1.toNatClampNeg) (vp_nar .boolean 1)) fun N6 =>
        bd (X_Model_tells n r1 N6) fun _ M8 =>
        X_Model_readKnows_L53 n r1 (fun y23 M24 => gd ((10 : Int32) * r1) 60 (
            some ((), si M24 11 (((10 : Int32) * r1).toNatClampNeg) y23))) n 0 1 M8) : Option (Unit × Mem))) fun k33 =>
  (if (M2.1 0 31) = 0 then
    gd r1 6 (
      nm (fun (u25 : Int32) => (bd (X_Model_needs n u25 4 M2) fun _ M27 =>
          k33 M27 : Option (Unit × Mem))) fun k29 =>
      (if (M2.1 13 r1.toNatClampNeg) = 0 then
        k29 1
        else
        k29 0))
    else
    k33 M2)
set_option maxRecDepth 20000 in
set_option maxHeartbeats 4000000 in
theorem X_Model_readKnows_L100_ok {n : Nat} {a1 : Int32} {a2 : Int32} {a4 : Int32} {kx141 : Mem → Option (Unit × Mem)} (hkx141 : ∀ (M : Mem), J (mt_Model_readKnows) wU 141 [(0, Value.ref 0), (1, Value.int a1), (2, Value.int a2), (4, Value.int a4)] [] M (kx141 M)) : ∀ (m : Nat) (v5 : Int32) (M : Mem), J (mt_Model_readKnows) wU 100 [(0, Value.ref 0), (1, Value.int a1), (2, Value.int a2), (4, Value.int a4), (5, Value.int v5)] [] M (X_Model_readKnows_L100 n a1 a2 a4 kx141 m v5 M) := by
  intro m
  induction m with
  | zero => intro _ _; exact j_none
  | succ m ih =>
    intro v5 M
    show J _ _ _ _ _ _ ((if a2 ≤ v5 then
kx141 M
else
gd ((((10 : Int32) * a1) + 1) + v5) 60 (
nm (fun (u14 : Int32) => (bd (X_Model_needs n u14 4 M) fun _ M16 =>
X_Model_readKnows_L100 n a1 a2 a4 kx141 m (v5 + 1) M16 : Option (Unit × Mem))) fun k131 =>
(if (M.1 11 ((((10 : Int32) * a1) + 1) + v5).toNatClampNeg) = a4 then
k131 0
else
k131 1))))
    refine j_iload (pc := 100) (q := 4) d_Model_readKnows_100 rfl ?_
    refine j_iload_n (pc := 102) (q := 2) d_Model_readKnows_102 rfl rfl ?_
    refine j_icmp_ge (pc := 103) (tgt := 141) d_Model_readKnows_103 (by decide) (fun _ => ?_) (fun _ => ?_)
    · refine j_lv [0, 1, 2, 3] rfl ?_
      exact hkx141 M
    · refine j_aload_n (pc := 106) (q := 0) d_Model_readKnows_106 rfl rfl ?_
      refine j_aload_n (pc := 107) (q := 0) d_Model_readKnows_107 rfl rfl ?_
      refine j_getA (pc := 108) d_Model_readKnows_108 fl_Model_41 sm_0 (by decide) rfl ?_
      refine j_bipush (pc := 111) d_Model_readKnows_111 k_b_10 ?_
      refine j_iload_n (pc := 113) (q := 1) d_Model_readKnows_113 rfl rfl ?_
      refine j_imul (pc := 114) d_Model_readKnows_114 ?_
      refine j_iconst (pc := 115) d_Model_readKnows_115 k_i_1 ?_
      refine j_iadd (pc := 116) d_Model_readKnows_116 ?_
      refine j_iload (pc := 117) (q := 4) d_Model_readKnows_117 rfl ?_
      refine j_iadd (pc := 119) d_Model_readKnows_119 ?_
      refine j_iald (pc := 120) d_Model_readKnows_120 sm_11 (fun _ => ?_)
      refine j_iload (pc := 121) (q := 3) d_Model_readKnows_121 rfl ?_
      refine j_nmk (fun k => ∀ (u14 : Int32), J (mt_Model_readKnows) wU 131 [(0, Value.ref 0), (1, Value.int a1), (2, Value.int a2), (4, Value.int a4), (5, Value.int v5)] [Value.int u14, Value.ref 0] M (k u14)) (fun u14 => ?_) (fun k131 hk131 => ?_)
      · refine j_iconst (pc := 131) d_Model_readKnows_131 k_i_4 ?_
        refine j_callV2 (pc := 132) d_Model_readKnows_132 (C_Model_needs n u14 4 M) cV_Model_181 cd_Model_needs dn_Model_needs rfl (by decide) (Nat.le_of_ble_eq_true rfl) (Nat.le_of_ble_eq_true rfl) nr_U sm_0 (by decide) rfl (fun r15 M16 => ?_)
        refine j_iinc (pc := 135) (q := 4) d_Model_readKnows_135 rfl (congrArg (v5 + ·) k_i_1) (by decide) rfl ?_
        refine j_goto (pc := 138) (tgt := 100) d_Model_readKnows_138 (by decide) ?_
        refine j_lv [1, 2, 3, 4, 0] rfl ?_
        exact ih (v5 + 1) M16
      · refine j_icmp_eq (pc := 123) (tgt := 130) d_Model_readKnows_123 (by decide) (fun _ => ?_) (fun _ => ?_)
        · refine j_iconst (pc := 130) d_Model_readKnows_130 k_i_0 ?_
          exact hk131 0
        · refine j_iconst (pc := 126) d_Model_readKnows_126 k_i_1 ?_
          refine j_goto (pc := 127) (tgt := 131) d_Model_readKnows_127 (by decide) ?_
          exact hk131 1
set_option maxRecDepth 20000 in
set_option maxHeartbeats 4000000 in
theorem X_Model_readKnows_L53_ok {n : Nat} {a1 : Int32} {kx187 : Int32 → Mem → Option (Unit × Mem)} (hkx187 : ∀ (w2 : Int32) (M : Mem), J (mt_Model_readKnows) wU 187 [(0, Value.ref 0), (1, Value.int a1), (2, Value.int w2)] [] M (kx187 w2 M)) : ∀ (m : Nat) (v2 : Int32) (v3 : Int32) (M : Mem), J (mt_Model_readKnows) wU 53 [(0, Value.ref 0), (1, Value.int a1), (2, Value.int v2), (3, Value.int v3)] [] M (X_Model_readKnows_L53 n a1 kx187 m v2 v3 M) := by
  intro m
  induction m with
  | zero => intro _ _ _; exact j_none
  | succ m ih =>
    intro v2 v3 M
    show J _ _ _ _ _ _ ((if (M.1 0 31) = 0 then
(if v3 = 0 then
kx187 v2 M
else
nm (fun (u9 : Int32) => (bd (X_Model_needs n u9 5 M) fun _ M11 =>
bd (X_Model_looked n 0 15 M11) fun r12 M13 =>
X_Model_readKnows_L100 n a1 v2 r12 (fun M17 => bd (X_Model_next n M17) fun _ M19 =>
nm (fun (z20 : Int32) (M21 : Mem) => (nm (fun (u22 : Int32) => (X_Model_readKnows_L53 n a1 kx187 m z20 u22 M21 : Option (Unit × Mem))) fun k183 =>
(if (M21.1 0 29) = 2 then
k183 1
else
k183 0) : Option (Unit × Mem))) fun k170 =>
(if (M19.1 0 31) = 0 then
gd ((((10 : Int32) * a1) + 1) + v2) 60 (
k170 (v2 + 1) (si M19 11 (((((10 : Int32) * a1) + 1) + v2).toNatClampNeg) r12))
else
k170 v2 M19)) n 0 M13 : Option (Unit × Mem))) fun k84 =>
(if (M.1 0 29) = 2 then
(if 9 ≤ v2 then
k84 0
else
k84 1)
else
k84 1))
else
kx187 v2 M))
    refine j_aload_n (pc := 53) (q := 0) d_Model_readKnows_53 rfl rfl ?_
    refine j_getI (pc := 54) d_Model_readKnows_54 fl_Model_147 sm_0 (by decide) rfl ?_
    refine j_if_ne (pc := 57) (tgt := 187) d_Model_readKnows_57 (by decide) (fun _ => ?_) (fun _ => ?_)
    · refine j_lv [0, 1, 2] rfl ?_
      exact hkx187 v2 M
    · refine j_iload_n (pc := 60) (q := 3) d_Model_readKnows_60 rfl rfl ?_
      refine j_if_eq (pc := 61) (tgt := 187) d_Model_readKnows_61 (by decide) (fun _ => ?_) (fun _ => ?_)
      · refine j_lv [0, 1, 2] rfl ?_
        exact hkx187 v2 M
      · refine j_aload_n (pc := 64) (q := 0) d_Model_readKnows_64 rfl rfl ?_
        refine j_aload_n (pc := 65) (q := 0) d_Model_readKnows_65 rfl rfl ?_
        refine j_getI (pc := 66) d_Model_readKnows_66 fl_Model_167 sm_0 (by decide) rfl ?_
        refine j_iconst (pc := 69) d_Model_readKnows_69 k_i_2 ?_
        refine j_nmk (fun k => ∀ (u9 : Int32), J (mt_Model_readKnows) wU 84 [(0, Value.ref 0), (1, Value.int a1), (2, Value.int v2)] [Value.int u9, Value.ref 0] M (k u9)) (fun u9 => ?_) (fun k84 hk84 => ?_)
        · refine j_iconst (pc := 84) d_Model_readKnows_84 k_i_5 ?_
          refine j_callV2 (pc := 85) d_Model_readKnows_85 (C_Model_needs n u9 5 M) cV_Model_181 cd_Model_needs dn_Model_needs rfl (by decide) (Nat.le_of_ble_eq_true rfl) (Nat.le_of_ble_eq_true rfl) nr_U sm_0 (by decide) rfl (fun r10 M11 => ?_)
          refine j_aload_n (pc := 88) (q := 0) d_Model_readKnows_88 rfl rfl ?_
          refine j_iconst (pc := 89) d_Model_readKnows_89 k_i_0 ?_
          refine j_bipush (pc := 90) d_Model_readKnows_90 k_b_15 ?_
          refine j_callV2 (pc := 92) d_Model_readKnows_92 (C_Model_looked n 0 15 M11) cV_Model_185 cd_Model_looked dn_Model_looked rfl (by decide) (Nat.le_of_ble_eq_true rfl) (Nat.le_of_ble_eq_true rfl) nr_I sm_0 (by decide) rfl (fun r12 M13 => ?_)
          refine j_istore (pc := 95) d_Model_readKnows_95 (by decide) rfl ?_
          refine j_iconst (pc := 97) d_Model_readKnows_97 k_i_0 ?_
          refine j_istore (pc := 98) d_Model_readKnows_98 (by decide) rfl ?_
          refine j_lv [2, 3, 4, 1, 0] rfl ?_
          refine X_Model_readKnows_L100_ok  (fun M17 => ?_) n 0 M13
          refine j_aload_n (pc := 141) (q := 0) d_Model_readKnows_141 rfl rfl ?_
          refine j_callV0 (pc := 142) d_Model_readKnows_142 (C_Model_next n M17) cV_Model_188 cd_Model_next dn_Model_next rfl (by decide) (Nat.le_of_ble_eq_true rfl) (Nat.le_of_ble_eq_true rfl) nr_U sm_0 (by decide) rfl (fun r18 M19 => ?_)
          refine j_aload_n (pc := 145) (q := 0) d_Model_readKnows_145 rfl rfl ?_
          refine j_getI (pc := 146) d_Model_readKnows_146 fl_Model_147 sm_0 (by decide) rfl ?_
          refine j_nmk (fun k => ∀ (z20 : Int32) (M21 : Mem), J (mt_Model_readKnows) wU 170 [(0, Value.ref 0), (1, Value.int a1), (2, Value.int z20)] [] M21 (k z20 M21)) (fun z20 M21 => ?_) (fun k170 hk170 => ?_)
          · refine j_aload_n (pc := 170) (q := 0) d_Model_readKnows_170 rfl rfl ?_
            refine j_getI (pc := 171) d_Model_readKnows_171 fl_Model_167 sm_0 (by decide) rfl ?_
            refine j_iconst (pc := 174) d_Model_readKnows_174 k_i_2 ?_
            refine j_nmk (fun k => ∀ (u22 : Int32), J (mt_Model_readKnows) wU 183 [(0, Value.ref 0), (1, Value.int a1), (2, Value.int z20)] [Value.int u22] M21 (k u22)) (fun u22 => ?_) (fun k183 hk183 => ?_)
            · refine j_istore_n (pc := 183) d_Model_readKnows_183 rfl (by decide) rfl ?_
              refine j_goto (pc := 184) (tgt := 53) d_Model_readKnows_184 (by decide) ?_
              refine j_lv [1, 2, 3, 0] rfl ?_
              exact ih z20 u22 M21
            · refine j_icmp_ne (pc := 175) (tgt := 182) d_Model_readKnows_175 (by decide) (fun _ => ?_) (fun _ => ?_)
              · refine j_iconst (pc := 182) d_Model_readKnows_182 k_i_0 ?_
                exact hk183 0
              · refine j_iconst (pc := 178) d_Model_readKnows_178 k_i_1 ?_
                refine j_goto (pc := 179) (tgt := 183) d_Model_readKnows_179 (by decide) ?_
                exact hk183 1
          · refine j_if_ne (pc := 149) (tgt := 170) d_Model_readKnows_149 (by decide) (fun _ => ?_) (fun _ => ?_)
            · refine j_lv [0, 1, 2] rfl ?_
              exact hk170 v2 M19
            · refine j_aload_n (pc := 152) (q := 0) d_Model_readKnows_152 rfl rfl ?_
              refine j_getA (pc := 153) d_Model_readKnows_153 fl_Model_41 sm_0 (by decide) rfl ?_
              refine j_bipush (pc := 156) d_Model_readKnows_156 k_b_10 ?_
              refine j_iload_n (pc := 158) (q := 1) d_Model_readKnows_158 rfl rfl ?_
              refine j_imul (pc := 159) d_Model_readKnows_159 ?_
              refine j_iconst (pc := 160) d_Model_readKnows_160 k_i_1 ?_
              refine j_iadd (pc := 161) d_Model_readKnows_161 ?_
              refine j_iload_n (pc := 162) (q := 2) d_Model_readKnows_162 rfl rfl ?_
              refine j_iadd (pc := 163) d_Model_readKnows_163 ?_
              refine j_iload (pc := 164) (q := 3) d_Model_readKnows_164 rfl ?_
              refine j_iast (pc := 166) d_Model_readKnows_166 sm_11 (fun _ => ?_)
              refine j_iinc (pc := 167) (q := 2) d_Model_readKnows_167 rfl (congrArg (v2 + ·) k_i_1) (by decide) rfl ?_
              refine j_lv [1, 2, 0] rfl ?_
              exact hk170 (v2 + 1) (si M19 11 (((((10 : Int32) * a1) + 1) + v2).toNatClampNeg) r12)
        · refine j_icmp_ne (pc := 70) (tgt := 79) d_Model_readKnows_70 (by decide) (fun _ => ?_) (fun _ => ?_)
          · refine j_iconst (pc := 79) d_Model_readKnows_79 k_i_1 ?_
            refine j_goto (pc := 80) (tgt := 84) d_Model_readKnows_80 (by decide) ?_
            refine j_lv [0, 1, 2] rfl ?_
            exact hk84 1
          · refine j_iload_n (pc := 73) (q := 2) d_Model_readKnows_73 rfl rfl ?_
            refine j_bipush (pc := 74) d_Model_readKnows_74 k_b_9 ?_
            refine j_icmp_ge (pc := 76) (tgt := 83) d_Model_readKnows_76 (by decide) (fun _ => ?_) (fun _ => ?_)
            · refine j_iconst (pc := 83) d_Model_readKnows_83 k_i_0 ?_
              refine j_lv [0, 1, 2] rfl ?_
              exact hk84 0
            · refine j_iconst (pc := 79) d_Model_readKnows_79 k_i_1 ?_
              refine j_goto (pc := 80) (tgt := 84) d_Model_readKnows_80 (by decide) ?_
              refine j_lv [0, 1, 2] rfl ?_
              exact hk84 1
set_option maxRecDepth 20000 in
set_option maxHeartbeats 4000000 in
theorem C_Model_readKnows (n : Nat)    (M : Mem) : Ct y_Model_readKnows mt_Model_readKnows wU [Value.ref 0] M (X_Model_readKnows n M) := by
  refine ct_of (by decide +kernel) rfl (Nat.le_of_ble_eq_true rfl) ?_
  show J _ _ _ [(0, Value.ref 0)] _ _ _
  unfold X_Model_readKnows
  refine j_aload_n (pc := 0) (q := 0) d_Model_readKnows_0 rfl rfl ?_
  refine j_iconst (pc := 1) d_Model_readKnows_1 k_i_0 ?_
  refine j_iconst (pc := 2) d_Model_readKnows_2 k_i_5 ?_
  refine j_callV2 (pc := 3) d_Model_readKnows_3 (C_Model_looked n 0 5 M) cV_Model_185 cd_Model_looked dn_Model_looked rfl (by decide) (Nat.le_of_ble_eq_true rfl) (Nat.le_of_ble_eq_true rfl) nr_I sm_0 (by decide) rfl (fun r1 M2 => ?_)
  refine j_istore_n (pc := 6) d_Model_readKnows_6 rfl (by decide) rfl ?_
  refine j_aload_n (pc := 7) (q := 1) d_Model_readKnows_7 rfl rfl ?_
  refine j_getI (pc := 8) d_Model_readKnows_8 fl_Model_147 sm_0 (by decide) rfl ?_
  refine j_nmk (fun k => ∀ (M3 : Mem), J (mt_Model_readKnows) wU 33 [(0, Value.ref 0), (1, Value.int r1)] [] M3 (k M3)) (fun M3 => ?_) (fun k33 hk33 => ?_)
  · refine j_aload_n (pc := 33) (q := 0) d_Model_readKnows_33 rfl rfl ?_
    refine j_callV0 (pc := 34) d_Model_readKnows_34 (C_Model_next n M3) cV_Model_188 cd_Model_next dn_Model_next rfl (by decide) (Nat.le_of_ble_eq_true rfl) (Nat.le_of_ble_eq_true rfl) nr_U sm_0 (by decide) rfl (fun r4 M5 => ?_)
    refine j_aload_n (pc := 37) (q := 0) d_Model_readKnows_37 rfl rfl ?_
    refine j_getA (pc := 38) d_Model_readKnows_38 fl_Model_47 sm_0 (by decide) rfl ?_
    refine j_iload_n (pc := 41) (q := 1) d_Model_readKnows_41 rfl rfl ?_
    refine j_iconst (pc := 42) d_Model_readKnows_42 k_i_1 ?_
    refine j_zast (pc := 43) d_Model_readKnows_43 sm_13 (fun _ => ?_)
    refine j_aload_n (pc := 44) (q := 0) d_Model_readKnows_44 rfl rfl ?_
    refine j_iload_n (pc := 45) (q := 1) d_Model_readKnows_45 rfl rfl ?_
    refine j_nmM (fun N6 => ?_)
    refine j_callV1 (pc := 46) d_Model_readKnows_46 (C_Model_tells n r1 N6) cV_Model_191 cd_Model_tells dn_Model_tells rfl (by decide) (Nat.le_of_ble_eq_true rfl) (Nat.le_of_ble_eq_true rfl) nr_U sm_0 (by decide) rfl (fun r7 M8 => ?_)
    refine j_iconst (pc := 49) d_Model_readKnows_49 k_i_0 ?_
    refine j_istore_n (pc := 50) d_Model_readKnows_50 rfl (by decide) rfl ?_
    refine j_iconst (pc := 51) d_Model_readKnows_51 k_i_1 ?_
    refine j_istore_n (pc := 52) d_Model_readKnows_52 rfl (by decide) rfl ?_
    refine j_lv [2, 3, 1, 0] rfl ?_
    refine X_Model_readKnows_L53_ok  (fun y23 M24 => ?_) n 0 1 M8
    refine j_aload_n (pc := 187) (q := 0) d_Model_readKnows_187 rfl rfl ?_
    refine j_getA (pc := 188) d_Model_readKnows_188 fl_Model_41 sm_0 (by decide) rfl ?_
    refine j_bipush (pc := 191) d_Model_readKnows_191 k_b_10 ?_
    refine j_iload_n (pc := 193) (q := 1) d_Model_readKnows_193 rfl rfl ?_
    refine j_imul (pc := 194) d_Model_readKnows_194 ?_
    refine j_iload_n (pc := 195) (q := 2) d_Model_readKnows_195 rfl rfl ?_
    refine j_iast (pc := 196) d_Model_readKnows_196 sm_11 (fun _ => ?_)
    exact j_return (pc := 197) d_Model_readKnows_197 rfl
  · refine j_if_ne (pc := 11) (tgt := 33) d_Model_readKnows_11 (by decide) (fun _ => ?_) (fun _ => ?_)
    · refine j_lv [1, 0] rfl ?_
      exact hk33 M2
    · refine j_aload_n (pc := 14) (q := 1) d_Model_readKnows_14 rfl rfl ?_
      refine j_aload_n (pc := 15) (q := 1) d_Model_readKnows_15 rfl rfl ?_
      refine j_getA (pc := 16) d_Model_readKnows_16 fl_Model_47 sm_0 (by decide) rfl ?_
      refine j_iload_n (pc := 19) (q := 0) d_Model_readKnows_19 rfl rfl ?_
      refine j_zald (pc := 20) d_Model_readKnows_20 sm_13 (fun _ => ?_)
      refine j_nmk (fun k => ∀ (u25 : Int32), J (mt_Model_readKnows) wU 29 [(0, Value.ref 0), (1, Value.int r1)] [Value.int u25, Value.ref 0] M2 (k u25)) (fun u25 => ?_) (fun k29 hk29 => ?_)
      · refine j_iconst (pc := 29) d_Model_readKnows_29 k_i_4 ?_
        refine j_callV2 (pc := 30) d_Model_readKnows_30 (C_Model_needs n u25 4 M2) cV_Model_181 cd_Model_needs dn_Model_needs rfl (by decide) (Nat.le_of_ble_eq_true rfl) (Nat.le_of_ble_eq_true rfl) nr_U sm_0 (by decide) rfl (fun r26 M27 => ?_)
        exact hk33 M27
      · refine j_if_ne (pc := 21) (tgt := 28) d_Model_readKnows_21 (by decide) (fun _ => ?_) (fun _ => ?_)
        · refine j_iconst (pc := 28) d_Model_readKnows_28 k_i_0 ?_
          refine j_lv [1, 0] rfl ?_
          exact hk29 0
        · refine j_iconst (pc := 24) d_Model_readKnows_24 k_i_1 ?_
          refine j_goto (pc := 25) (tgt := 29) d_Model_readKnows_25 (by decide) ?_
          refine j_lv [1, 0] rfl ?_
          exact hk29 1
-- Model.readLine ()V
def mt_Model_readLine : Mt := ("ShakeHandsModel", b_Model_readLine, 2, none, 6, SHm)
theorem d_Model_readLine_0 : decode b_Model_readLine 0 = .ok (.aload_n 0, 1) := by decide +kernel
theorem d_Model_readLine_1 : decode b_Model_readLine 1 = .ok (.getfield 167, 3) := by decide +kernel
theorem d_Model_readLine_4 : decode b_Model_readLine 4 = .ok (.iconst 1, 1) := by decide +kernel
theorem d_Model_readLine_5 : decode b_Model_readLine 5 = .ok (.if_icmp .ne 10, 3) := by decide +kernel
theorem d_Model_readLine_8 : decode b_Model_readLine 8 = .ok (.aload_n 0, 1) := by decide +kernel
theorem d_Model_readLine_9 : decode b_Model_readLine 9 = .ok (.invokevirtual 198, 3) := by decide +kernel
theorem d_Model_readLine_12 : decode b_Model_readLine 12 = .ok (.goto 5, 3) := by decide +kernel
theorem d_Model_readLine_15 : decode b_Model_readLine 15 = .ok (.bipush (-4), 2) := by decide +kernel
theorem d_Model_readLine_17 : decode b_Model_readLine 17 = .ok (.istore_n 1, 1) := by decide +kernel
theorem d_Model_readLine_18 : decode b_Model_readLine 18 = .ok (.aload_n 0, 1) := by decide +kernel
theorem d_Model_readLine_19 : decode b_Model_readLine 19 = .ok (.iload_n 1, 1) := by decide +kernel
theorem d_Model_readLine_20 : decode b_Model_readLine 20 = .ok (.bipush (-4), 2) := by decide +kernel
theorem d_Model_readLine_22 : decode b_Model_readLine 22 = .ok (.if_icmp .eq 7, 3) := by decide +kernel
theorem d_Model_readLine_25 : decode b_Model_readLine 25 = .ok (.iconst 1, 1) := by decide +kernel
theorem d_Model_readLine_26 : decode b_Model_readLine 26 = .ok (.goto 4, 3) := by decide +kernel
theorem d_Model_readLine_29 : decode b_Model_readLine 29 = .ok (.iconst 0, 1) := by decide +kernel
theorem d_Model_readLine_30 : decode b_Model_readLine 30 = .ok (.iconst 2, 1) := by decide +kernel
theorem d_Model_readLine_31 : decode b_Model_readLine 31 = .ok (.invokevirtual 181, 3) := by decide +kernel
theorem d_Model_readLine_34 : decode b_Model_readLine 34 = .ok (.aload_n 0, 1) := by decide +kernel
theorem d_Model_readLine_35 : decode b_Model_readLine 35 = .ok (.iload_n 1, 1) := by decide +kernel
theorem d_Model_readLine_36 : decode b_Model_readLine 36 = .ok (.iconst 3, 1) := by decide +kernel
theorem d_Model_readLine_37 : decode b_Model_readLine 37 = .ok (.if_icmp .ne 11, 3) := by decide +kernel
theorem d_Model_readLine_40 : decode b_Model_readLine 40 = .ok (.aload_n 0, 1) := by decide +kernel
theorem d_Model_readLine_41 : decode b_Model_readLine 41 = .ok (.getfield 104, 3) := by decide +kernel
theorem d_Model_readLine_44 : decode b_Model_readLine 44 = .ok (.iconst 4, 1) := by decide +kernel
theorem d_Model_readLine_45 : decode b_Model_readLine 45 = .ok (.if_icmp .ge 35, 3) := by decide +kernel
theorem d_Model_readLine_48 : decode b_Model_readLine 48 = .ok (.iload_n 1, 1) := by decide +kernel
theorem d_Model_readLine_49 : decode b_Model_readLine 49 = .ok (.iconst 4, 1) := by decide +kernel
theorem d_Model_readLine_50 : decode b_Model_readLine 50 = .ok (.if_icmp .ne 12, 3) := by decide +kernel
theorem d_Model_readLine_53 : decode b_Model_readLine 53 = .ok (.aload_n 0, 1) := by decide +kernel
theorem d_Model_readLine_54 : decode b_Model_readLine 54 = .ok (.getfield 107, 3) := by decide +kernel
theorem d_Model_readLine_57 : decode b_Model_readLine 57 = .ok (.bipush 16, 2) := by decide +kernel
theorem d_Model_readLine_59 : decode b_Model_readLine 59 = .ok (.if_icmp .ge 21, 3) := by decide +kernel
theorem d_Model_readLine_62 : decode b_Model_readLine 62 = .ok (.iload_n 1, 1) := by decide +kernel
theorem d_Model_readLine_63 : decode b_Model_readLine 63 = .ok (.iconst 5, 1) := by decide +kernel
theorem d_Model_readLine_64 : decode b_Model_readLine 64 = .ok (.if_icmp .ne 12, 3) := by decide +kernel
theorem d_Model_readLine_67 : decode b_Model_readLine 67 = .ok (.aload_n 0, 1) := by decide +kernel
theorem d_Model_readLine_68 : decode b_Model_readLine 68 = .ok (.getfield 110, 3) := by decide +kernel
theorem d_Model_readLine_71 : decode b_Model_readLine 71 = .ok (.bipush 8, 2) := by decide +kernel
theorem d_Model_readLine_73 : decode b_Model_readLine 73 = .ok (.if_icmp .ge 7, 3) := by decide +kernel
theorem d_Model_readLine_76 : decode b_Model_readLine 76 = .ok (.iconst 1, 1) := by decide +kernel
theorem d_Model_readLine_77 : decode b_Model_readLine 77 = .ok (.goto 4, 3) := by decide +kernel
theorem d_Model_readLine_80 : decode b_Model_readLine 80 = .ok (.iconst 0, 1) := by decide +kernel
theorem d_Model_readLine_81 : decode b_Model_readLine 81 = .ok (.iconst 5, 1) := by decide +kernel
theorem d_Model_readLine_82 : decode b_Model_readLine 82 = .ok (.invokevirtual 181, 3) := by decide +kernel
theorem d_Model_readLine_85 : decode b_Model_readLine 85 = .ok (.aload_n 0, 1) := by decide +kernel
theorem d_Model_readLine_86 : decode b_Model_readLine 86 = .ok (.getfield 147, 3) := by decide +kernel
theorem d_Model_readLine_89 : decode b_Model_readLine 89 = .ok (.ifCond .ne 41, 3) := by decide +kernel
theorem d_Model_readLine_92 : decode b_Model_readLine 92 = .ok (.iload_n 1, 1) := by decide +kernel
theorem d_Model_readLine_93 : decode b_Model_readLine 93 = .ok (.iconst 1, 1) := by decide +kernel
theorem d_Model_readLine_94 : decode b_Model_readLine 94 = .ok (.if_icmp .gt 36, 3) := by decide +kernel
theorem d_Model_readLine_97 : decode b_Model_readLine 97 = .ok (.aload_n 0, 1) := by decide +kernel
theorem d_Model_readLine_98 : decode b_Model_readLine 98 = .ok (.aload_n 0, 1) := by decide +kernel
theorem d_Model_readLine_99 : decode b_Model_readLine 99 = .ok (.getfield 116, 3) := by decide +kernel
theorem d_Model_readLine_102 : decode b_Model_readLine 102 = .ok (.iload_n 1, 1) := by decide +kernel
theorem d_Model_readLine_103 : decode b_Model_readLine 103 = .ok (.ishr, 1) := by decide +kernel
theorem d_Model_readLine_104 : decode b_Model_readLine 104 = .ok (.iconst 1, 1) := by decide +kernel
theorem d_Model_readLine_105 : decode b_Model_readLine 105 = .ok (.iand, 1) := by decide +kernel
theorem d_Model_readLine_106 : decode b_Model_readLine 106 = .ok (.ifCond .ne 7, 3) := by decide +kernel
theorem d_Model_readLine_109 : decode b_Model_readLine 109 = .ok (.iconst 1, 1) := by decide +kernel
theorem d_Model_readLine_110 : decode b_Model_readLine 110 = .ok (.goto 4, 3) := by decide +kernel
theorem d_Model_readLine_113 : decode b_Model_readLine 113 = .ok (.iconst 0, 1) := by decide +kernel
theorem d_Model_readLine_114 : decode b_Model_readLine 114 = .ok (.iconst 4, 1) := by decide +kernel
theorem d_Model_readLine_115 : decode b_Model_readLine 115 = .ok (.invokevirtual 181, 3) := by decide +kernel
theorem d_Model_readLine_118 : decode b_Model_readLine 118 = .ok (.aload_n 0, 1) := by decide +kernel
theorem d_Model_readLine_119 : decode b_Model_readLine 119 = .ok (.dup, 1) := by decide +kernel
theorem d_Model_readLine_120 : decode b_Model_readLine 120 = .ok (.getfield 116, 3) := by decide +kernel
theorem d_Model_readLine_123 : decode b_Model_readLine 123 = .ok (.iconst 1, 1) := by decide +kernel
theorem d_Model_readLine_124 : decode b_Model_readLine 124 = .ok (.iload_n 1, 1) := by decide +kernel
theorem d_Model_readLine_125 : decode b_Model_readLine 125 = .ok (.ishl, 1) := by decide +kernel
theorem d_Model_readLine_126 : decode b_Model_readLine 126 = .ok (.ior, 1) := by decide +kernel
theorem d_Model_readLine_127 : decode b_Model_readLine 127 = .ok (.putfield 116, 3) := by decide +kernel
theorem d_Model_readLine_130 : decode b_Model_readLine 130 = .ok (.aload_n 0, 1) := by decide +kernel
theorem d_Model_readLine_131 : decode b_Model_readLine 131 = .ok (.invokevirtual 188, 3) := by decide +kernel
theorem d_Model_readLine_134 : decode b_Model_readLine 134 = .ok (.aload_n 0, 1) := by decide +kernel
theorem d_Model_readLine_135 : decode b_Model_readLine 135 = .ok (.getfield 147, 3) := by decide +kernel
theorem d_Model_readLine_138 : decode b_Model_readLine 138 = .ok (.ifCond .le 4, 3) := by decide +kernel
theorem d_Model_readLine_141 : decode b_Model_readLine 141 = .ok (.return_, 1) := by decide +kernel
theorem d_Model_readLine_142 : decode b_Model_readLine 142 = .ok (.iload_n 1, 1) := by decide +kernel
theorem d_Model_readLine_143 : decode b_Model_readLine 143 = .ok (.tableswitch 131 0 5 #[37, 51, 65, 72, 79, 105], 37) := by decide +kernel
theorem d_Model_readLine_180 : decode b_Model_readLine 180 = .ok (.aload_n 0, 1) := by decide +kernel
theorem d_Model_readLine_181 : decode b_Model_readLine 181 = .ok (.aload_n 0, 1) := by decide +kernel
theorem d_Model_readLine_182 : decode b_Model_readLine 182 = .ok (.iconst 2, 1) := by decide +kernel
theorem d_Model_readLine_183 : decode b_Model_readLine 183 = .ok (.bipush 6, 2) := by decide +kernel
theorem d_Model_readLine_185 : decode b_Model_readLine 185 = .ok (.invokevirtual 195, 3) := by decide +kernel
theorem d_Model_readLine_188 : decode b_Model_readLine 188 = .ok (.putfield 97, 3) := by decide +kernel
theorem d_Model_readLine_191 : decode b_Model_readLine 191 = .ok (.goto 87, 3) := by decide +kernel
theorem d_Model_readLine_194 : decode b_Model_readLine 194 = .ok (.aload_n 0, 1) := by decide +kernel
theorem d_Model_readLine_195 : decode b_Model_readLine 195 = .ok (.aload_n 0, 1) := by decide +kernel
theorem d_Model_readLine_196 : decode b_Model_readLine 196 = .ok (.iconst 1, 1) := by decide +kernel
theorem d_Model_readLine_197 : decode b_Model_readLine 197 = .ok (.bipush 9, 2) := by decide +kernel
theorem d_Model_readLine_199 : decode b_Model_readLine 199 = .ok (.invokevirtual 195, 3) := by decide +kernel
theorem d_Model_readLine_202 : decode b_Model_readLine 202 = .ok (.putfield 101, 3) := by decide +kernel
theorem d_Model_readLine_205 : decode b_Model_readLine 205 = .ok (.goto 73, 3) := by decide +kernel
theorem d_Model_readLine_208 : decode b_Model_readLine 208 = .ok (.aload_n 0, 1) := by decide +kernel
theorem d_Model_readLine_209 : decode b_Model_readLine 209 = .ok (.invokevirtual 202, 3) := by decide +kernel
theorem d_Model_readLine_212 : decode b_Model_readLine 212 = .ok (.goto 66, 3) := by decide +kernel
theorem d_Model_readLine_215 : decode b_Model_readLine 215 = .ok (.aload_n 0, 1) := by decide +kernel
theorem d_Model_readLine_216 : decode b_Model_readLine 216 = .ok (.invokevirtual 205, 3) := by decide +kernel
theorem d_Model_readLine_219 : decode b_Model_readLine 219 = .ok (.goto 59, 3) := by decide +kernel
theorem d_Model_readLine_222 : decode b_Model_readLine 222 = .ok (.aload_n 0, 1) := by decide +kernel
theorem d_Model_readLine_223 : decode b_Model_readLine 223 = .ok (.getfield 35, 3) := by decide +kernel
theorem d_Model_readLine_226 : decode b_Model_readLine 226 = .ok (.aload_n 0, 1) := by decide +kernel
theorem d_Model_readLine_227 : decode b_Model_readLine 227 = .ok (.getfield 107, 3) := by decide +kernel
theorem d_Model_readLine_230 : decode b_Model_readLine 230 = .ok (.aload_n 0, 1) := by decide +kernel
theorem d_Model_readLine_231 : decode b_Model_readLine 231 = .ok (.invokevirtual 208, 3) := by decide +kernel
theorem d_Model_readLine_234 : decode b_Model_readLine 234 = .ok (.iastore, 1) := by decide +kernel
theorem d_Model_readLine_235 : decode b_Model_readLine 235 = .ok (.aload_n 0, 1) := by decide +kernel
theorem d_Model_readLine_236 : decode b_Model_readLine 236 = .ok (.dup, 1) := by decide +kernel
theorem d_Model_readLine_237 : decode b_Model_readLine 237 = .ok (.getfield 107, 3) := by decide +kernel
theorem d_Model_readLine_240 : decode b_Model_readLine 240 = .ok (.iconst 1, 1) := by decide +kernel
theorem d_Model_readLine_241 : decode b_Model_readLine 241 = .ok (.iadd, 1) := by decide +kernel
theorem d_Model_readLine_242 : decode b_Model_readLine 242 = .ok (.putfield 107, 3) := by decide +kernel
theorem d_Model_readLine_245 : decode b_Model_readLine 245 = .ok (.goto 33, 3) := by decide +kernel
theorem d_Model_readLine_248 : decode b_Model_readLine 248 = .ok (.aload_n 0, 1) := by decide +kernel
theorem d_Model_readLine_249 : decode b_Model_readLine 249 = .ok (.getfield 38, 3) := by decide +kernel
theorem d_Model_readLine_252 : decode b_Model_readLine 252 = .ok (.aload_n 0, 1) := by decide +kernel
theorem d_Model_readLine_253 : decode b_Model_readLine 253 = .ok (.getfield 110, 3) := by decide +kernel
theorem d_Model_readLine_256 : decode b_Model_readLine 256 = .ok (.aload_n 0, 1) := by decide +kernel
theorem d_Model_readLine_257 : decode b_Model_readLine 257 = .ok (.invokevirtual 208, 3) := by decide +kernel
theorem d_Model_readLine_260 : decode b_Model_readLine 260 = .ok (.iastore, 1) := by decide +kernel
theorem d_Model_readLine_261 : decode b_Model_readLine 261 = .ok (.aload_n 0, 1) := by decide +kernel
theorem d_Model_readLine_262 : decode b_Model_readLine 262 = .ok (.dup, 1) := by decide +kernel
theorem d_Model_readLine_263 : decode b_Model_readLine 263 = .ok (.getfield 110, 3) := by decide +kernel
theorem d_Model_readLine_266 : decode b_Model_readLine 266 = .ok (.iconst 1, 1) := by decide +kernel
theorem d_Model_readLine_267 : decode b_Model_readLine 267 = .ok (.iadd, 1) := by decide +kernel
theorem d_Model_readLine_268 : decode b_Model_readLine 268 = .ok (.putfield 110, 3) := by decide +kernel
theorem d_Model_readLine_271 : decode b_Model_readLine 271 = .ok (.goto 7, 3) := by decide +kernel
theorem d_Model_readLine_274 : decode b_Model_readLine 274 = .ok (.aload_n 0, 1) := by decide +kernel
theorem d_Model_readLine_275 : decode b_Model_readLine 275 = .ok (.invokevirtual 211, 3) := by decide +kernel
theorem d_Model_readLine_278 : decode b_Model_readLine 278 = .ok (.aload_n 0, 1) := by decide +kernel
theorem d_Model_readLine_279 : decode b_Model_readLine 279 = .ok (.getfield 147, 3) := by decide +kernel
theorem d_Model_readLine_282 : decode b_Model_readLine 282 = .ok (.ifCond .ne 21, 3) := by decide +kernel
theorem d_Model_readLine_285 : decode b_Model_readLine 285 = .ok (.aload_n 0, 1) := by decide +kernel
theorem d_Model_readLine_286 : decode b_Model_readLine 286 = .ok (.aload_n 0, 1) := by decide +kernel
theorem d_Model_readLine_287 : decode b_Model_readLine 287 = .ok (.getfield 167, 3) := by decide +kernel
theorem d_Model_readLine_290 : decode b_Model_readLine 290 = .ok (.iconst 3, 1) := by decide +kernel
theorem d_Model_readLine_291 : decode b_Model_readLine 291 = .ok (.if_icmp .ne 7, 3) := by decide +kernel
theorem d_Model_readLine_294 : decode b_Model_readLine 294 = .ok (.iconst 1, 1) := by decide +kernel
theorem d_Model_readLine_295 : decode b_Model_readLine 295 = .ok (.goto 4, 3) := by decide +kernel
theorem d_Model_readLine_298 : decode b_Model_readLine 298 = .ok (.iconst 0, 1) := by decide +kernel
theorem d_Model_readLine_299 : decode b_Model_readLine 299 = .ok (.iconst 2, 1) := by decide +kernel
theorem d_Model_readLine_300 : decode b_Model_readLine 300 = .ok (.invokevirtual 181, 3) := by decide +kernel
theorem d_Model_readLine_303 : decode b_Model_readLine 303 = .ok (.aload_n 0, 1) := by decide +kernel
theorem d_Model_readLine_304 : decode b_Model_readLine 304 = .ok (.invokevirtual 188, 3) := by decide +kernel
theorem d_Model_readLine_307 : decode b_Model_readLine 307 = .ok (.return_, 1) := by decide +kernel
def X_Model_readLine (n : Nat) (M : Mem) : Option (Unit × Mem) :=
  nm (fun (u1 : Int32) (M2 : Mem) => (nm (fun (u3 : Int32) => (bd (X_Model_needs n u3 2 M2) fun _ M5 =>
          nm (fun (u6 : Int32) => (bd (X_Model_needs n u6 5 M5) fun _ M8 =>
              nm (fun (M9 : Mem) => (bd (X_Model_next n M9) fun _ M11 =>
                  (if (M11.1 0 31) ≤ 0 then
                    nm (fun (M12 : Mem) => (nm (fun (M13 : Mem) => (bd (X_Model_next n M13) fun _ M15 =>
                            some ((), M15) : Option (Unit × Mem))) fun k303 =>
                        (if (M12.1 0 31) = 0 then
                          nm (fun (u16 : Int32) => (bd (X_Model_needs n u16 2 M12) fun _ M18 =>
                              k303 M18 : Option (Unit × Mem))) fun k299 =>
                          (if (M12.1 0 29) = 3 then
                            k299 1
                            else
                            k299 0)
                          else
                          k303 M12) : Option (Unit × Mem))) fun k278 =>
                    (if u1 = 0 then
                      bd (X_Model_readNumber n 2 6 M11) fun r33 M34 =>
                      k278 (si M34 0 12 r33)
                      else
                      (if u1 = 1 then
                        bd (X_Model_readNumber n 1 9 M11) fun r31 M32 =>
                        k278 (si M32 0 13 r31)
                        else
                        (if u1 = 2 then
                          bd (X_Model_readKnows n M11) fun _ M30 =>
                          k278 M30
                          else
                          (if u1 = 3 then
                            bd (X_Model_readJoin n M11) fun _ M28 =>
                            k278 M28
                            else
                            (if u1 = 4 then
                              bd (X_Model_readHand n M11) fun r24 M25 =>
                              gd (M11.1 0 15) 16 (
                                nm (si M25 9 ((M11.1 0 15).toNatClampNeg) r24) fun N26 =>
                                k278 (si N26 0 15 ((N26.1 0 15) + 1)))
                              else
                              (if u1 = 5 then
                                bd (X_Model_readHand n M11) fun r21 M22 =>
                                gd (M11.1 0 16) 8 (
                                  nm (si M22 10 ((M11.1 0 16).toNatClampNeg) r21) fun N23 =>
                                  k278 (si N23 0 16 ((N23.1 0 16) + 1)))
                                else
                                bd (X_Model_readGlove n M11) fun _ M20 =>
                                k278 M20))))))
                    else
                    some ((), M11)) : Option (Unit × Mem))) fun k130 =>
              (if (M8.1 0 31) = 0 then
                (if 1 < u1 then
                  k130 M8
                  else
                  nm (fun (u35 : Int32) => (bd (X_Model_needs n u35 4 M8) fun _ M37 =>
                      k130 (si M37 0 24 ((M37.1 0 24) ||| ((1 : Int32) <<< (u1 &&& 31)))) : Option (Unit × Mem))) fun k114 =>
                  (if (((M8.1 0 24) >>> (u1 &&& 31)) &&& 1) = 0 then
                    k114 1
                    else
                    k114 0))
                else
                k130 M8) : Option (Unit × Mem))) fun k81 =>
          nm (nm ((if u1 = 5 then
                (if 8 ≤ (M5.1 0 16) then
                  k81 0
                  else
                  k81 1)
                else
                k81 1) : Option (Unit × Mem)) fun k62 =>
            (if u1 = 4 then
              (if 16 ≤ (M5.1 0 15) then
                k81 0
                else
                k62)
              else
              k62) : Option (Unit × Mem)) fun k48 =>
          (if u1 = 3 then
            (if 4 ≤ (M5.1 0 14) then
              k81 0
              else
              k48)
            else
            k48) : Option (Unit × Mem))) fun k30 =>
      (if u1 = (-4) then
        k30 0
        else
        k30 1) : Option (Unit × Mem))) fun k17 =>
  (if (M.1 0 29) = 1 then
    bd (X_Model_nameNow n M) fun r38 M39 =>
    k17 r38 M39
    else
    k17 (-4) M)
set_option maxRecDepth 20000 in
set_option maxHeartbeats 4000000 in
theorem C_Model_readLine (n : Nat)    (M : Mem) : Ct y_Model_readLine mt_Model_readLine wU [Value.ref 0] M (X_Model_readLine n M) := by
  refine ct_of (by decide +kernel) rfl (Nat.le_of_ble_eq_true rfl) ?_
  show J _ _ _ [(0, Value.ref 0)] _ _ _
  unfold X_Model_readLine
  refine j_aload_n (pc := 0) (q := 0) d_Model_readLine_0 rfl rfl ?_
  refine j_getI (pc := 1) d_Model_readLine_1 fl_Model_167 sm_0 (by decide) rfl ?_
  refine j_iconst (pc := 4) d_Model_readLine_4 k_i_1 ?_
  refine j_nmk (fun k => ∀ (u1 : Int32) (M2 : Mem), J (mt_Model_readLine) wU 17 [(0, Value.ref 0)] [Value.int u1] M2 (k u1 M2)) (fun u1 M2 => ?_) (fun k17 hk17 => ?_)
  · refine j_istore_n (pc := 17) d_Model_readLine_17 rfl (by decide) rfl ?_
    refine j_aload_n (pc := 18) (q := 1) d_Model_readLine_18 rfl rfl ?_
    refine j_iload_n (pc := 19) (q := 0) d_Model_readLine_19 rfl rfl ?_
    refine j_bipush (pc := 20) d_Model_readLine_20 k_b_m4 ?_
    refine j_nmk (fun k => ∀ (u3 : Int32), J (mt_Model_readLine) wU 30 [(0, Value.ref 0), (1, Value.int u1)] [Value.int u3, Value.ref 0] M2 (k u3)) (fun u3 => ?_) (fun k30 hk30 => ?_)
    · refine j_iconst (pc := 30) d_Model_readLine_30 k_i_2 ?_
      refine j_callV2 (pc := 31) d_Model_readLine_31 (C_Model_needs n u3 2 M2) cV_Model_181 cd_Model_needs dn_Model_needs rfl (by decide) (Nat.le_of_ble_eq_true rfl) (Nat.le_of_ble_eq_true rfl) nr_U sm_0 (by decide) rfl (fun r4 M5 => ?_)
      refine j_aload_n (pc := 34) (q := 0) d_Model_readLine_34 rfl rfl ?_
      refine j_iload_n (pc := 35) (q := 1) d_Model_readLine_35 rfl rfl ?_
      refine j_iconst (pc := 36) d_Model_readLine_36 k_i_3 ?_
      refine j_nmk (fun k => ∀ (u6 : Int32), J (mt_Model_readLine) wU 81 [(0, Value.ref 0), (1, Value.int u1)] [Value.int u6, Value.ref 0] M5 (k u6)) (fun u6 => ?_) (fun k81 hk81 => ?_)
      · refine j_iconst (pc := 81) d_Model_readLine_81 k_i_5 ?_
        refine j_callV2 (pc := 82) d_Model_readLine_82 (C_Model_needs n u6 5 M5) cV_Model_181 cd_Model_needs dn_Model_needs rfl (by decide) (Nat.le_of_ble_eq_true rfl) (Nat.le_of_ble_eq_true rfl) nr_U sm_0 (by decide) rfl (fun r7 M8 => ?_)
        refine j_aload_n (pc := 85) (q := 0) d_Model_readLine_85 rfl rfl ?_
        refine j_getI (pc := 86) d_Model_readLine_86 fl_Model_147 sm_0 (by decide) rfl ?_
        refine j_nmk (fun k => ∀ (M9 : Mem), J (mt_Model_readLine) wU 130 [(0, Value.ref 0), (1, Value.int u1)] [] M9 (k M9)) (fun M9 => ?_) (fun k130 hk130 => ?_)
        · refine j_aload_n (pc := 130) (q := 0) d_Model_readLine_130 rfl rfl ?_
          refine j_callV0 (pc := 131) d_Model_readLine_131 (C_Model_next n M9) cV_Model_188 cd_Model_next dn_Model_next rfl (by decide) (Nat.le_of_ble_eq_true rfl) (Nat.le_of_ble_eq_true rfl) nr_U sm_0 (by decide) rfl (fun r10 M11 => ?_)
          refine j_aload_n (pc := 134) (q := 0) d_Model_readLine_134 rfl rfl ?_
          refine j_getI (pc := 135) d_Model_readLine_135 fl_Model_147 sm_0 (by decide) rfl ?_
          refine j_if_le (pc := 138) (tgt := 142) d_Model_readLine_138 (by decide) (fun _ => ?_) (fun _ => ?_)
          · refine j_iload_n (pc := 142) (q := 1) d_Model_readLine_142 rfl rfl ?_
            refine j_nmk (fun k => ∀ (M12 : Mem), J (mt_Model_readLine) wU 278 [(0, Value.ref 0)] [] M12 (k M12)) (fun M12 => ?_) (fun k278 hk278 => ?_)
            · refine j_aload_n (pc := 278) (q := 0) d_Model_readLine_278 rfl rfl ?_
              refine j_getI (pc := 279) d_Model_readLine_279 fl_Model_147 sm_0 (by decide) rfl ?_
              refine j_nmk (fun k => ∀ (M13 : Mem), J (mt_Model_readLine) wU 303 [(0, Value.ref 0)] [] M13 (k M13)) (fun M13 => ?_) (fun k303 hk303 => ?_)
              · refine j_aload_n (pc := 303) (q := 0) d_Model_readLine_303 rfl rfl ?_
                refine j_callV0 (pc := 304) d_Model_readLine_304 (C_Model_next n M13) cV_Model_188 cd_Model_next dn_Model_next rfl (by decide) (Nat.le_of_ble_eq_true rfl) (Nat.le_of_ble_eq_true rfl) nr_U sm_0 (by decide) rfl (fun r14 M15 => ?_)
                exact j_return (pc := 307) d_Model_readLine_307 rfl
              · refine j_if_ne (pc := 282) (tgt := 303) d_Model_readLine_282 (by decide) (fun _ => ?_) (fun _ => ?_)
                · exact hk303 M12
                · refine j_aload_n (pc := 285) (q := 0) d_Model_readLine_285 rfl rfl ?_
                  refine j_aload_n (pc := 286) (q := 0) d_Model_readLine_286 rfl rfl ?_
                  refine j_getI (pc := 287) d_Model_readLine_287 fl_Model_167 sm_0 (by decide) rfl ?_
                  refine j_iconst (pc := 290) d_Model_readLine_290 k_i_3 ?_
                  refine j_nmk (fun k => ∀ (u16 : Int32), J (mt_Model_readLine) wU 299 [(0, Value.ref 0)] [Value.int u16, Value.ref 0] M12 (k u16)) (fun u16 => ?_) (fun k299 hk299 => ?_)
                  · refine j_iconst (pc := 299) d_Model_readLine_299 k_i_2 ?_
                    refine j_callV2 (pc := 300) d_Model_readLine_300 (C_Model_needs n u16 2 M12) cV_Model_181 cd_Model_needs dn_Model_needs rfl (by decide) (Nat.le_of_ble_eq_true rfl) (Nat.le_of_ble_eq_true rfl) nr_U sm_0 (by decide) rfl (fun r17 M18 => ?_)
                    exact hk303 M18
                  · refine j_icmp_ne (pc := 291) (tgt := 298) d_Model_readLine_291 (by decide) (fun _ => ?_) (fun _ => ?_)
                    · refine j_iconst (pc := 298) d_Model_readLine_298 k_i_0 ?_
                      exact hk299 0
                    · refine j_iconst (pc := 294) d_Model_readLine_294 k_i_1 ?_
                      refine j_goto (pc := 295) (tgt := 299) d_Model_readLine_295 (by decide) ?_
                      exact hk299 1
            · refine j_split (fun h0 => ?_) (fun h0 => ?_)
              · refine j_tableIn (pc := 143) (tgt := 180) d_Model_readLine_143 0 h0 (by decide) (by decide) rfl (by decide) ?_
                refine j_aload_n (pc := 180) (q := 0) d_Model_readLine_180 rfl rfl ?_
                refine j_aload_n (pc := 181) (q := 0) d_Model_readLine_181 rfl rfl ?_
                refine j_iconst (pc := 182) d_Model_readLine_182 k_i_2 ?_
                refine j_bipush (pc := 183) d_Model_readLine_183 k_b_6 ?_
                refine j_callV2 (pc := 185) d_Model_readLine_185 (C_Model_readNumber n 2 6 M11) cV_Model_195 cd_Model_readNumber dn_Model_readNumber rfl (by decide) (Nat.le_of_ble_eq_true rfl) (Nat.le_of_ble_eq_true rfl) nr_I sm_0 (by decide) rfl (fun r33 M34 => ?_)
                refine j_putI (pc := 188) d_Model_readLine_188 fl_Model_97 rfl sm_0 (by decide) rfl ?_
                refine j_goto (pc := 191) (tgt := 278) d_Model_readLine_191 (by decide) ?_
                refine j_lv [0] rfl ?_
                exact hk278 (si M34 0 12 r33)
              · refine j_split (fun h1 => ?_) (fun h1 => ?_)
                · refine j_tableIn (pc := 143) (tgt := 194) d_Model_readLine_143 1 h1 (by decide) (by decide) rfl (by decide) ?_
                  refine j_aload_n (pc := 194) (q := 0) d_Model_readLine_194 rfl rfl ?_
                  refine j_aload_n (pc := 195) (q := 0) d_Model_readLine_195 rfl rfl ?_
                  refine j_iconst (pc := 196) d_Model_readLine_196 k_i_1 ?_
                  refine j_bipush (pc := 197) d_Model_readLine_197 k_b_9 ?_
                  refine j_callV2 (pc := 199) d_Model_readLine_199 (C_Model_readNumber n 1 9 M11) cV_Model_195 cd_Model_readNumber dn_Model_readNumber rfl (by decide) (Nat.le_of_ble_eq_true rfl) (Nat.le_of_ble_eq_true rfl) nr_I sm_0 (by decide) rfl (fun r31 M32 => ?_)
                  refine j_putI (pc := 202) d_Model_readLine_202 fl_Model_101 rfl sm_0 (by decide) rfl ?_
                  refine j_goto (pc := 205) (tgt := 278) d_Model_readLine_205 (by decide) ?_
                  refine j_lv [0] rfl ?_
                  exact hk278 (si M32 0 13 r31)
                · refine j_split (fun h2 => ?_) (fun h2 => ?_)
                  · refine j_tableIn (tgt := 208) d_Model_readLine_143 2 h2 (by decide) (by decide) rfl (by decide) ?_
                    refine j_aload_n (pc := 208) (q := 0) d_Model_readLine_208 rfl rfl ?_
                    refine j_callV0 (pc := 209) d_Model_readLine_209 (C_Model_readKnows n M11) cV_Model_202 cd_Model_readKnows dn_Model_readKnows rfl (by decide) (Nat.le_of_ble_eq_true rfl) (Nat.le_of_ble_eq_true rfl) nr_U sm_0 (by decide) rfl (fun r29 M30 => ?_)
                    refine j_goto (pc := 212) (tgt := 278) d_Model_readLine_212 (by decide) ?_
                    refine j_lv [0] rfl ?_
                    exact hk278 M30
                  · refine j_split (fun h3 => ?_) (fun h3 => ?_)
                    · refine j_tableIn (tgt := 215) d_Model_readLine_143 3 h3 (by decide) (by decide) rfl (by decide) ?_
                      refine j_aload_n (pc := 215) (q := 0) d_Model_readLine_215 rfl rfl ?_
                      refine j_callV0 (pc := 216) d_Model_readLine_216 (C_Model_readJoin n M11) cV_Model_205 cd_Model_readJoin dn_Model_readJoin rfl (by decide) (Nat.le_of_ble_eq_true rfl) (Nat.le_of_ble_eq_true rfl) nr_U sm_0 (by decide) rfl (fun r27 M28 => ?_)
                      refine j_goto (pc := 219) (tgt := 278) d_Model_readLine_219 (by decide) ?_
                      refine j_lv [0] rfl ?_
                      exact hk278 M28
                    · refine j_split (fun h4 => ?_) (fun h4 => ?_)
                      · refine j_tableIn (tgt := 222) d_Model_readLine_143 4 h4 (by decide) (by decide) rfl (by decide) ?_
                        refine j_aload_n (pc := 222) (q := 0) d_Model_readLine_222 rfl rfl ?_
                        refine j_getA (pc := 223) d_Model_readLine_223 fl_Model_35 sm_0 (by decide) rfl ?_
                        refine j_aload_n (pc := 226) (q := 0) d_Model_readLine_226 rfl rfl ?_
                        refine j_getI (pc := 227) d_Model_readLine_227 fl_Model_107 sm_0 (by decide) rfl ?_
                        refine j_aload_n (pc := 230) (q := 0) d_Model_readLine_230 rfl rfl ?_
                        refine j_callV0 (pc := 231) d_Model_readLine_231 (C_Model_readHand n M11) cV_Model_208 cd_Model_readHand dn_Model_readHand rfl (by decide) (Nat.le_of_ble_eq_true rfl) (Nat.le_of_ble_eq_true rfl) nr_I sm_0 (by decide) rfl (fun r24 M25 => ?_)
                        refine j_iast (pc := 234) d_Model_readLine_234 sm_9 (fun _ => ?_)
                        refine j_aload_n (pc := 235) (q := 0) d_Model_readLine_235 rfl rfl ?_
                        refine j_dup (pc := 236) d_Model_readLine_236 rfl ?_
                        refine j_nmM (fun N26 => ?_)
                        refine j_getI (pc := 237) d_Model_readLine_237 fl_Model_107 sm_0 (by decide) rfl ?_
                        refine j_iconst (pc := 240) d_Model_readLine_240 k_i_1 ?_
                        refine j_iadd (pc := 241) d_Model_readLine_241 ?_
                        refine j_putI (pc := 242) d_Model_readLine_242 fl_Model_107 rfl sm_0 (by decide) rfl ?_
                        refine j_goto (pc := 245) (tgt := 278) d_Model_readLine_245 (by decide) ?_
                        refine j_lv [0] rfl ?_
                        exact hk278 (si N26 0 15 ((N26.1 0 15) + 1))
                      · refine j_split (fun h5 => ?_) (fun h5 => ?_)
                        · refine j_tableIn (tgt := 248) d_Model_readLine_143 5 h5 (by decide) (by decide) rfl (by decide) ?_
                          refine j_aload_n (pc := 248) (q := 0) d_Model_readLine_248 rfl rfl ?_
                          refine j_getA (pc := 249) d_Model_readLine_249 fl_Model_38 sm_0 (by decide) rfl ?_
                          refine j_aload_n (pc := 252) (q := 0) d_Model_readLine_252 rfl rfl ?_
                          refine j_getI (pc := 253) d_Model_readLine_253 fl_Model_110 sm_0 (by decide) rfl ?_
                          refine j_aload_n (pc := 256) (q := 0) d_Model_readLine_256 rfl rfl ?_
                          refine j_callV0 (pc := 257) d_Model_readLine_257 (C_Model_readHand n M11) cV_Model_208 cd_Model_readHand dn_Model_readHand rfl (by decide) (Nat.le_of_ble_eq_true rfl) (Nat.le_of_ble_eq_true rfl) nr_I sm_0 (by decide) rfl (fun r21 M22 => ?_)
                          refine j_iast (pc := 260) d_Model_readLine_260 sm_10 (fun _ => ?_)
                          refine j_aload_n (pc := 261) (q := 0) d_Model_readLine_261 rfl rfl ?_
                          refine j_dup (pc := 262) d_Model_readLine_262 rfl ?_
                          refine j_nmM (fun N23 => ?_)
                          refine j_getI (pc := 263) d_Model_readLine_263 fl_Model_110 sm_0 (by decide) rfl ?_
                          refine j_iconst (pc := 266) d_Model_readLine_266 k_i_1 ?_
                          refine j_iadd (pc := 267) d_Model_readLine_267 ?_
                          refine j_putI (pc := 268) d_Model_readLine_268 fl_Model_110 rfl sm_0 (by decide) rfl ?_
                          refine j_goto (pc := 271) (tgt := 278) d_Model_readLine_271 (by decide) ?_
                          refine j_lv [0] rfl ?_
                          exact hk278 (si N23 0 16 ((N23.1 0 16) + 1))
                        · refine j_tableOut (tgt := 274) d_Model_readLine_143 ?_ (by decide) ?_
                          · have e := sw_out5 h0 h1 h2 h3 h4 h5
                            exact Or.imp (fun h => h) (fun h => h) e
                          · refine j_aload_n (pc := 274) (q := 0) d_Model_readLine_274 rfl rfl ?_
                            refine j_callV0 (pc := 275) d_Model_readLine_275 (C_Model_readGlove n M11) cV_Model_211 cd_Model_readGlove dn_Model_readGlove rfl (by decide) (Nat.le_of_ble_eq_true rfl) (Nat.le_of_ble_eq_true rfl) nr_U sm_0 (by decide) rfl (fun r19 M20 => ?_)
                            refine j_lv [0] rfl ?_
                            exact hk278 M20
          · exact j_return (pc := 141) d_Model_readLine_141 rfl
        · refine j_if_ne (pc := 89) (tgt := 130) d_Model_readLine_89 (by decide) (fun _ => ?_) (fun _ => ?_)
          · exact hk130 M8
          · refine j_iload_n (pc := 92) (q := 1) d_Model_readLine_92 rfl rfl ?_
            refine j_iconst (pc := 93) d_Model_readLine_93 k_i_1 ?_
            refine j_icmp_gt (pc := 94) (tgt := 130) d_Model_readLine_94 (by decide) (fun _ => ?_) (fun _ => ?_)
            · exact hk130 M8
            · refine j_aload_n (pc := 97) (q := 0) d_Model_readLine_97 rfl rfl ?_
              refine j_aload_n (pc := 98) (q := 0) d_Model_readLine_98 rfl rfl ?_
              refine j_getI (pc := 99) d_Model_readLine_99 fl_Model_116 sm_0 (by decide) rfl ?_
              refine j_iload_n (pc := 102) (q := 1) d_Model_readLine_102 rfl rfl ?_
              refine j_ishr (pc := 103) d_Model_readLine_103 ?_
              refine j_iconst (pc := 104) d_Model_readLine_104 k_i_1 ?_
              refine j_iand (pc := 105) d_Model_readLine_105 ?_
              refine j_nmk (fun k => ∀ (u35 : Int32), J (mt_Model_readLine) wU 114 [(0, Value.ref 0), (1, Value.int u1)] [Value.int u35, Value.ref 0] M8 (k u35)) (fun u35 => ?_) (fun k114 hk114 => ?_)
              · refine j_iconst (pc := 114) d_Model_readLine_114 k_i_4 ?_
                refine j_callV2 (pc := 115) d_Model_readLine_115 (C_Model_needs n u35 4 M8) cV_Model_181 cd_Model_needs dn_Model_needs rfl (by decide) (Nat.le_of_ble_eq_true rfl) (Nat.le_of_ble_eq_true rfl) nr_U sm_0 (by decide) rfl (fun r36 M37 => ?_)
                refine j_aload_n (pc := 118) (q := 0) d_Model_readLine_118 rfl rfl ?_
                refine j_dup (pc := 119) d_Model_readLine_119 rfl ?_
                refine j_getI (pc := 120) d_Model_readLine_120 fl_Model_116 sm_0 (by decide) rfl ?_
                refine j_iconst (pc := 123) d_Model_readLine_123 k_i_1 ?_
                refine j_iload_n (pc := 124) (q := 1) d_Model_readLine_124 rfl rfl ?_
                refine j_ishl (pc := 125) d_Model_readLine_125 ?_
                refine j_ior (pc := 126) d_Model_readLine_126 ?_
                refine j_putI (pc := 127) d_Model_readLine_127 fl_Model_116 rfl sm_0 (by decide) rfl ?_
                exact hk130 (si M37 0 24 ((M37.1 0 24) ||| ((1 : Int32) <<< (u1 &&& 31))))
              · refine j_if_ne (pc := 106) (tgt := 113) d_Model_readLine_106 (by decide) (fun _ => ?_) (fun _ => ?_)
                · refine j_iconst (pc := 113) d_Model_readLine_113 k_i_0 ?_
                  exact hk114 0
                · refine j_iconst (pc := 109) d_Model_readLine_109 k_i_1 ?_
                  refine j_goto (pc := 110) (tgt := 114) d_Model_readLine_110 (by decide) ?_
                  exact hk114 1
      · refine j_nmk (fun k => J (mt_Model_readLine) wU 48 [(0, Value.ref 0), (1, Value.int u1)] [Value.ref 0] M5 k) (?_) (fun k48 hk48 => ?_)
        · refine j_iload_n (pc := 48) (q := 1) d_Model_readLine_48 rfl rfl ?_
          refine j_iconst (pc := 49) d_Model_readLine_49 k_i_4 ?_
          refine j_nmk (fun k => J (mt_Model_readLine) wU 62 [(0, Value.ref 0), (1, Value.int u1)] [Value.ref 0] M5 k) (?_) (fun k62 hk62 => ?_)
          · refine j_iload_n (pc := 62) (q := 1) d_Model_readLine_62 rfl rfl ?_
            refine j_iconst (pc := 63) d_Model_readLine_63 k_i_5 ?_
            refine j_icmp_ne (pc := 64) (tgt := 76) d_Model_readLine_64 (by decide) (fun _ => ?_) (fun _ => ?_)
            · refine j_iconst (pc := 76) d_Model_readLine_76 k_i_1 ?_
              refine j_goto (pc := 77) (tgt := 81) d_Model_readLine_77 (by decide) ?_
              exact hk81 1
            · refine j_aload_n (pc := 67) (q := 0) d_Model_readLine_67 rfl rfl ?_
              refine j_getI (pc := 68) d_Model_readLine_68 fl_Model_110 sm_0 (by decide) rfl ?_
              refine j_bipush (pc := 71) d_Model_readLine_71 k_b_8 ?_
              refine j_icmp_ge (pc := 73) (tgt := 80) d_Model_readLine_73 (by decide) (fun _ => ?_) (fun _ => ?_)
              · refine j_iconst (pc := 80) d_Model_readLine_80 k_i_0 ?_
                exact hk81 0
              · refine j_iconst (pc := 76) d_Model_readLine_76 k_i_1 ?_
                refine j_goto (pc := 77) (tgt := 81) d_Model_readLine_77 (by decide) ?_
                exact hk81 1
          · refine j_icmp_ne (pc := 50) (tgt := 62) d_Model_readLine_50 (by decide) (fun _ => ?_) (fun _ => ?_)
            · exact hk62
            · refine j_aload_n (pc := 53) (q := 0) d_Model_readLine_53 rfl rfl ?_
              refine j_getI (pc := 54) d_Model_readLine_54 fl_Model_107 sm_0 (by decide) rfl ?_
              refine j_bipush (pc := 57) d_Model_readLine_57 k_b_16 ?_
              refine j_icmp_ge (pc := 59) (tgt := 80) d_Model_readLine_59 (by decide) (fun _ => ?_) (fun _ => ?_)
              · refine j_iconst (pc := 80) d_Model_readLine_80 k_i_0 ?_
                exact hk81 0
              · exact hk62
        · refine j_icmp_ne (pc := 37) (tgt := 48) d_Model_readLine_37 (by decide) (fun _ => ?_) (fun _ => ?_)
          · exact hk48
          · refine j_aload_n (pc := 40) (q := 0) d_Model_readLine_40 rfl rfl ?_
            refine j_getI (pc := 41) d_Model_readLine_41 fl_Model_104 sm_0 (by decide) rfl ?_
            refine j_iconst (pc := 44) d_Model_readLine_44 k_i_4 ?_
            refine j_icmp_ge (pc := 45) (tgt := 80) d_Model_readLine_45 (by decide) (fun _ => ?_) (fun _ => ?_)
            · refine j_iconst (pc := 80) d_Model_readLine_80 k_i_0 ?_
              exact hk81 0
            · exact hk48
    · refine j_icmp_eq (pc := 22) (tgt := 29) d_Model_readLine_22 (by decide) (fun _ => ?_) (fun _ => ?_)
      · refine j_iconst (pc := 29) d_Model_readLine_29 k_i_0 ?_
        refine j_lv [1, 0] rfl ?_
        exact hk30 0
      · refine j_iconst (pc := 25) d_Model_readLine_25 k_i_1 ?_
        refine j_goto (pc := 26) (tgt := 30) d_Model_readLine_26 (by decide) ?_
        refine j_lv [1, 0] rfl ?_
        exact hk30 1
  · refine j_icmp_ne (pc := 5) (tgt := 15) d_Model_readLine_5 (by decide) (fun _ => ?_) (fun _ => ?_)
    · refine j_bipush (pc := 15) d_Model_readLine_15 k_b_m4 ?_
      exact hk17 (-4) M
    · refine j_aload_n (pc := 8) (q := 0) d_Model_readLine_8 rfl rfl ?_
      refine j_callV0 (pc := 9) d_Model_readLine_9 (C_Model_nameNow n M) cV_Model_198 cd_Model_nameNow dn_Model_nameNow rfl (by decide) (Nat.le_of_ble_eq_true rfl) (Nat.le_of_ble_eq_true rfl) nr_I sm_0 (by decide) rfl (fun r38 M39 => ?_)
      refine j_goto (pc := 12) (tgt := 17) d_Model_readLine_12 (by decide) ?_
      exact hk17 r38 M39
-- Model.text ()I
def mt_Model_text : Mt := ("ShakeHandsModel", b_Model_text, 2, some .int, 7, SHm)
theorem d_Model_text_0 : decode b_Model_text 0 = .ok (.iconst 0, 1) := by decide +kernel
theorem d_Model_text_1 : decode b_Model_text 1 = .ok (.istore_n 1, 1) := by decide +kernel
theorem d_Model_text_2 : decode b_Model_text 2 = .ok (.aload_n 0, 1) := by decide +kernel
theorem d_Model_text_3 : decode b_Model_text 3 = .ok (.iconst 0, 1) := by decide +kernel
theorem d_Model_text_4 : decode b_Model_text 4 = .ok (.putfield 147, 3) := by decide +kernel
theorem d_Model_text_7 : decode b_Model_text 7 = .ok (.aload_n 0, 1) := by decide +kernel
theorem d_Model_text_8 : decode b_Model_text 8 = .ok (.iconst 0, 1) := by decide +kernel
theorem d_Model_text_9 : decode b_Model_text 9 = .ok (.putfield 156, 3) := by decide +kernel
theorem d_Model_text_12 : decode b_Model_text 12 = .ok (.aload_n 0, 1) := by decide +kernel
theorem d_Model_text_13 : decode b_Model_text 13 = .ok (.invokevirtual 91, 3) := by decide +kernel
theorem d_Model_text_16 : decode b_Model_text 16 = .ok (.aload_n 0, 1) := by decide +kernel
theorem d_Model_text_17 : decode b_Model_text 17 = .ok (.invokevirtual 188, 3) := by decide +kernel
theorem d_Model_text_20 : decode b_Model_text 20 = .ok (.aload_n 0, 1) := by decide +kernel
theorem d_Model_text_21 : decode b_Model_text 21 = .ok (.getfield 147, 3) := by decide +kernel
theorem d_Model_text_24 : decode b_Model_text 24 = .ok (.ifCond .ne 20, 3) := by decide +kernel
theorem d_Model_text_27 : decode b_Model_text 27 = .ok (.aload_n 0, 1) := by decide +kernel
theorem d_Model_text_28 : decode b_Model_text 28 = .ok (.getfield 167, 3) := by decide +kernel
theorem d_Model_text_31 : decode b_Model_text 31 = .ok (.ifCond .eq 13, 3) := by decide +kernel
theorem d_Model_text_34 : decode b_Model_text 34 = .ok (.aload_n 0, 1) := by decide +kernel
theorem d_Model_text_35 : decode b_Model_text 35 = .ok (.invokevirtual 214, 3) := by decide +kernel
theorem d_Model_text_38 : decode b_Model_text 38 = .ok (.iinc 1 1, 3) := by decide +kernel
theorem d_Model_text_41 : decode b_Model_text 41 = .ok (.goto (-21), 3) := by decide +kernel
theorem d_Model_text_44 : decode b_Model_text 44 = .ok (.aload_n 0, 1) := by decide +kernel
theorem d_Model_text_45 : decode b_Model_text 45 = .ok (.getfield 147, 3) := by decide +kernel
theorem d_Model_text_48 : decode b_Model_text 48 = .ok (.ifCond .ne 35, 3) := by decide +kernel
theorem d_Model_text_51 : decode b_Model_text 51 = .ok (.aload_n 0, 1) := by decide +kernel
theorem d_Model_text_52 : decode b_Model_text 52 = .ok (.aload_n 0, 1) := by decide +kernel
theorem d_Model_text_53 : decode b_Model_text 53 = .ok (.getfield 113, 3) := by decide +kernel
theorem d_Model_text_56 : decode b_Model_text 56 = .ok (.aload_n 0, 1) := by decide +kernel
theorem d_Model_text_57 : decode b_Model_text 57 = .ok (.getfield 97, 3) := by decide +kernel
theorem d_Model_text_60 : decode b_Model_text 60 = .ok (.if_icmp .ge 7, 3) := by decide +kernel
theorem d_Model_text_63 : decode b_Model_text 63 = .ok (.iconst 1, 1) := by decide +kernel
theorem d_Model_text_64 : decode b_Model_text 64 = .ok (.goto 4, 3) := by decide +kernel
theorem d_Model_text_67 : decode b_Model_text 67 = .ok (.iconst 0, 1) := by decide +kernel
theorem d_Model_text_68 : decode b_Model_text 68 = .ok (.bipush 6, 2) := by decide +kernel
theorem d_Model_text_70 : decode b_Model_text 70 = .ok (.invokevirtual 181, 3) := by decide +kernel
theorem d_Model_text_73 : decode b_Model_text 73 = .ok (.aload_n 0, 1) := by decide +kernel
theorem d_Model_text_74 : decode b_Model_text 74 = .ok (.aload_n 0, 1) := by decide +kernel
theorem d_Model_text_75 : decode b_Model_text 75 = .ok (.invokevirtual 217, 3) := by decide +kernel
theorem d_Model_text_78 : decode b_Model_text 78 = .ok (.bipush 7, 2) := by decide +kernel
theorem d_Model_text_80 : decode b_Model_text 80 = .ok (.invokevirtual 181, 3) := by decide +kernel
theorem d_Model_text_83 : decode b_Model_text 83 = .ok (.aload_n 0, 1) := by decide +kernel
theorem d_Model_text_84 : decode b_Model_text 84 = .ok (.iconst 0, 1) := by decide +kernel
theorem d_Model_text_85 : decode b_Model_text 85 = .ok (.putfield 138, 3) := by decide +kernel
theorem d_Model_text_88 : decode b_Model_text 88 = .ok (.aload_n 0, 1) := by decide +kernel
theorem d_Model_text_89 : decode b_Model_text 89 = .ok (.getfield 147, 3) := by decide +kernel
theorem d_Model_text_92 : decode b_Model_text 92 = .ok (.ifCond .le 11, 3) := by decide +kernel
theorem d_Model_text_95 : decode b_Model_text 95 = .ok (.bipush (-10), 2) := by decide +kernel
theorem d_Model_text_97 : decode b_Model_text 97 = .ok (.aload_n 0, 1) := by decide +kernel
theorem d_Model_text_98 : decode b_Model_text 98 = .ok (.getfield 153, 3) := by decide +kernel
theorem d_Model_text_101 : decode b_Model_text 101 = .ok (.isub, 1) := by decide +kernel
theorem d_Model_text_102 : decode b_Model_text 102 = .ok (.ireturn, 1) := by decide +kernel
theorem d_Model_text_103 : decode b_Model_text 103 = .ok (.aload_n 0, 1) := by decide +kernel
theorem d_Model_text_104 : decode b_Model_text 104 = .ok (.invokevirtual 94, 3) := by decide +kernel
theorem d_Model_text_107 : decode b_Model_text 107 = .ok (.iload_n 1, 1) := by decide +kernel
theorem d_Model_text_108 : decode b_Model_text 108 = .ok (.ireturn, 1) := by decide +kernel
def X_Model_text_L20 (n : Nat) (kx44 : Int32 → Mem → Option (Int32 × Mem)) : Nat → Int32 → Mem → Option (Int32 × Mem)
    | 0, _, _ => none
    | m + 1, v1, M => (if (M.1 0 31) = 0 then
    (if (M.1 0 29) = 0 then
      kx44 v1 M
      else
      bd (X_Model_readLine n M) fun _ M7 =>
      X_Model_text_L20 n kx44 m (v1 + 1) M7)
    else
    kx44 v1 M)
def X_Model_text (n : Nat) (M : Mem) : Option (Int32 × Mem) :=
  nm (si (si M 0 31 0) 0 27 0) fun N1 =>
  bd (X_Model_firstDraft n N1) fun _ M3 =>
  bd (X_Model_next n M3) fun _ M5 =>
  X_Model_text_L20 n (fun y8 M9 => nm (fun (M10 : Mem) => (nm (si M10 0 26 0) fun N11 =>
        (if (N11.1 0 31) ≤ 0 then
          bd (X_Model_keepDraft n N11) fun _ M13 =>
          some (y8, M13)
          else
          some ((((-10) : Int32) - (N11.1 0 32)), N11)) : Option (Int32 × Mem))) fun k83 =>
    (if (M9.1 0 31) = 0 then
      nm (fun (u14 : Int32) => (bd (X_Model_needs n u14 6 M9) fun _ M16 =>
          bd (X_Model_isHeld n M16) fun r17 M18 =>
          bd (X_Model_needs n r17 7 M18) fun _ M20 =>
          k83 M20 : Option (Int32 × Mem))) fun k68 =>
      (if (M9.1 0 12) ≤ (M9.1 0 17) then
        k68 0
        else
        k68 1)
      else
      k83 M9)) n 0 M5
set_option maxRecDepth 20000 in
set_option maxHeartbeats 4000000 in
theorem X_Model_text_L20_ok {n : Nat} {kx44 : Int32 → Mem → Option (Int32 × Mem)} (hkx44 : ∀ (w1 : Int32) (M : Mem), J (mt_Model_text) wI 44 [(0, Value.ref 0), (1, Value.int w1)] [] M (kx44 w1 M)) : ∀ (m : Nat) (v1 : Int32) (M : Mem), J (mt_Model_text) wI 20 [(0, Value.ref 0), (1, Value.int v1)] [] M (X_Model_text_L20 n kx44 m v1 M) := by
  intro m
  induction m with
  | zero => intro _ _; exact j_none
  | succ m ih =>
    intro v1 M
    show J _ _ _ _ _ _ ((if (M.1 0 31) = 0 then
(if (M.1 0 29) = 0 then
kx44 v1 M
else
bd (X_Model_readLine n M) fun _ M7 =>
X_Model_text_L20 n kx44 m (v1 + 1) M7)
else
kx44 v1 M))
    refine j_aload_n (pc := 20) (q := 0) d_Model_text_20 rfl rfl ?_
    refine j_getI (pc := 21) d_Model_text_21 fl_Model_147 sm_0 (by decide) rfl ?_
    refine j_if_ne (pc := 24) (tgt := 44) d_Model_text_24 (by decide) (fun _ => ?_) (fun _ => ?_)
    · exact hkx44 v1 M
    · refine j_aload_n (pc := 27) (q := 0) d_Model_text_27 rfl rfl ?_
      refine j_getI (pc := 28) d_Model_text_28 fl_Model_167 sm_0 (by decide) rfl ?_
      refine j_if_eq (pc := 31) (tgt := 44) d_Model_text_31 (by decide) (fun _ => ?_) (fun _ => ?_)
      · exact hkx44 v1 M
      · refine j_aload_n (pc := 34) (q := 0) d_Model_text_34 rfl rfl ?_
        refine j_callV0 (pc := 35) d_Model_text_35 (C_Model_readLine n M) cV_Model_214 cd_Model_readLine dn_Model_readLine rfl (by decide) (Nat.le_of_ble_eq_true rfl) (Nat.le_of_ble_eq_true rfl) nr_U sm_0 (by decide) rfl (fun r6 M7 => ?_)
        refine j_iinc (pc := 38) (q := 1) d_Model_text_38 rfl (congrArg (v1 + ·) k_i_1) (by decide) rfl ?_
        refine j_goto (pc := 41) (tgt := 20) d_Model_text_41 (by decide) ?_
        refine j_lv [1, 0] rfl ?_
        exact ih (v1 + 1) M7
set_option maxRecDepth 20000 in
set_option maxHeartbeats 4000000 in
theorem C_Model_text (n : Nat)    (M : Mem) : Ct y_Model_text mt_Model_text wI [Value.ref 0] M (X_Model_text n M) := by
  refine ct_of (by decide +kernel) rfl (Nat.le_of_ble_eq_true rfl) ?_
  show J _ _ _ [(0, Value.ref 0)] _ _ _
  unfold X_Model_text
  refine j_iconst (pc := 0) d_Model_text_0 k_i_0 ?_
  refine j_istore_n (pc := 1) d_Model_text_1 rfl (by decide) rfl ?_
  refine j_aload_n (pc := 2) (q := 1) d_Model_text_2 rfl rfl ?_
  refine j_iconst (pc := 3) d_Model_text_3 k_i_0 ?_
  refine j_putI (pc := 4) d_Model_text_4 fl_Model_147 rfl sm_0 (by decide) rfl ?_
  refine j_aload_n (pc := 7) (q := 1) d_Model_text_7 rfl rfl ?_
  refine j_iconst (pc := 8) d_Model_text_8 k_i_0 ?_
  refine j_putI (pc := 9) d_Model_text_9 fl_Model_156 rfl sm_0 (by decide) rfl ?_
  refine j_aload_n (pc := 12) (q := 1) d_Model_text_12 rfl rfl ?_
  refine j_nmM (fun N1 => ?_)
  refine j_callV0 (pc := 13) d_Model_text_13 (C_Model_firstDraft n N1) cV_Model_91 cd_Model_firstDraft dn_Model_firstDraft rfl (by decide) (Nat.le_of_ble_eq_true rfl) (Nat.le_of_ble_eq_true rfl) nr_U sm_0 (by decide) rfl (fun r2 M3 => ?_)
  refine j_aload_n (pc := 16) (q := 1) d_Model_text_16 rfl rfl ?_
  refine j_callV0 (pc := 17) d_Model_text_17 (C_Model_next n M3) cV_Model_188 cd_Model_next dn_Model_next rfl (by decide) (Nat.le_of_ble_eq_true rfl) (Nat.le_of_ble_eq_true rfl) nr_U sm_0 (by decide) rfl (fun r4 M5 => ?_)
  refine j_lv [1, 0] rfl ?_
  refine X_Model_text_L20_ok  (fun y8 M9 => ?_) n 0 M5
  refine j_aload_n (pc := 44) (q := 0) d_Model_text_44 rfl rfl ?_
  refine j_getI (pc := 45) d_Model_text_45 fl_Model_147 sm_0 (by decide) rfl ?_
  refine j_nmk (fun k => ∀ (M10 : Mem), J (mt_Model_text) wI 83 [(0, Value.ref 0), (1, Value.int y8)] [] M10 (k M10)) (fun M10 => ?_) (fun k83 hk83 => ?_)
  · refine j_aload_n (pc := 83) (q := 0) d_Model_text_83 rfl rfl ?_
    refine j_iconst (pc := 84) d_Model_text_84 k_i_0 ?_
    refine j_putI (pc := 85) d_Model_text_85 fl_Model_138 rfl sm_0 (by decide) rfl ?_
    refine j_aload_n (pc := 88) (q := 0) d_Model_text_88 rfl rfl ?_
    refine j_nmM (fun N11 => ?_)
    refine j_getI (pc := 89) d_Model_text_89 fl_Model_147 sm_0 (by decide) rfl ?_
    refine j_if_le (pc := 92) (tgt := 103) d_Model_text_92 (by decide) (fun _ => ?_) (fun _ => ?_)
    · refine j_aload_n (pc := 103) (q := 0) d_Model_text_103 rfl rfl ?_
      refine j_callV0 (pc := 104) d_Model_text_104 (C_Model_keepDraft n N11) cV_Model_94 cd_Model_keepDraft dn_Model_keepDraft rfl (by decide) (Nat.le_of_ble_eq_true rfl) (Nat.le_of_ble_eq_true rfl) nr_U sm_0 (by decide) rfl (fun r12 M13 => ?_)
      refine j_iload_n (pc := 107) (q := 1) d_Model_text_107 rfl rfl ?_
      exact j_ireturn (pc := 108) d_Model_text_108 rfl
    · refine j_bipush (pc := 95) d_Model_text_95 k_b_m10 ?_
      refine j_aload_n (pc := 97) (q := 0) d_Model_text_97 rfl rfl ?_
      refine j_getI (pc := 98) d_Model_text_98 fl_Model_153 sm_0 (by decide) rfl ?_
      refine j_isub (pc := 101) d_Model_text_101 ?_
      exact j_ireturn (pc := 102) d_Model_text_102 rfl
  · refine j_if_ne (pc := 48) (tgt := 83) d_Model_text_48 (by decide) (fun _ => ?_) (fun _ => ?_)
    · exact hk83 M9
    · refine j_aload_n (pc := 51) (q := 0) d_Model_text_51 rfl rfl ?_
      refine j_aload_n (pc := 52) (q := 0) d_Model_text_52 rfl rfl ?_
      refine j_getI (pc := 53) d_Model_text_53 fl_Model_113 sm_0 (by decide) rfl ?_
      refine j_aload_n (pc := 56) (q := 0) d_Model_text_56 rfl rfl ?_
      refine j_getI (pc := 57) d_Model_text_57 fl_Model_97 sm_0 (by decide) rfl ?_
      refine j_nmk (fun k => ∀ (u14 : Int32), J (mt_Model_text) wI 68 [(0, Value.ref 0), (1, Value.int y8)] [Value.int u14, Value.ref 0] M9 (k u14)) (fun u14 => ?_) (fun k68 hk68 => ?_)
      · refine j_bipush (pc := 68) d_Model_text_68 k_b_6 ?_
        refine j_callV2 (pc := 70) d_Model_text_70 (C_Model_needs n u14 6 M9) cV_Model_181 cd_Model_needs dn_Model_needs rfl (by decide) (Nat.le_of_ble_eq_true rfl) (Nat.le_of_ble_eq_true rfl) nr_U sm_0 (by decide) rfl (fun r15 M16 => ?_)
        refine j_aload_n (pc := 73) (q := 0) d_Model_text_73 rfl rfl ?_
        refine j_aload_n (pc := 74) (q := 0) d_Model_text_74 rfl rfl ?_
        refine j_callV0 (pc := 75) d_Model_text_75 (C_Model_isHeld n M16) cV_Model_217 cd_Model_isHeld dn_Model_isHeld rfl (by decide) (Nat.le_of_ble_eq_true rfl) (Nat.le_of_ble_eq_true rfl) nr_I sm_0 (by decide) rfl (fun r17 M18 => ?_)
        refine j_bipush (pc := 78) d_Model_text_78 k_b_7 ?_
        refine j_callV2 (pc := 80) d_Model_text_80 (C_Model_needs n r17 7 M18) cV_Model_181 cd_Model_needs dn_Model_needs rfl (by decide) (Nat.le_of_ble_eq_true rfl) (Nat.le_of_ble_eq_true rfl) nr_U sm_0 (by decide) rfl (fun r19 M20 => ?_)
        exact hk83 M20
      · refine j_icmp_ge (pc := 60) (tgt := 67) d_Model_text_60 (by decide) (fun _ => ?_) (fun _ => ?_)
        · refine j_iconst (pc := 67) d_Model_text_67 k_i_0 ?_
          exact hk68 0
        · refine j_iconst (pc := 63) d_Model_text_63 k_i_1 ?_
          refine j_goto (pc := 64) (tgt := 68) d_Model_text_64 (by decide) ?_
          exact hk68 1
-- Model.fault ()I
def mt_Model_fault : Mt := ("ShakeHandsModel", b_Model_fault, 1, some .int, 2, SHm)
theorem d_Model_fault_0 : decode b_Model_fault 0 = .ok (.aload_n 0, 1) := by decide +kernel
theorem d_Model_fault_1 : decode b_Model_fault 1 = .ok (.getfield 147, 3) := by decide +kernel
theorem d_Model_fault_4 : decode b_Model_fault 4 = .ok (.ireturn, 1) := by decide +kernel
def X_Model_fault (n : Nat) (M : Mem) : Option (Int32 × Mem) :=
  some ((M.1 0 31), M)
set_option maxRecDepth 20000 in
set_option maxHeartbeats 4000000 in
theorem C_Model_fault (n : Nat)    (M : Mem) : Ct y_Model_fault mt_Model_fault wI [Value.ref 0] M (X_Model_fault n M) := by
  refine ct_of (by decide +kernel) rfl (Nat.le_of_ble_eq_true rfl) ?_
  show J _ _ _ [(0, Value.ref 0)] _ _ _
  unfold X_Model_fault
  refine j_aload_n (pc := 0) (q := 0) d_Model_fault_0 rfl rfl ?_
  refine j_getI (pc := 1) d_Model_fault_1 fl_Model_147 sm_0 (by decide) rfl ?_
  exact j_ireturn (pc := 4) d_Model_fault_4 rfl
-- Model.bitsOf (I)I
def mt_Model_bitsOf : Mt := ("ShakeHandsModel", b_Model_bitsOf, 3, some .int, 2, SHm)
theorem d_Model_bitsOf_0 : decode b_Model_bitsOf 0 = .ok (.iconst 0, 1) := by decide +kernel
theorem d_Model_bitsOf_1 : decode b_Model_bitsOf 1 = .ok (.istore_n 1, 1) := by decide +kernel
theorem d_Model_bitsOf_2 : decode b_Model_bitsOf 2 = .ok (.iconst 0, 1) := by decide +kernel
theorem d_Model_bitsOf_3 : decode b_Model_bitsOf 3 = .ok (.istore_n 2, 1) := by decide +kernel
theorem d_Model_bitsOf_4 : decode b_Model_bitsOf 4 = .ok (.iload_n 2, 1) := by decide +kernel
theorem d_Model_bitsOf_5 : decode b_Model_bitsOf 5 = .ok (.bipush 16, 2) := by decide +kernel
theorem d_Model_bitsOf_7 : decode b_Model_bitsOf 7 = .ok (.if_icmp .ge 17, 3) := by decide +kernel
theorem d_Model_bitsOf_10 : decode b_Model_bitsOf 10 = .ok (.iload_n 1, 1) := by decide +kernel
theorem d_Model_bitsOf_11 : decode b_Model_bitsOf 11 = .ok (.iload_n 0, 1) := by decide +kernel
theorem d_Model_bitsOf_12 : decode b_Model_bitsOf 12 = .ok (.iload_n 2, 1) := by decide +kernel
theorem d_Model_bitsOf_13 : decode b_Model_bitsOf 13 = .ok (.ishr, 1) := by decide +kernel
theorem d_Model_bitsOf_14 : decode b_Model_bitsOf 14 = .ok (.iconst 1, 1) := by decide +kernel
theorem d_Model_bitsOf_15 : decode b_Model_bitsOf 15 = .ok (.iand, 1) := by decide +kernel
theorem d_Model_bitsOf_16 : decode b_Model_bitsOf 16 = .ok (.iadd, 1) := by decide +kernel
theorem d_Model_bitsOf_17 : decode b_Model_bitsOf 17 = .ok (.istore_n 1, 1) := by decide +kernel
theorem d_Model_bitsOf_18 : decode b_Model_bitsOf 18 = .ok (.iinc 2 1, 3) := by decide +kernel
theorem d_Model_bitsOf_21 : decode b_Model_bitsOf 21 = .ok (.goto (-17), 3) := by decide +kernel
theorem d_Model_bitsOf_24 : decode b_Model_bitsOf 24 = .ok (.iload_n 1, 1) := by decide +kernel
theorem d_Model_bitsOf_25 : decode b_Model_bitsOf 25 = .ok (.ireturn, 1) := by decide +kernel
def X_Model_bitsOf_L4 (n : Nat) (a0 : Int32) (M : Mem) : Nat → Int32 → Int32 → Option (Int32 × Mem)
    | 0, _, _ => none
    | m + 1, v1, v2 => (if 16 ≤ v2 then
    some (v1, M)
    else
    nm (v1 + ((a0 >>> (v2 &&& 31)) &&& 1)) fun x1 =>
    X_Model_bitsOf_L4 n a0 M m x1 (v2 + 1))
def X_Model_bitsOf (n : Nat) (p0 : Int32) (M : Mem) : Option (Int32 × Mem) :=
  X_Model_bitsOf_L4 n p0 M n 0 0
set_option maxRecDepth 20000 in
set_option maxHeartbeats 4000000 in
theorem X_Model_bitsOf_L4_ok {n : Nat} {a0 : Int32} {M : Mem} : ∀ (m : Nat) (v1 : Int32) (v2 : Int32), J (mt_Model_bitsOf) wI 4 [(0, Value.int a0), (1, Value.int v1), (2, Value.int v2)] [] M (X_Model_bitsOf_L4 n a0 M m v1 v2) := by
  intro m
  induction m with
  | zero => intro _ _; exact j_none
  | succ m ih =>
    intro v1 v2
    show J _ _ _ _ _ _ ((if 16 ≤ v2 then
some (v1, M)
else
nm (v1 + ((a0 >>> (v2 &&& 31)) &&& 1)) fun x1 =>
X_Model_bitsOf_L4 n a0 M m x1 (v2 + 1)))
    refine j_iload_n (pc := 4) (q := 2) d_Model_bitsOf_4 rfl rfl ?_
    refine j_bipush (pc := 5) d_Model_bitsOf_5 k_b_16 ?_
    refine j_icmp_ge (pc := 7) (tgt := 24) d_Model_bitsOf_7 (by decide) (fun _ => ?_) (fun _ => ?_)
    · refine j_iload_n (pc := 24) (q := 1) d_Model_bitsOf_24 rfl rfl ?_
      exact j_ireturn (pc := 25) d_Model_bitsOf_25 rfl
    · refine j_iload_n (pc := 10) (q := 1) d_Model_bitsOf_10 rfl rfl ?_
      refine j_iload_n (pc := 11) (q := 0) d_Model_bitsOf_11 rfl rfl ?_
      refine j_iload_n (pc := 12) (q := 2) d_Model_bitsOf_12 rfl rfl ?_
      refine j_ishr (pc := 13) d_Model_bitsOf_13 ?_
      refine j_iconst (pc := 14) d_Model_bitsOf_14 k_i_1 ?_
      refine j_iand (pc := 15) d_Model_bitsOf_15 ?_
      refine j_iadd (pc := 16) d_Model_bitsOf_16 ?_
      refine j_nmi (fun x1 => ?_)
      refine j_istore_n (pc := 17) d_Model_bitsOf_17 rfl (by decide) rfl ?_
      refine j_iinc (pc := 18) (q := 2) d_Model_bitsOf_18 rfl (congrArg (v2 + ·) k_i_1) (by decide) rfl ?_
      refine j_goto (pc := 21) (tgt := 4) d_Model_bitsOf_21 (by decide) ?_
      refine j_lv [2, 1, 0] rfl ?_
      exact ih x1 (v2 + 1)
set_option maxRecDepth 20000 in
set_option maxHeartbeats 4000000 in
theorem C_Model_bitsOf (n : Nat)   (p0 : Int32) (M : Mem) : Ct y_Model_bitsOf mt_Model_bitsOf wI [Value.int p0] M (X_Model_bitsOf n p0 M) := by
  refine ct_of (by decide +kernel) rfl (Nat.le_of_ble_eq_true rfl) ?_
  show J _ _ _ [(0, Value.int p0)] _ _ _
  unfold X_Model_bitsOf
  refine j_iconst (pc := 0) d_Model_bitsOf_0 k_i_0 ?_
  refine j_istore_n (pc := 1) d_Model_bitsOf_1 rfl (by decide) rfl ?_
  refine j_iconst (pc := 2) d_Model_bitsOf_2 k_i_0 ?_
  refine j_istore_n (pc := 3) d_Model_bitsOf_3 rfl (by decide) rfl ?_
  refine j_lv [2, 1, 0] rfl ?_
  exact X_Model_bitsOf_L4_ok   n 0 0
-- Model.worn ()I
def mt_Model_worn : Mt := ("ShakeHandsModel", b_Model_worn, 3, some .int, 2, SHm)
theorem d_Model_worn_0 : decode b_Model_worn 0 = .ok (.iconst 0, 1) := by decide +kernel
theorem d_Model_worn_1 : decode b_Model_worn 1 = .ok (.istore_n 1, 1) := by decide +kernel
theorem d_Model_worn_2 : decode b_Model_worn 2 = .ok (.iconst 0, 1) := by decide +kernel
theorem d_Model_worn_3 : decode b_Model_worn 3 = .ok (.istore_n 2, 1) := by decide +kernel
theorem d_Model_worn_4 : decode b_Model_worn 4 = .ok (.iload_n 2, 1) := by decide +kernel
theorem d_Model_worn_5 : decode b_Model_worn 5 = .ok (.aload_n 0, 1) := by decide +kernel
theorem d_Model_worn_6 : decode b_Model_worn 6 = .ok (.getfield 119, 3) := by decide +kernel
theorem d_Model_worn_9 : decode b_Model_worn 9 = .ok (.if_icmp .ge 23, 3) := by decide +kernel
theorem d_Model_worn_12 : decode b_Model_worn 12 = .ok (.iload_n 1, 1) := by decide +kernel
theorem d_Model_worn_13 : decode b_Model_worn 13 = .ok (.aload_n 0, 1) := by decide +kernel
theorem d_Model_worn_14 : decode b_Model_worn 14 = .ok (.getfield 7, 3) := by decide +kernel
theorem d_Model_worn_17 : decode b_Model_worn 17 = .ok (.bipush 60, 2) := by decide +kernel
theorem d_Model_worn_19 : decode b_Model_worn 19 = .ok (.iload_n 2, 1) := by decide +kernel
theorem d_Model_worn_20 : decode b_Model_worn 20 = .ok (.iadd, 1) := by decide +kernel
theorem d_Model_worn_21 : decode b_Model_worn 21 = .ok (.iaload, 1) := by decide +kernel
theorem d_Model_worn_22 : decode b_Model_worn 22 = .ok (.iload_n 2, 1) := by decide +kernel
theorem d_Model_worn_23 : decode b_Model_worn 23 = .ok (.ishl, 1) := by decide +kernel
theorem d_Model_worn_24 : decode b_Model_worn 24 = .ok (.ior, 1) := by decide +kernel
theorem d_Model_worn_25 : decode b_Model_worn 25 = .ok (.istore_n 1, 1) := by decide +kernel
theorem d_Model_worn_26 : decode b_Model_worn 26 = .ok (.iinc 2 1, 3) := by decide +kernel
theorem d_Model_worn_29 : decode b_Model_worn 29 = .ok (.goto (-25), 3) := by decide +kernel
theorem d_Model_worn_32 : decode b_Model_worn 32 = .ok (.iload_n 1, 1) := by decide +kernel
theorem d_Model_worn_33 : decode b_Model_worn 33 = .ok (.ireturn, 1) := by decide +kernel
def X_Model_worn_L4 (n : Nat) (M : Mem) : Nat → Int32 → Int32 → Option (Int32 × Mem)
    | 0, _, _ => none
    | m + 1, v1, v2 => (if (M.1 0 2) ≤ v2 then
    some (v1, M)
    else
    gd ((60 : Int32) + v2) 234 (
      nm (v1 ||| ((M.1 1 ((60 : Int32) + v2).toNatClampNeg) <<< (v2 &&& 31))) fun x1 =>
      X_Model_worn_L4 n M m x1 (v2 + 1)))
def X_Model_worn (n : Nat) (M : Mem) : Option (Int32 × Mem) :=
  X_Model_worn_L4 n M n 0 0
set_option maxRecDepth 20000 in
set_option maxHeartbeats 4000000 in
theorem X_Model_worn_L4_ok {n : Nat} {M : Mem} : ∀ (m : Nat) (v1 : Int32) (v2 : Int32), J (mt_Model_worn) wI 4 [(0, Value.ref 0), (1, Value.int v1), (2, Value.int v2)] [] M (X_Model_worn_L4 n M m v1 v2) := by
  intro m
  induction m with
  | zero => intro _ _; exact j_none
  | succ m ih =>
    intro v1 v2
    show J _ _ _ _ _ _ ((if (M.1 0 2) ≤ v2 then
some (v1, M)
else
gd ((60 : Int32) + v2) 234 (
nm (v1 ||| ((M.1 1 ((60 : Int32) + v2).toNatClampNeg) <<< (v2 &&& 31))) fun x1 =>
X_Model_worn_L4 n M m x1 (v2 + 1))))
    refine j_iload_n (pc := 4) (q := 2) d_Model_worn_4 rfl rfl ?_
    refine j_aload_n (pc := 5) (q := 0) d_Model_worn_5 rfl rfl ?_
    refine j_getI (pc := 6) d_Model_worn_6 fl_Model_119 sm_0 (by decide) rfl ?_
    refine j_icmp_ge (pc := 9) (tgt := 32) d_Model_worn_9 (by decide) (fun _ => ?_) (fun _ => ?_)
    · refine j_iload_n (pc := 32) (q := 1) d_Model_worn_32 rfl rfl ?_
      exact j_ireturn (pc := 33) d_Model_worn_33 rfl
    · refine j_iload_n (pc := 12) (q := 1) d_Model_worn_12 rfl rfl ?_
      refine j_aload_n (pc := 13) (q := 0) d_Model_worn_13 rfl rfl ?_
      refine j_getA (pc := 14) d_Model_worn_14 fl_Model_7 sm_0 (by decide) rfl ?_
      refine j_bipush (pc := 17) d_Model_worn_17 k_b_60 ?_
      refine j_iload_n (pc := 19) (q := 2) d_Model_worn_19 rfl rfl ?_
      refine j_iadd (pc := 20) d_Model_worn_20 ?_
      refine j_iald (pc := 21) d_Model_worn_21 sm_1 (fun _ => ?_)
      refine j_iload_n (pc := 22) (q := 2) d_Model_worn_22 rfl rfl ?_
      refine j_ishl (pc := 23) d_Model_worn_23 ?_
      refine j_ior (pc := 24) d_Model_worn_24 ?_
      refine j_nmi (fun x1 => ?_)
      refine j_istore_n (pc := 25) d_Model_worn_25 rfl (by decide) rfl ?_
      refine j_iinc (pc := 26) (q := 2) d_Model_worn_26 rfl (congrArg (v2 + ·) k_i_1) (by decide) rfl ?_
      refine j_goto (pc := 29) (tgt := 4) d_Model_worn_29 (by decide) ?_
      refine j_lv [2, 1, 0] rfl ?_
      exact ih x1 (v2 + 1)
set_option maxRecDepth 20000 in
set_option maxHeartbeats 4000000 in
theorem C_Model_worn (n : Nat)    (M : Mem) : Ct y_Model_worn mt_Model_worn wI [Value.ref 0] M (X_Model_worn n M) := by
  refine ct_of (by decide +kernel) rfl (Nat.le_of_ble_eq_true rfl) ?_
  show J _ _ _ [(0, Value.ref 0)] _ _ _
  unfold X_Model_worn
  refine j_iconst (pc := 0) d_Model_worn_0 k_i_0 ?_
  refine j_istore_n (pc := 1) d_Model_worn_1 rfl (by decide) rfl ?_
  refine j_iconst (pc := 2) d_Model_worn_2 k_i_0 ?_
  refine j_istore_n (pc := 3) d_Model_worn_3 rfl (by decide) rfl ?_
  refine j_lv [2, 1, 0] rfl ?_
  exact X_Model_worn_L4_ok   n 0 0
-- Model.rule (I)I
def mt_Model_rule : Mt := ("ShakeHandsModel", b_Model_rule, 2, some .int, 3, SHm)
theorem d_Model_rule_0 : decode b_Model_rule 0 = .ok (.iload_n 1, 1) := by decide +kernel
theorem d_Model_rule_1 : decode b_Model_rule 1 = .ok (.tableswitch 72 0 5 #[39, 44, 49, 54, 59, 64], 39) := by decide +kernel
theorem d_Model_rule_40 : decode b_Model_rule 40 = .ok (.aload_n 0, 1) := by decide +kernel
theorem d_Model_rule_41 : decode b_Model_rule 41 = .ok (.getfield 119, 3) := by decide +kernel
theorem d_Model_rule_44 : decode b_Model_rule 44 = .ok (.ireturn, 1) := by decide +kernel
theorem d_Model_rule_45 : decode b_Model_rule 45 = .ok (.aload_n 0, 1) := by decide +kernel
theorem d_Model_rule_46 : decode b_Model_rule 46 = .ok (.getfield 122, 3) := by decide +kernel
theorem d_Model_rule_49 : decode b_Model_rule 49 = .ok (.ireturn, 1) := by decide +kernel
theorem d_Model_rule_50 : decode b_Model_rule 50 = .ok (.aload_n 0, 1) := by decide +kernel
theorem d_Model_rule_51 : decode b_Model_rule 51 = .ok (.getfield 125, 3) := by decide +kernel
theorem d_Model_rule_54 : decode b_Model_rule 54 = .ok (.ireturn, 1) := by decide +kernel
theorem d_Model_rule_55 : decode b_Model_rule 55 = .ok (.aload_n 0, 1) := by decide +kernel
theorem d_Model_rule_56 : decode b_Model_rule 56 = .ok (.getfield 128, 3) := by decide +kernel
theorem d_Model_rule_59 : decode b_Model_rule 59 = .ok (.ireturn, 1) := by decide +kernel
theorem d_Model_rule_60 : decode b_Model_rule 60 = .ok (.aload_n 0, 1) := by decide +kernel
theorem d_Model_rule_61 : decode b_Model_rule 61 = .ok (.getfield 131, 3) := by decide +kernel
theorem d_Model_rule_64 : decode b_Model_rule 64 = .ok (.ireturn, 1) := by decide +kernel
theorem d_Model_rule_65 : decode b_Model_rule 65 = .ok (.aload_n 0, 1) := by decide +kernel
theorem d_Model_rule_66 : decode b_Model_rule 66 = .ok (.invokevirtual 221, 3) := by decide +kernel
theorem d_Model_rule_69 : decode b_Model_rule 69 = .ok (.invokestatic 224, 3) := by decide +kernel
theorem d_Model_rule_72 : decode b_Model_rule 72 = .ok (.ireturn, 1) := by decide +kernel
theorem d_Model_rule_73 : decode b_Model_rule 73 = .ok (.iconst (-1), 1) := by decide +kernel
theorem d_Model_rule_74 : decode b_Model_rule 74 = .ok (.ireturn, 1) := by decide +kernel
def X_Model_rule (n : Nat) (p1 : Int32) (M : Mem) : Option (Int32 × Mem) :=
  (if p1 = 0 then
    some ((M.1 0 2), M)
    else
    (if p1 = 1 then
      some ((M.1 0 3), M)
      else
      (if p1 = 2 then
        some ((M.1 0 4), M)
        else
        (if p1 = 3 then
          some ((M.1 0 5), M)
          else
          (if p1 = 4 then
            some ((M.1 0 6), M)
            else
            (if p1 = 5 then
              bd (X_Model_worn n M) fun r1 M2 =>
              bd (X_Model_bitsOf n r1 M2) fun r3 M4 =>
              some (r3, M4)
              else
              some ((-1), M)))))))
set_option maxRecDepth 20000 in
set_option maxHeartbeats 4000000 in
theorem C_Model_rule (n : Nat)   (p1 : Int32) (M : Mem) : Ct y_Model_rule mt_Model_rule wI [Value.ref 0, Value.int p1] M (X_Model_rule n p1 M) := by
  refine ct_of (by decide +kernel) rfl (Nat.le_of_ble_eq_true rfl) ?_
  show J _ _ _ [(0, Value.ref 0), (1, Value.int p1)] _ _ _
  unfold X_Model_rule
  refine j_iload_n (pc := 0) (q := 1) d_Model_rule_0 rfl rfl ?_
  refine j_split (fun h0 => ?_) (fun h0 => ?_)
  · refine j_tableIn (pc := 1) (tgt := 40) d_Model_rule_1 0 h0 (by decide) (by decide) rfl (by decide) ?_
    refine j_aload_n (pc := 40) (q := 0) d_Model_rule_40 rfl rfl ?_
    refine j_getI (pc := 41) d_Model_rule_41 fl_Model_119 sm_0 (by decide) rfl ?_
    exact j_ireturn (pc := 44) d_Model_rule_44 rfl
  · refine j_split (fun h1 => ?_) (fun h1 => ?_)
    · refine j_tableIn (tgt := 45) d_Model_rule_1 1 h1 (by decide) (by decide) rfl (by decide) ?_
      refine j_aload_n (pc := 45) (q := 0) d_Model_rule_45 rfl rfl ?_
      refine j_getI (pc := 46) d_Model_rule_46 fl_Model_122 sm_0 (by decide) rfl ?_
      exact j_ireturn (pc := 49) d_Model_rule_49 rfl
    · refine j_split (fun h2 => ?_) (fun h2 => ?_)
      · refine j_tableIn (tgt := 50) d_Model_rule_1 2 h2 (by decide) (by decide) rfl (by decide) ?_
        refine j_aload_n (pc := 50) (q := 0) d_Model_rule_50 rfl rfl ?_
        refine j_getI (pc := 51) d_Model_rule_51 fl_Model_125 sm_0 (by decide) rfl ?_
        exact j_ireturn (pc := 54) d_Model_rule_54 rfl
      · refine j_split (fun h3 => ?_) (fun h3 => ?_)
        · refine j_tableIn (tgt := 55) d_Model_rule_1 3 h3 (by decide) (by decide) rfl (by decide) ?_
          refine j_aload_n (pc := 55) (q := 0) d_Model_rule_55 rfl rfl ?_
          refine j_getI (pc := 56) d_Model_rule_56 fl_Model_128 sm_0 (by decide) rfl ?_
          exact j_ireturn (pc := 59) d_Model_rule_59 rfl
        · refine j_split (fun h4 => ?_) (fun h4 => ?_)
          · refine j_tableIn (tgt := 60) d_Model_rule_1 4 h4 (by decide) (by decide) rfl (by decide) ?_
            refine j_aload_n (pc := 60) (q := 0) d_Model_rule_60 rfl rfl ?_
            refine j_getI (pc := 61) d_Model_rule_61 fl_Model_131 sm_0 (by decide) rfl ?_
            exact j_ireturn (pc := 64) d_Model_rule_64 rfl
          · refine j_split (fun h5 => ?_) (fun h5 => ?_)
            · refine j_tableIn (tgt := 65) d_Model_rule_1 5 h5 (by decide) (by decide) rfl (by decide) ?_
              refine j_aload_n (pc := 65) (q := 0) d_Model_rule_65 rfl rfl ?_
              refine j_callV0 (pc := 66) d_Model_rule_66 (C_Model_worn n M) cV_Model_221 cd_Model_worn dn_Model_worn rfl (by decide) (Nat.le_of_ble_eq_true rfl) (Nat.le_of_ble_eq_true rfl) nr_I sm_0 (by decide) rfl (fun r1 M2 => ?_)
              refine j_callS1 (pc := 69) d_Model_rule_69 (C_Model_bitsOf n r1 M2) cS_Model_224 cd_Model_bitsOf dn_Model_bitsOf rfl (by decide) (Nat.le_of_ble_eq_true rfl) (Nat.le_of_ble_eq_true rfl) nr_I (fun r3 M4 => ?_)
              exact j_ireturn (pc := 72) d_Model_rule_72 rfl
            · refine j_tableOut (tgt := 73) d_Model_rule_1 ?_ (by decide) ?_
              · have e := sw_out5 h0 h1 h2 h3 h4 h5
                exact Or.imp (fun h => h) (fun h => h) e
              · refine j_iconst (pc := 73) d_Model_rule_73 k_i_m1 ?_
                exact j_ireturn (pc := 74) d_Model_rule_74 rfl
-- Model.hand (IZ)I
def mt_Model_hand : Mt := ("ShakeHandsModel", b_Model_hand, 3, some .int, 3, SHm)
theorem d_Model_hand_0 : decode b_Model_hand 0 = .ok (.iload_n 1, 1) := by decide +kernel
theorem d_Model_hand_1 : decode b_Model_hand 1 = .ok (.i2l, 1) := by decide +kernel
theorem d_Model_hand_2 : decode b_Model_hand 2 = .ok (.lconst 0, 1) := by decide +kernel
theorem d_Model_hand_3 : decode b_Model_hand 3 = .ok (.iload_n 2, 1) := by decide +kernel
theorem d_Model_hand_4 : decode b_Model_hand 4 = .ok (.ifCond .eq 10, 3) := by decide +kernel
theorem d_Model_hand_7 : decode b_Model_hand 7 = .ok (.aload_n 0, 1) := by decide +kernel
theorem d_Model_hand_8 : decode b_Model_hand 8 = .ok (.getfield 131, 3) := by decide +kernel
theorem d_Model_hand_11 : decode b_Model_hand 11 = .ok (.goto 7, 3) := by decide +kernel
theorem d_Model_hand_14 : decode b_Model_hand 14 = .ok (.aload_n 0, 1) := by decide +kernel
theorem d_Model_hand_15 : decode b_Model_hand 15 = .ok (.getfield 128, 3) := by decide +kernel
theorem d_Model_hand_18 : decode b_Model_hand 18 = .ok (.iconst 1, 1) := by decide +kernel
theorem d_Model_hand_19 : decode b_Model_hand 19 = .ok (.isub, 1) := by decide +kernel
theorem d_Model_hand_20 : decode b_Model_hand 20 = .ok (.i2l, 1) := by decide +kernel
theorem d_Model_hand_21 : decode b_Model_hand 21 = .ok (.invokestatic 143, 3) := by decide +kernel
theorem d_Model_hand_24 : decode b_Model_hand 24 = .ok (.ifCond .ne 7, 3) := by decide +kernel
theorem d_Model_hand_27 : decode b_Model_hand 27 = .ok (.iconst (-1), 1) := by decide +kernel
theorem d_Model_hand_28 : decode b_Model_hand 28 = .ok (.goto 22, 3) := by decide +kernel
theorem d_Model_hand_31 : decode b_Model_hand 31 = .ok (.iload_n 2, 1) := by decide +kernel
theorem d_Model_hand_32 : decode b_Model_hand 32 = .ok (.ifCond .eq 12, 3) := by decide +kernel
theorem d_Model_hand_35 : decode b_Model_hand 35 = .ok (.aload_n 0, 1) := by decide +kernel
theorem d_Model_hand_36 : decode b_Model_hand 36 = .ok (.getfield 23, 3) := by decide +kernel
theorem d_Model_hand_39 : decode b_Model_hand 39 = .ok (.iload_n 1, 1) := by decide +kernel
theorem d_Model_hand_40 : decode b_Model_hand 40 = .ok (.iaload, 1) := by decide +kernel
theorem d_Model_hand_41 : decode b_Model_hand 41 = .ok (.goto 9, 3) := by decide +kernel
theorem d_Model_hand_44 : decode b_Model_hand 44 = .ok (.aload_n 0, 1) := by decide +kernel
theorem d_Model_hand_45 : decode b_Model_hand 45 = .ok (.getfield 20, 3) := by decide +kernel
theorem d_Model_hand_48 : decode b_Model_hand 48 = .ok (.iload_n 1, 1) := by decide +kernel
theorem d_Model_hand_49 : decode b_Model_hand 49 = .ok (.iaload, 1) := by decide +kernel
theorem d_Model_hand_50 : decode b_Model_hand 50 = .ok (.ireturn, 1) := by decide +kernel
def X_Model_hand (n : Nat) (p1 : Int32) (p2 : Int32) (M : Mem) : Option (Int32 × Mem) :=
  nm (fun (u1 : Int32) => (bd (X_Model_in n (p1.toInt64) 0 (((u1 - 1) : Int32).toInt64) M) fun r2 M3 =>
      (if r2 = 0 then
        some ((-1), M3)
        else
        (if p2 = 0 then
          gd p1 16 (
            some ((M3.1 4 p1.toNatClampNeg), M3))
          else
          gd p1 8 (
            some ((M3.1 5 p1.toNatClampNeg), M3)))) : Option (Int32 × Mem))) fun k18 =>
  (if p2 = 0 then
    k18 (M.1 0 5)
    else
    k18 (M.1 0 6))
set_option maxRecDepth 20000 in
set_option maxHeartbeats 4000000 in
theorem C_Model_hand (n : Nat)   (p1 : Int32) (p2 : Int32) (M : Mem) : Ct y_Model_hand mt_Model_hand wI [Value.ref 0, Value.int p1, Value.int p2] M (X_Model_hand n p1 p2 M) := by
  refine ct_of (by decide +kernel) rfl (Nat.le_of_ble_eq_true rfl) ?_
  show J _ _ _ [(0, Value.ref 0), (1, Value.int p1), (2, Value.int p2)] _ _ _
  unfold X_Model_hand
  refine j_iload_n (pc := 0) (q := 1) d_Model_hand_0 rfl rfl ?_
  refine j_i2l (pc := 1) d_Model_hand_1 ?_
  refine j_lconst (pc := 2) d_Model_hand_2 k_l_0 ?_
  refine j_iload_n (pc := 3) (q := 2) d_Model_hand_3 rfl rfl ?_
  refine j_nmk (fun k => ∀ (u1 : Int32), J (mt_Model_hand) wI 18 [(0, Value.ref 0), (1, Value.int p1), (2, Value.int p2)] [Value.int u1, Value.long 0, Value.long (p1.toInt64)] M (k u1)) (fun u1 => ?_) (fun k18 hk18 => ?_)
  · refine j_iconst (pc := 18) d_Model_hand_18 k_i_1 ?_
    refine j_isub (pc := 19) d_Model_hand_19 ?_
    refine j_i2l (pc := 20) d_Model_hand_20 ?_
    refine j_callS3 (pc := 21) d_Model_hand_21 (C_Model_in n (p1.toInt64) 0 (((u1 - 1) : Int32).toInt64) M) cS_Model_143 cd_Model_in dn_Model_in rfl (by decide) (Nat.le_of_ble_eq_true rfl) (Nat.le_of_ble_eq_true rfl) nr_I (fun r2 M3 => ?_)
    refine j_if_ne (pc := 24) (tgt := 31) d_Model_hand_24 (by decide) (fun _ => ?_) (fun _ => ?_)
    · refine j_iload_n (pc := 31) (q := 2) d_Model_hand_31 rfl rfl ?_
      refine j_if_eq (pc := 32) (tgt := 44) d_Model_hand_32 (by decide) (fun _ => ?_) (fun _ => ?_)
      · refine j_aload_n (pc := 44) (q := 0) d_Model_hand_44 rfl rfl ?_
        refine j_getA (pc := 45) d_Model_hand_45 fl_Model_20 sm_0 (by decide) rfl ?_
        refine j_iload_n (pc := 48) (q := 1) d_Model_hand_48 rfl rfl ?_
        refine j_iald (pc := 49) d_Model_hand_49 sm_4 (fun _ => ?_)
        exact j_ireturn (pc := 50) d_Model_hand_50 rfl
      · refine j_aload_n (pc := 35) (q := 0) d_Model_hand_35 rfl rfl ?_
        refine j_getA (pc := 36) d_Model_hand_36 fl_Model_23 sm_0 (by decide) rfl ?_
        refine j_iload_n (pc := 39) (q := 1) d_Model_hand_39 rfl rfl ?_
        refine j_iald (pc := 40) d_Model_hand_40 sm_5 (fun _ => ?_)
        refine j_goto (pc := 41) (tgt := 50) d_Model_hand_41 (by decide) ?_
        exact j_ireturn (pc := 50) d_Model_hand_50 rfl
    · refine j_iconst (pc := 27) d_Model_hand_27 k_i_m1 ?_
      refine j_goto (pc := 28) (tgt := 50) d_Model_hand_28 (by decide) ?_
      exact j_ireturn (pc := 50) d_Model_hand_50 rfl
  · refine j_if_eq (pc := 4) (tgt := 14) d_Model_hand_4 (by decide) (fun _ => ?_) (fun _ => ?_)
    · refine j_aload_n (pc := 14) (q := 0) d_Model_hand_14 rfl rfl ?_
      refine j_getI (pc := 15) d_Model_hand_15 fl_Model_128 sm_0 (by decide) rfl ?_
      exact hk18 (M.1 0 5)
    · refine j_aload_n (pc := 7) (q := 0) d_Model_hand_7 rfl rfl ?_
      refine j_getI (pc := 8) d_Model_hand_8 fl_Model_131 sm_0 (by decide) rfl ?_
      refine j_goto (pc := 11) (tgt := 18) d_Model_hand_11 (by decide) ?_
      exact hk18 (M.1 0 6)
-- Model.join (II)I
def mt_Model_join : Mt := ("ShakeHandsModel", b_Model_join, 3, some .int, 3, SHm)
theorem d_Model_join_0 : decode b_Model_join 0 = .ok (.iload_n 1, 1) := by decide +kernel
theorem d_Model_join_1 : decode b_Model_join 1 = .ok (.i2l, 1) := by decide +kernel
theorem d_Model_join_2 : decode b_Model_join 2 = .ok (.lconst 0, 1) := by decide +kernel
theorem d_Model_join_3 : decode b_Model_join 3 = .ok (.aload_n 0, 1) := by decide +kernel
theorem d_Model_join_4 : decode b_Model_join 4 = .ok (.getfield 125, 3) := by decide +kernel
theorem d_Model_join_7 : decode b_Model_join 7 = .ok (.iconst 1, 1) := by decide +kernel
theorem d_Model_join_8 : decode b_Model_join 8 = .ok (.isub, 1) := by decide +kernel
theorem d_Model_join_9 : decode b_Model_join 9 = .ok (.i2l, 1) := by decide +kernel
theorem d_Model_join_10 : decode b_Model_join 10 = .ok (.invokestatic 143, 3) := by decide +kernel
theorem d_Model_join_13 : decode b_Model_join 13 = .ok (.ifCond .eq 28, 3) := by decide +kernel
theorem d_Model_join_16 : decode b_Model_join 16 = .ok (.iload_n 2, 1) := by decide +kernel
theorem d_Model_join_17 : decode b_Model_join 17 = .ok (.i2l, 1) := by decide +kernel
theorem d_Model_join_18 : decode b_Model_join 18 = .ok (.lconst 0, 1) := by decide +kernel
theorem d_Model_join_19 : decode b_Model_join 19 = .ok (.ldc2_w 227, 3) := by decide +kernel
theorem d_Model_join_22 : decode b_Model_join 22 = .ok (.invokestatic 143, 3) := by decide +kernel
theorem d_Model_join_25 : decode b_Model_join 25 = .ok (.ifCond .eq 16, 3) := by decide +kernel
theorem d_Model_join_28 : decode b_Model_join 28 = .ok (.aload_n 0, 1) := by decide +kernel
theorem d_Model_join_29 : decode b_Model_join 29 = .ok (.getfield 17, 3) := by decide +kernel
theorem d_Model_join_32 : decode b_Model_join 32 = .ok (.iconst 3, 1) := by decide +kernel
theorem d_Model_join_33 : decode b_Model_join 33 = .ok (.iload_n 1, 1) := by decide +kernel
theorem d_Model_join_34 : decode b_Model_join 34 = .ok (.imul, 1) := by decide +kernel
theorem d_Model_join_35 : decode b_Model_join 35 = .ok (.iload_n 2, 1) := by decide +kernel
theorem d_Model_join_36 : decode b_Model_join 36 = .ok (.iadd, 1) := by decide +kernel
theorem d_Model_join_37 : decode b_Model_join 37 = .ok (.iaload, 1) := by decide +kernel
theorem d_Model_join_38 : decode b_Model_join 38 = .ok (.goto 4, 3) := by decide +kernel
theorem d_Model_join_41 : decode b_Model_join 41 = .ok (.iconst (-1), 1) := by decide +kernel
theorem d_Model_join_42 : decode b_Model_join 42 = .ok (.ireturn, 1) := by decide +kernel
def X_Model_join (n : Nat) (p1 : Int32) (p2 : Int32) (M : Mem) : Option (Int32 × Mem) :=
  bd (X_Model_in n (p1.toInt64) 0 ((((M.1 0 4) - 1) : Int32).toInt64) M) fun r1 M2 =>
  (if r1 = 0 then
    some ((-1), M2)
    else
    bd (X_Model_in n (p2.toInt64) 0 2 M2) fun r3 M4 =>
    (if r3 = 0 then
      some ((-1), M4)
      else
      gd (((3 : Int32) * p1) + p2) 12 (
        some ((M4.1 3 (((3 : Int32) * p1) + p2).toNatClampNeg), M4))))
set_option maxRecDepth 20000 in
set_option maxHeartbeats 4000000 in
theorem C_Model_join (n : Nat)   (p1 : Int32) (p2 : Int32) (M : Mem) : Ct y_Model_join mt_Model_join wI [Value.ref 0, Value.int p1, Value.int p2] M (X_Model_join n p1 p2 M) := by
  refine ct_of (by decide +kernel) rfl (Nat.le_of_ble_eq_true rfl) ?_
  show J _ _ _ [(0, Value.ref 0), (1, Value.int p1), (2, Value.int p2)] _ _ _
  unfold X_Model_join
  refine j_iload_n (pc := 0) (q := 1) d_Model_join_0 rfl rfl ?_
  refine j_i2l (pc := 1) d_Model_join_1 ?_
  refine j_lconst (pc := 2) d_Model_join_2 k_l_0 ?_
  refine j_aload_n (pc := 3) (q := 0) d_Model_join_3 rfl rfl ?_
  refine j_getI (pc := 4) d_Model_join_4 fl_Model_125 sm_0 (by decide) rfl ?_
  refine j_iconst (pc := 7) d_Model_join_7 k_i_1 ?_
  refine j_isub (pc := 8) d_Model_join_8 ?_
  refine j_i2l (pc := 9) d_Model_join_9 ?_
  refine j_callS3 (pc := 10) d_Model_join_10 (C_Model_in n (p1.toInt64) 0 ((((M.1 0 4) - 1) : Int32).toInt64) M) cS_Model_143 cd_Model_in dn_Model_in rfl (by decide) (Nat.le_of_ble_eq_true rfl) (Nat.le_of_ble_eq_true rfl) nr_I (fun r1 M2 => ?_)
  refine j_if_eq (pc := 13) (tgt := 41) d_Model_join_13 (by decide) (fun _ => ?_) (fun _ => ?_)
  · refine j_iconst (pc := 41) d_Model_join_41 k_i_m1 ?_
    exact j_ireturn (pc := 42) d_Model_join_42 rfl
  · refine j_iload_n (pc := 16) (q := 2) d_Model_join_16 rfl rfl ?_
    refine j_i2l (pc := 17) d_Model_join_17 ?_
    refine j_lconst (pc := 18) d_Model_join_18 k_l_0 ?_
    refine j_ldc2 (pc := 19) d_Model_join_19 cl_Model_227 ?_
    refine j_callS3 (pc := 22) d_Model_join_22 (C_Model_in n (p2.toInt64) 0 2 M2) cS_Model_143 cd_Model_in dn_Model_in rfl (by decide) (Nat.le_of_ble_eq_true rfl) (Nat.le_of_ble_eq_true rfl) nr_I (fun r3 M4 => ?_)
    refine j_if_eq (pc := 25) (tgt := 41) d_Model_join_25 (by decide) (fun _ => ?_) (fun _ => ?_)
    · refine j_iconst (pc := 41) d_Model_join_41 k_i_m1 ?_
      exact j_ireturn (pc := 42) d_Model_join_42 rfl
    · refine j_aload_n (pc := 28) (q := 0) d_Model_join_28 rfl rfl ?_
      refine j_getA (pc := 29) d_Model_join_29 fl_Model_17 sm_0 (by decide) rfl ?_
      refine j_iconst (pc := 32) d_Model_join_32 k_i_3 ?_
      refine j_iload_n (pc := 33) (q := 1) d_Model_join_33 rfl rfl ?_
      refine j_imul (pc := 34) d_Model_join_34 ?_
      refine j_iload_n (pc := 35) (q := 2) d_Model_join_35 rfl rfl ?_
      refine j_iadd (pc := 36) d_Model_join_36 ?_
      refine j_iald (pc := 37) d_Model_join_37 sm_3 (fun _ => ?_)
      refine j_goto (pc := 38) (tgt := 42) d_Model_join_38 (by decide) ?_
      exact j_ireturn (pc := 42) d_Model_join_42 rfl
-- Model.isOne (I)Z
def mt_Model_isOne : Mt := ("ShakeHandsModel", b_Model_isOne, 2, some .boolean, 3, SHm)
theorem d_Model_isOne_0 : decode b_Model_isOne 0 = .ok (.iload_n 1, 1) := by decide +kernel
theorem d_Model_isOne_1 : decode b_Model_isOne 1 = .ok (.i2l, 1) := by decide +kernel
theorem d_Model_isOne_2 : decode b_Model_isOne 2 = .ok (.lconst 0, 1) := by decide +kernel
theorem d_Model_isOne_3 : decode b_Model_isOne 3 = .ok (.aload_n 0, 1) := by decide +kernel
theorem d_Model_isOne_4 : decode b_Model_isOne 4 = .ok (.getfield 119, 3) := by decide +kernel
theorem d_Model_isOne_7 : decode b_Model_isOne 7 = .ok (.iconst 1, 1) := by decide +kernel
theorem d_Model_isOne_8 : decode b_Model_isOne 8 = .ok (.isub, 1) := by decide +kernel
theorem d_Model_isOne_9 : decode b_Model_isOne 9 = .ok (.i2l, 1) := by decide +kernel
theorem d_Model_isOne_10 : decode b_Model_isOne 10 = .ok (.invokestatic 143, 3) := by decide +kernel
theorem d_Model_isOne_13 : decode b_Model_isOne 13 = .ok (.ireturn, 1) := by decide +kernel
def X_Model_isOne (n : Nat) (p1 : Int32) (M : Mem) : Option (Int32 × Mem) :=
  bd (X_Model_in n (p1.toInt64) 0 ((((M.1 0 2) - 1) : Int32).toInt64) M) fun r1 M2 =>
  zr r1 M2
set_option maxRecDepth 20000 in
set_option maxHeartbeats 4000000 in
theorem C_Model_isOne (n : Nat)   (p1 : Int32) (M : Mem) : Ct y_Model_isOne mt_Model_isOne wI [Value.ref 0, Value.int p1] M (X_Model_isOne n p1 M) := by
  refine ct_of (by decide +kernel) rfl (Nat.le_of_ble_eq_true rfl) ?_
  show J _ _ _ [(0, Value.ref 0), (1, Value.int p1)] _ _ _
  unfold X_Model_isOne
  refine j_iload_n (pc := 0) (q := 1) d_Model_isOne_0 rfl rfl ?_
  refine j_i2l (pc := 1) d_Model_isOne_1 ?_
  refine j_lconst (pc := 2) d_Model_isOne_2 k_l_0 ?_
  refine j_aload_n (pc := 3) (q := 0) d_Model_isOne_3 rfl rfl ?_
  refine j_getI (pc := 4) d_Model_isOne_4 fl_Model_119 sm_0 (by decide) rfl ?_
  refine j_iconst (pc := 7) d_Model_isOne_7 k_i_1 ?_
  refine j_isub (pc := 8) d_Model_isOne_8 ?_
  refine j_i2l (pc := 9) d_Model_isOne_9 ?_
  refine j_callS3 (pc := 10) d_Model_isOne_10 (C_Model_in n (p1.toInt64) 0 ((((M.1 0 2) - 1) : Int32).toInt64) M) cS_Model_143 cd_Model_in dn_Model_in rfl (by decide) (Nat.le_of_ble_eq_true rfl) (Nat.le_of_ble_eq_true rfl) nr_I (fun r1 M2 => ?_)
  exact j_zr (pc := 13) d_Model_isOne_13 rfl
-- Model.begins (I)V
def mt_Model_begins : Mt := ("ShakeHandsModel", b_Model_begins, 3, none, 2, SHm)
theorem d_Model_begins_0 : decode b_Model_begins 0 = .ok (.iconst 0, 1) := by decide +kernel
theorem d_Model_begins_1 : decode b_Model_begins 1 = .ok (.istore_n 2, 1) := by decide +kernel
theorem d_Model_begins_2 : decode b_Model_begins 2 = .ok (.iload_n 2, 1) := by decide +kernel
theorem d_Model_begins_3 : decode b_Model_begins 3 = .ok (.bipush 60, 2) := by decide +kernel
theorem d_Model_begins_5 : decode b_Model_begins 5 = .ok (.if_icmp .ge 26, 3) := by decide +kernel
theorem d_Model_begins_8 : decode b_Model_begins 8 = .ok (.aload_n 0, 1) := by decide +kernel
theorem d_Model_begins_9 : decode b_Model_begins 9 = .ok (.getfield 53, 3) := by decide +kernel
theorem d_Model_begins_12 : decode b_Model_begins 12 = .ok (.bipush 60, 2) := by decide +kernel
theorem d_Model_begins_14 : decode b_Model_begins 14 = .ok (.iload_n 1, 1) := by decide +kernel
theorem d_Model_begins_15 : decode b_Model_begins 15 = .ok (.imul, 1) := by decide +kernel
theorem d_Model_begins_16 : decode b_Model_begins 16 = .ok (.iload_n 2, 1) := by decide +kernel
theorem d_Model_begins_17 : decode b_Model_begins 17 = .ok (.iadd, 1) := by decide +kernel
theorem d_Model_begins_18 : decode b_Model_begins 18 = .ok (.aload_n 0, 1) := by decide +kernel
theorem d_Model_begins_19 : decode b_Model_begins 19 = .ok (.getfield 7, 3) := by decide +kernel
theorem d_Model_begins_22 : decode b_Model_begins 22 = .ok (.iload_n 2, 1) := by decide +kernel
theorem d_Model_begins_23 : decode b_Model_begins 23 = .ok (.iaload, 1) := by decide +kernel
theorem d_Model_begins_24 : decode b_Model_begins 24 = .ok (.iastore, 1) := by decide +kernel
theorem d_Model_begins_25 : decode b_Model_begins 25 = .ok (.iinc 2 1, 3) := by decide +kernel
theorem d_Model_begins_28 : decode b_Model_begins 28 = .ok (.goto (-26), 3) := by decide +kernel
theorem d_Model_begins_31 : decode b_Model_begins 31 = .ok (.return_, 1) := by decide +kernel
def X_Model_begins_L2 (n : Nat) (a1 : Int32) : Nat → Int32 → Mem → Option (Unit × Mem)
    | 0, _, _ => none
    | m + 1, v2, M => (if 60 ≤ v2 then
    some ((), M)
    else
    gd v2 234 (
      gd (((60 : Int32) * a1) + v2) 600 (
        X_Model_begins_L2 n a1 m (v2 + 1) (si M 15 ((((60 : Int32) * a1) + v2).toNatClampNeg) (M.1 1 v2.toNatClampNeg)))))
def X_Model_begins (n : Nat) (p1 : Int32) (M : Mem) : Option (Unit × Mem) :=
  X_Model_begins_L2 n p1 n 0 M
set_option maxRecDepth 20000 in
set_option maxHeartbeats 4000000 in
theorem X_Model_begins_L2_ok {n : Nat} {a1 : Int32} : ∀ (m : Nat) (v2 : Int32) (M : Mem), J (mt_Model_begins) wU 2 [(0, Value.ref 0), (1, Value.int a1), (2, Value.int v2)] [] M (X_Model_begins_L2 n a1 m v2 M) := by
  intro m
  induction m with
  | zero => intro _ _; exact j_none
  | succ m ih =>
    intro v2 M
    show J _ _ _ _ _ _ ((if 60 ≤ v2 then
some ((), M)
else
gd v2 234 (
gd (((60 : Int32) * a1) + v2) 600 (
X_Model_begins_L2 n a1 m (v2 + 1) (si M 15 ((((60 : Int32) * a1) + v2).toNatClampNeg) (M.1 1 v2.toNatClampNeg))))))
    refine j_iload_n (pc := 2) (q := 2) d_Model_begins_2 rfl rfl ?_
    refine j_bipush (pc := 3) d_Model_begins_3 k_b_60 ?_
    refine j_icmp_ge (pc := 5) (tgt := 31) d_Model_begins_5 (by decide) (fun _ => ?_) (fun _ => ?_)
    · exact j_return (pc := 31) d_Model_begins_31 rfl
    · refine j_aload_n (pc := 8) (q := 0) d_Model_begins_8 rfl rfl ?_
      refine j_getA (pc := 9) d_Model_begins_9 fl_Model_53 sm_0 (by decide) rfl ?_
      refine j_bipush (pc := 12) d_Model_begins_12 k_b_60 ?_
      refine j_iload_n (pc := 14) (q := 1) d_Model_begins_14 rfl rfl ?_
      refine j_imul (pc := 15) d_Model_begins_15 ?_
      refine j_iload_n (pc := 16) (q := 2) d_Model_begins_16 rfl rfl ?_
      refine j_iadd (pc := 17) d_Model_begins_17 ?_
      refine j_aload_n (pc := 18) (q := 0) d_Model_begins_18 rfl rfl ?_
      refine j_getA (pc := 19) d_Model_begins_19 fl_Model_7 sm_0 (by decide) rfl ?_
      refine j_iload_n (pc := 22) (q := 2) d_Model_begins_22 rfl rfl ?_
      refine j_iald (pc := 23) d_Model_begins_23 sm_1 (fun _ => ?_)
      refine j_iast (pc := 24) d_Model_begins_24 sm_15 (fun _ => ?_)
      refine j_iinc (pc := 25) (q := 2) d_Model_begins_25 rfl (congrArg (v2 + ·) k_i_1) (by decide) rfl ?_
      refine j_goto (pc := 28) (tgt := 2) d_Model_begins_28 (by decide) ?_
      refine j_lv [1, 2, 0] rfl ?_
      exact ih (v2 + 1) (si M 15 ((((60 : Int32) * a1) + v2).toNatClampNeg) (M.1 1 v2.toNatClampNeg))
set_option maxRecDepth 20000 in
set_option maxHeartbeats 4000000 in
theorem C_Model_begins (n : Nat)   (p1 : Int32) (M : Mem) : Ct y_Model_begins mt_Model_begins wU [Value.ref 0, Value.int p1] M (X_Model_begins n p1 M) := by
  refine ct_of (by decide +kernel) rfl (Nat.le_of_ble_eq_true rfl) ?_
  show J _ _ _ [(0, Value.ref 0), (1, Value.int p1)] _ _ _
  unfold X_Model_begins
  refine j_iconst (pc := 0) d_Model_begins_0 k_i_0 ?_
  refine j_istore_n (pc := 1) d_Model_begins_1 rfl (by decide) rfl ?_
  refine j_lv [1, 2, 0] rfl ?_
  exact X_Model_begins_L2_ok   n 0 M
-- Model.knowsIn (II)I
def mt_Model_knowsIn : Mt := ("ShakeHandsModel", b_Model_knowsIn, 6, some .int, 2, SHm)
theorem d_Model_knowsIn_0 : decode b_Model_knowsIn 0 = .ok (.bipush 60, 2) := by decide +kernel
theorem d_Model_knowsIn_2 : decode b_Model_knowsIn 2 = .ok (.iload_n 1, 1) := by decide +kernel
theorem d_Model_knowsIn_3 : decode b_Model_knowsIn 3 = .ok (.imul, 1) := by decide +kernel
theorem d_Model_knowsIn_4 : decode b_Model_knowsIn 4 = .ok (.bipush 10, 2) := by decide +kernel
theorem d_Model_knowsIn_6 : decode b_Model_knowsIn 6 = .ok (.iload_n 2, 1) := by decide +kernel
theorem d_Model_knowsIn_7 : decode b_Model_knowsIn 7 = .ok (.imul, 1) := by decide +kernel
theorem d_Model_knowsIn_8 : decode b_Model_knowsIn 8 = .ok (.iadd, 1) := by decide +kernel
theorem d_Model_knowsIn_9 : decode b_Model_knowsIn 9 = .ok (.istore_n 3, 1) := by decide +kernel
theorem d_Model_knowsIn_10 : decode b_Model_knowsIn 10 = .ok (.iconst 0, 1) := by decide +kernel
theorem d_Model_knowsIn_11 : decode b_Model_knowsIn 11 = .ok (.istore 4, 2) := by decide +kernel
theorem d_Model_knowsIn_13 : decode b_Model_knowsIn 13 = .ok (.iconst 0, 1) := by decide +kernel
theorem d_Model_knowsIn_14 : decode b_Model_knowsIn 14 = .ok (.istore 5, 2) := by decide +kernel
theorem d_Model_knowsIn_16 : decode b_Model_knowsIn 16 = .ok (.iload 5, 2) := by decide +kernel
theorem d_Model_knowsIn_18 : decode b_Model_knowsIn 18 = .ok (.aload_n 0, 1) := by decide +kernel
theorem d_Model_knowsIn_19 : decode b_Model_knowsIn 19 = .ok (.getfield 53, 3) := by decide +kernel
theorem d_Model_knowsIn_22 : decode b_Model_knowsIn 22 = .ok (.iload_n 3, 1) := by decide +kernel
theorem d_Model_knowsIn_23 : decode b_Model_knowsIn 23 = .ok (.iaload, 1) := by decide +kernel
theorem d_Model_knowsIn_24 : decode b_Model_knowsIn 24 = .ok (.if_icmp .ge 27, 3) := by decide +kernel
theorem d_Model_knowsIn_27 : decode b_Model_knowsIn 27 = .ok (.iload 4, 2) := by decide +kernel
theorem d_Model_knowsIn_29 : decode b_Model_knowsIn 29 = .ok (.iconst 1, 1) := by decide +kernel
theorem d_Model_knowsIn_30 : decode b_Model_knowsIn 30 = .ok (.aload_n 0, 1) := by decide +kernel
theorem d_Model_knowsIn_31 : decode b_Model_knowsIn 31 = .ok (.getfield 53, 3) := by decide +kernel
theorem d_Model_knowsIn_34 : decode b_Model_knowsIn 34 = .ok (.iload_n 3, 1) := by decide +kernel
theorem d_Model_knowsIn_35 : decode b_Model_knowsIn 35 = .ok (.iconst 1, 1) := by decide +kernel
theorem d_Model_knowsIn_36 : decode b_Model_knowsIn 36 = .ok (.iadd, 1) := by decide +kernel
theorem d_Model_knowsIn_37 : decode b_Model_knowsIn 37 = .ok (.iload 5, 2) := by decide +kernel
theorem d_Model_knowsIn_39 : decode b_Model_knowsIn 39 = .ok (.iadd, 1) := by decide +kernel
theorem d_Model_knowsIn_40 : decode b_Model_knowsIn 40 = .ok (.iaload, 1) := by decide +kernel
theorem d_Model_knowsIn_41 : decode b_Model_knowsIn 41 = .ok (.ishl, 1) := by decide +kernel
theorem d_Model_knowsIn_42 : decode b_Model_knowsIn 42 = .ok (.ior, 1) := by decide +kernel
theorem d_Model_knowsIn_43 : decode b_Model_knowsIn 43 = .ok (.istore 4, 2) := by decide +kernel
theorem d_Model_knowsIn_45 : decode b_Model_knowsIn 45 = .ok (.iinc 5 1, 3) := by decide +kernel
theorem d_Model_knowsIn_48 : decode b_Model_knowsIn 48 = .ok (.goto (-32), 3) := by decide +kernel
theorem d_Model_knowsIn_51 : decode b_Model_knowsIn 51 = .ok (.iload 4, 2) := by decide +kernel
theorem d_Model_knowsIn_53 : decode b_Model_knowsIn 53 = .ok (.ireturn, 1) := by decide +kernel
def X_Model_knowsIn_L16 (n : Nat) (a3 : Int32) (M : Mem) : Nat → Int32 → Int32 → Option (Int32 × Mem)
    | 0, _, _ => none
    | m + 1, v4, v5 => gd a3 600 (
    (if (M.1 15 a3.toNatClampNeg) ≤ v5 then
      some (v4, M)
      else
      gd ((a3 + 1) + v5) 600 (
        nm (v4 ||| ((1 : Int32) <<< ((M.1 15 ((a3 + 1) + v5).toNatClampNeg) &&& 31))) fun x2 =>
        X_Model_knowsIn_L16 n a3 M m x2 (v5 + 1))))
def X_Model_knowsIn (n : Nat) (p1 : Int32) (p2 : Int32) (M : Mem) : Option (Int32 × Mem) :=
  nm (((60 : Int32) * p1) + ((10 : Int32) * p2)) fun x1 =>
  X_Model_knowsIn_L16 n x1 M n 0 0
set_option maxRecDepth 20000 in
set_option maxHeartbeats 4000000 in
theorem X_Model_knowsIn_L16_ok {n : Nat} {a3 : Int32} {M : Mem} : ∀ (m : Nat) (v4 : Int32) (v5 : Int32), J (mt_Model_knowsIn) wI 16 [(0, Value.ref 0), (3, Value.int a3), (4, Value.int v4), (5, Value.int v5)] [] M (X_Model_knowsIn_L16 n a3 M m v4 v5) := by
  intro m
  induction m with
  | zero => intro _ _; exact j_none
  | succ m ih =>
    intro v4 v5
    show J _ _ _ _ _ _ (gd a3 600 (
(if (M.1 15 a3.toNatClampNeg) ≤ v5 then
some (v4, M)
else
gd ((a3 + 1) + v5) 600 (
nm (v4 ||| ((1 : Int32) <<< ((M.1 15 ((a3 + 1) + v5).toNatClampNeg) &&& 31))) fun x2 =>
X_Model_knowsIn_L16 n a3 M m x2 (v5 + 1)))))
    refine j_iload (pc := 16) (q := 3) d_Model_knowsIn_16 rfl ?_
    refine j_aload_n (pc := 18) (q := 0) d_Model_knowsIn_18 rfl rfl ?_
    refine j_getA (pc := 19) d_Model_knowsIn_19 fl_Model_53 sm_0 (by decide) rfl ?_
    refine j_iload_n (pc := 22) (q := 1) d_Model_knowsIn_22 rfl rfl ?_
    refine j_iald (pc := 23) d_Model_knowsIn_23 sm_15 (fun _ => ?_)
    refine j_icmp_ge (pc := 24) (tgt := 51) d_Model_knowsIn_24 (by decide) (fun _ => ?_) (fun _ => ?_)
    · refine j_iload (pc := 51) (q := 2) d_Model_knowsIn_51 rfl ?_
      exact j_ireturn (pc := 53) d_Model_knowsIn_53 rfl
    · refine j_iload (pc := 27) (q := 2) d_Model_knowsIn_27 rfl ?_
      refine j_iconst (pc := 29) d_Model_knowsIn_29 k_i_1 ?_
      refine j_aload_n (pc := 30) (q := 0) d_Model_knowsIn_30 rfl rfl ?_
      refine j_getA (pc := 31) d_Model_knowsIn_31 fl_Model_53 sm_0 (by decide) rfl ?_
      refine j_iload_n (pc := 34) (q := 1) d_Model_knowsIn_34 rfl rfl ?_
      refine j_iconst (pc := 35) d_Model_knowsIn_35 k_i_1 ?_
      refine j_iadd (pc := 36) d_Model_knowsIn_36 ?_
      refine j_iload (pc := 37) (q := 3) d_Model_knowsIn_37 rfl ?_
      refine j_iadd (pc := 39) d_Model_knowsIn_39 ?_
      refine j_iald (pc := 40) d_Model_knowsIn_40 sm_15 (fun _ => ?_)
      refine j_ishl (pc := 41) d_Model_knowsIn_41 ?_
      refine j_ior (pc := 42) d_Model_knowsIn_42 ?_
      refine j_nmi (fun x2 => ?_)
      refine j_istore (pc := 43) d_Model_knowsIn_43 (by decide) rfl ?_
      refine j_iinc (pc := 45) (q := 3) d_Model_knowsIn_45 rfl (congrArg (v5 + ·) k_i_1) (by decide) rfl ?_
      refine j_goto (pc := 48) (tgt := 16) d_Model_knowsIn_48 (by decide) ?_
      refine j_lv [2, 3, 1, 0] rfl ?_
      exact ih x2 (v5 + 1)
set_option maxRecDepth 20000 in
set_option maxHeartbeats 4000000 in
theorem C_Model_knowsIn (n : Nat)   (p1 : Int32) (p2 : Int32) (M : Mem) : Ct y_Model_knowsIn mt_Model_knowsIn wI [Value.ref 0, Value.int p1, Value.int p2] M (X_Model_knowsIn n p1 p2 M) := by
  refine ct_of (by decide +kernel) rfl (Nat.le_of_ble_eq_true rfl) ?_
  show J _ _ _ [(0, Value.ref 0), (1, Value.int p1), (2, Value.int p2)] _ _ _
  unfold X_Model_knowsIn
  refine j_bipush (pc := 0) d_Model_knowsIn_0 k_b_60 ?_
  refine j_iload_n (pc := 2) (q := 1) d_Model_knowsIn_2 rfl rfl ?_
  refine j_imul (pc := 3) d_Model_knowsIn_3 ?_
  refine j_bipush (pc := 4) d_Model_knowsIn_4 k_b_10 ?_
  refine j_iload_n (pc := 6) (q := 2) d_Model_knowsIn_6 rfl rfl ?_
  refine j_imul (pc := 7) d_Model_knowsIn_7 ?_
  refine j_iadd (pc := 8) d_Model_knowsIn_8 ?_
  refine j_nmi (fun x1 => ?_)
  refine j_istore_n (pc := 9) d_Model_knowsIn_9 rfl (by decide) rfl ?_
  refine j_iconst (pc := 10) d_Model_knowsIn_10 k_i_0 ?_
  refine j_istore (pc := 11) d_Model_knowsIn_11 (by decide) rfl ?_
  refine j_iconst (pc := 13) d_Model_knowsIn_13 k_i_0 ?_
  refine j_istore (pc := 14) d_Model_knowsIn_14 (by decide) rfl ?_
  refine j_lv [3, 2, 1, 0] rfl ?_
  exact X_Model_knowsIn_L16_ok   n 0 0
-- Model.knowsNow (I)I
def mt_Model_knowsNow : Mt := ("ShakeHandsModel", b_Model_knowsNow, 2, some .int, 3, SHm)
theorem d_Model_knowsNow_0 : decode b_Model_knowsNow 0 = .ok (.aload_n 0, 1) := by decide +kernel
theorem d_Model_knowsNow_1 : decode b_Model_knowsNow 1 = .ok (.iconst 0, 1) := by decide +kernel
theorem d_Model_knowsNow_2 : decode b_Model_knowsNow 2 = .ok (.invokevirtual 256, 3) := by decide +kernel
theorem d_Model_knowsNow_5 : decode b_Model_knowsNow 5 = .ok (.aload_n 0, 1) := by decide +kernel
theorem d_Model_knowsNow_6 : decode b_Model_knowsNow 6 = .ok (.iconst 0, 1) := by decide +kernel
theorem d_Model_knowsNow_7 : decode b_Model_knowsNow 7 = .ok (.iload_n 1, 1) := by decide +kernel
theorem d_Model_knowsNow_8 : decode b_Model_knowsNow 8 = .ok (.invokevirtual 251, 3) := by decide +kernel
theorem d_Model_knowsNow_11 : decode b_Model_knowsNow 11 = .ok (.ireturn, 1) := by decide +kernel
def X_Model_knowsNow (n : Nat) (p1 : Int32) (M : Mem) : Option (Int32 × Mem) :=
  bd (X_Model_begins n 0 M) fun _ M2 =>
  bd (X_Model_knowsIn n 0 p1 M2) fun r3 M4 =>
  some (r3, M4)
set_option maxRecDepth 20000 in
set_option maxHeartbeats 4000000 in
theorem C_Model_knowsNow (n : Nat)   (p1 : Int32) (M : Mem) : Ct y_Model_knowsNow mt_Model_knowsNow wI [Value.ref 0, Value.int p1] M (X_Model_knowsNow n p1 M) := by
  refine ct_of (by decide +kernel) rfl (Nat.le_of_ble_eq_true rfl) ?_
  show J _ _ _ [(0, Value.ref 0), (1, Value.int p1)] _ _ _
  unfold X_Model_knowsNow
  refine j_aload_n (pc := 0) (q := 0) d_Model_knowsNow_0 rfl rfl ?_
  refine j_iconst (pc := 1) d_Model_knowsNow_1 k_i_0 ?_
  refine j_callV1 (pc := 2) d_Model_knowsNow_2 (C_Model_begins n 0 M) cV_Model_256 cd_Model_begins dn_Model_begins rfl (by decide) (Nat.le_of_ble_eq_true rfl) (Nat.le_of_ble_eq_true rfl) nr_U sm_0 (by decide) rfl (fun r1 M2 => ?_)
  refine j_aload_n (pc := 5) (q := 0) d_Model_knowsNow_5 rfl rfl ?_
  refine j_iconst (pc := 6) d_Model_knowsNow_6 k_i_0 ?_
  refine j_iload_n (pc := 7) (q := 1) d_Model_knowsNow_7 rfl rfl ?_
  refine j_callV2 (pc := 8) d_Model_knowsNow_8 (C_Model_knowsIn n 0 p1 M2) cV_Model_251 cd_Model_knowsIn dn_Model_knowsIn rfl (by decide) (Nat.le_of_ble_eq_true rfl) (Nat.le_of_ble_eq_true rfl) nr_I sm_0 (by decide) rfl (fun r3 M4 => ?_)
  exact j_ireturn (pc := 11) d_Model_knowsNow_11 rfl
-- Model.knows (I)I
def mt_Model_knows : Mt := ("ShakeHandsModel", b_Model_knows, 2, some .int, 4, SHm)
theorem d_Model_knows_0 : decode b_Model_knows 0 = .ok (.aload_n 0, 1) := by decide +kernel
theorem d_Model_knows_1 : decode b_Model_knows 1 = .ok (.iload_n 1, 1) := by decide +kernel
theorem d_Model_knows_2 : decode b_Model_knows 2 = .ok (.invokevirtual 268, 3) := by decide +kernel
theorem d_Model_knows_5 : decode b_Model_knows 5 = .ok (.ifCond .eq 11, 3) := by decide +kernel
theorem d_Model_knows_8 : decode b_Model_knows 8 = .ok (.aload_n 0, 1) := by decide +kernel
theorem d_Model_knows_9 : decode b_Model_knows 9 = .ok (.iload_n 1, 1) := by decide +kernel
theorem d_Model_knows_10 : decode b_Model_knows 10 = .ok (.invokevirtual 265, 3) := by decide +kernel
theorem d_Model_knows_13 : decode b_Model_knows 13 = .ok (.goto 4, 3) := by decide +kernel
theorem d_Model_knows_16 : decode b_Model_knows 16 = .ok (.iconst (-1), 1) := by decide +kernel
theorem d_Model_knows_17 : decode b_Model_knows 17 = .ok (.ireturn, 1) := by decide +kernel
def X_Model_knows (n : Nat) (p1 : Int32) (M : Mem) : Option (Int32 × Mem) :=
  bd (X_Model_isOne n p1 M) fun r1 M2 =>
  (if r1 = 0 then
    some ((-1), M2)
    else
    bd (X_Model_knowsNow n p1 M2) fun r3 M4 =>
    some (r3, M4))
set_option maxRecDepth 20000 in
set_option maxHeartbeats 4000000 in
theorem C_Model_knows (n : Nat)   (p1 : Int32) (M : Mem) : Ct y_Model_knows mt_Model_knows wI [Value.ref 0, Value.int p1] M (X_Model_knows n p1 M) := by
  refine ct_of (by decide +kernel) rfl (Nat.le_of_ble_eq_true rfl) ?_
  show J _ _ _ [(0, Value.ref 0), (1, Value.int p1)] _ _ _
  unfold X_Model_knows
  refine j_aload_n (pc := 0) (q := 0) d_Model_knows_0 rfl rfl ?_
  refine j_iload_n (pc := 1) (q := 1) d_Model_knows_1 rfl rfl ?_
  refine j_callV1 (pc := 2) d_Model_knows_2 (C_Model_isOne n p1 M) cV_Model_268 cd_Model_isOne dn_Model_isOne rfl (by decide) (Nat.le_of_ble_eq_true rfl) (Nat.le_of_ble_eq_true rfl) nr_I sm_0 (by decide) rfl (fun r1 M2 => ?_)
  refine j_if_eq (pc := 5) (tgt := 16) d_Model_knows_5 (by decide) (fun _ => ?_) (fun _ => ?_)
  · refine j_iconst (pc := 16) d_Model_knows_16 k_i_m1 ?_
    exact j_ireturn (pc := 17) d_Model_knows_17 rfl
  · refine j_aload_n (pc := 8) (q := 0) d_Model_knows_8 rfl rfl ?_
    refine j_iload_n (pc := 9) (q := 1) d_Model_knows_9 rfl rfl ?_
    refine j_callV1 (pc := 10) d_Model_knows_10 (C_Model_knowsNow n p1 M2) cV_Model_265 cd_Model_knowsNow dn_Model_knowsNow rfl (by decide) (Nat.le_of_ble_eq_true rfl) (Nat.le_of_ble_eq_true rfl) nr_I sm_0 (by decide) rfl (fun r3 M4 => ?_)
    refine j_goto (pc := 13) (tgt := 17) d_Model_knows_13 (by decide) ?_
    exact j_ireturn (pc := 17) d_Model_knows_17 rfl
-- Model.row (II)I
def mt_Model_row : Mt := ("ShakeHandsModel", b_Model_row, 3, some .int, 4, SHm)
theorem d_Model_row_0 : decode b_Model_row 0 = .ok (.aload_n 0, 1) := by decide +kernel
theorem d_Model_row_1 : decode b_Model_row 1 = .ok (.iload_n 1, 1) := by decide +kernel
theorem d_Model_row_2 : decode b_Model_row 2 = .ok (.invokevirtual 268, 3) := by decide +kernel
theorem d_Model_row_5 : decode b_Model_row 5 = .ok (.ifCond .eq 7, 3) := by decide +kernel
theorem d_Model_row_8 : decode b_Model_row 8 = .ok (.iload_n 2, 1) := by decide +kernel
theorem d_Model_row_9 : decode b_Model_row 9 = .ok (.ifCond .ge 7, 3) := by decide +kernel
theorem d_Model_row_12 : decode b_Model_row 12 = .ok (.iconst (-1), 1) := by decide +kernel
theorem d_Model_row_13 : decode b_Model_row 13 = .ok (.goto 34, 3) := by decide +kernel
theorem d_Model_row_16 : decode b_Model_row 16 = .ok (.iload_n 2, 1) := by decide +kernel
theorem d_Model_row_17 : decode b_Model_row 17 = .ok (.aload_n 0, 1) := by decide +kernel
theorem d_Model_row_18 : decode b_Model_row 18 = .ok (.getfield 7, 3) := by decide +kernel
theorem d_Model_row_21 : decode b_Model_row 21 = .ok (.bipush 10, 2) := by decide +kernel
theorem d_Model_row_23 : decode b_Model_row 23 = .ok (.iload_n 1, 1) := by decide +kernel
theorem d_Model_row_24 : decode b_Model_row 24 = .ok (.imul, 1) := by decide +kernel
theorem d_Model_row_25 : decode b_Model_row 25 = .ok (.iaload, 1) := by decide +kernel
theorem d_Model_row_26 : decode b_Model_row 26 = .ok (.if_icmp .ge 19, 3) := by decide +kernel
theorem d_Model_row_29 : decode b_Model_row 29 = .ok (.aload_n 0, 1) := by decide +kernel
theorem d_Model_row_30 : decode b_Model_row 30 = .ok (.getfield 7, 3) := by decide +kernel
theorem d_Model_row_33 : decode b_Model_row 33 = .ok (.bipush 10, 2) := by decide +kernel
theorem d_Model_row_35 : decode b_Model_row 35 = .ok (.iload_n 1, 1) := by decide +kernel
theorem d_Model_row_36 : decode b_Model_row 36 = .ok (.imul, 1) := by decide +kernel
theorem d_Model_row_37 : decode b_Model_row 37 = .ok (.iconst 1, 1) := by decide +kernel
theorem d_Model_row_38 : decode b_Model_row 38 = .ok (.iadd, 1) := by decide +kernel
theorem d_Model_row_39 : decode b_Model_row 39 = .ok (.iload_n 2, 1) := by decide +kernel
theorem d_Model_row_40 : decode b_Model_row 40 = .ok (.iadd, 1) := by decide +kernel
theorem d_Model_row_41 : decode b_Model_row 41 = .ok (.iaload, 1) := by decide +kernel
theorem d_Model_row_42 : decode b_Model_row 42 = .ok (.goto 5, 3) := by decide +kernel
theorem d_Model_row_45 : decode b_Model_row 45 = .ok (.bipush (-4), 2) := by decide +kernel
theorem d_Model_row_47 : decode b_Model_row 47 = .ok (.ireturn, 1) := by decide +kernel
def X_Model_row (n : Nat) (p1 : Int32) (p2 : Int32) (M : Mem) : Option (Int32 × Mem) :=
  bd (X_Model_isOne n p1 M) fun r1 M2 =>
  (if r1 = 0 then
    some ((-1), M2)
    else
    (if 0 ≤ p2 then
      gd ((10 : Int32) * p1) 234 (
        (if (M2.1 1 ((10 : Int32) * p1).toNatClampNeg) ≤ p2 then
          some ((-4), M2)
          else
          gd ((((10 : Int32) * p1) + 1) + p2) 234 (
            some ((M2.1 1 ((((10 : Int32) * p1) + 1) + p2).toNatClampNeg), M2))))
      else
      some ((-1), M2)))
set_option maxRecDepth 20000 in
set_option maxHeartbeats 4000000 in
theorem C_Model_row (n : Nat)   (p1 : Int32) (p2 : Int32) (M : Mem) : Ct y_Model_row mt_Model_row wI [Value.ref 0, Value.int p1, Value.int p2] M (X_Model_row n p1 p2 M) := by
  refine ct_of (by decide +kernel) rfl (Nat.le_of_ble_eq_true rfl) ?_
  show J _ _ _ [(0, Value.ref 0), (1, Value.int p1), (2, Value.int p2)] _ _ _
  unfold X_Model_row
  refine j_aload_n (pc := 0) (q := 0) d_Model_row_0 rfl rfl ?_
  refine j_iload_n (pc := 1) (q := 1) d_Model_row_1 rfl rfl ?_
  refine j_callV1 (pc := 2) d_Model_row_2 (C_Model_isOne n p1 M) cV_Model_268 cd_Model_isOne dn_Model_isOne rfl (by decide) (Nat.le_of_ble_eq_true rfl) (Nat.le_of_ble_eq_true rfl) nr_I sm_0 (by decide) rfl (fun r1 M2 => ?_)
  refine j_if_eq (pc := 5) (tgt := 12) d_Model_row_5 (by decide) (fun _ => ?_) (fun _ => ?_)
  · refine j_iconst (pc := 12) d_Model_row_12 k_i_m1 ?_
    refine j_goto (pc := 13) (tgt := 47) d_Model_row_13 (by decide) ?_
    exact j_ireturn (pc := 47) d_Model_row_47 rfl
  · refine j_iload_n (pc := 8) (q := 2) d_Model_row_8 rfl rfl ?_
    refine j_if_ge (pc := 9) (tgt := 16) d_Model_row_9 (by decide) (fun _ => ?_) (fun _ => ?_)
    · refine j_iload_n (pc := 16) (q := 2) d_Model_row_16 rfl rfl ?_
      refine j_aload_n (pc := 17) (q := 0) d_Model_row_17 rfl rfl ?_
      refine j_getA (pc := 18) d_Model_row_18 fl_Model_7 sm_0 (by decide) rfl ?_
      refine j_bipush (pc := 21) d_Model_row_21 k_b_10 ?_
      refine j_iload_n (pc := 23) (q := 1) d_Model_row_23 rfl rfl ?_
      refine j_imul (pc := 24) d_Model_row_24 ?_
      refine j_iald (pc := 25) d_Model_row_25 sm_1 (fun _ => ?_)
      refine j_icmp_ge (pc := 26) (tgt := 45) d_Model_row_26 (by decide) (fun _ => ?_) (fun _ => ?_)
      · refine j_bipush (pc := 45) d_Model_row_45 k_b_m4 ?_
        exact j_ireturn (pc := 47) d_Model_row_47 rfl
      · refine j_aload_n (pc := 29) (q := 0) d_Model_row_29 rfl rfl ?_
        refine j_getA (pc := 30) d_Model_row_30 fl_Model_7 sm_0 (by decide) rfl ?_
        refine j_bipush (pc := 33) d_Model_row_33 k_b_10 ?_
        refine j_iload_n (pc := 35) (q := 1) d_Model_row_35 rfl rfl ?_
        refine j_imul (pc := 36) d_Model_row_36 ?_
        refine j_iconst (pc := 37) d_Model_row_37 k_i_1 ?_
        refine j_iadd (pc := 38) d_Model_row_38 ?_
        refine j_iload_n (pc := 39) (q := 2) d_Model_row_39 rfl rfl ?_
        refine j_iadd (pc := 40) d_Model_row_40 ?_
        refine j_iald (pc := 41) d_Model_row_41 sm_1 (fun _ => ?_)
        refine j_goto (pc := 42) (tgt := 47) d_Model_row_42 (by decide) ?_
        exact j_ireturn (pc := 47) d_Model_row_47 rfl
    · refine j_iconst (pc := 12) d_Model_row_12 k_i_m1 ?_
      refine j_goto (pc := 13) (tgt := 47) d_Model_row_13 (by decide) ?_
      exact j_ireturn (pc := 47) d_Model_row_47 rfl
-- Model.isThing (I)Z
def mt_Model_isThing : Mt := ("ShakeHandsModel", b_Model_isThing, 1, some .boolean, 3, SHm)
theorem d_Model_isThing_0 : decode b_Model_isThing 0 = .ok (.iload_n 0, 1) := by decide +kernel
theorem d_Model_isThing_1 : decode b_Model_isThing 1 = .ok (.i2l, 1) := by decide +kernel
theorem d_Model_isThing_2 : decode b_Model_isThing 2 = .ok (.lconst 0, 1) := by decide +kernel
theorem d_Model_isThing_3 : decode b_Model_isThing 3 = .ok (.ldc2_w 254, 3) := by decide +kernel
theorem d_Model_isThing_6 : decode b_Model_isThing 6 = .ok (.invokestatic 143, 3) := by decide +kernel
theorem d_Model_isThing_9 : decode b_Model_isThing 9 = .ok (.ireturn, 1) := by decide +kernel
def X_Model_isThing (n : Nat) (p0 : Int32) (M : Mem) : Option (Int32 × Mem) :=
  bd (X_Model_in n (p0.toInt64) 0 15 M) fun r1 M2 =>
  zr r1 M2
set_option maxRecDepth 20000 in
set_option maxHeartbeats 4000000 in
theorem C_Model_isThing (n : Nat)   (p0 : Int32) (M : Mem) : Ct y_Model_isThing mt_Model_isThing wI [Value.int p0] M (X_Model_isThing n p0 M) := by
  refine ct_of (by decide +kernel) rfl (Nat.le_of_ble_eq_true rfl) ?_
  show J _ _ _ [(0, Value.int p0)] _ _ _
  unfold X_Model_isThing
  refine j_iload_n (pc := 0) (q := 0) d_Model_isThing_0 rfl rfl ?_
  refine j_i2l (pc := 1) d_Model_isThing_1 ?_
  refine j_lconst (pc := 2) d_Model_isThing_2 k_l_0 ?_
  refine j_ldc2 (pc := 3) d_Model_isThing_3 cl_Model_254 ?_
  refine j_callS3 (pc := 6) d_Model_isThing_6 (C_Model_in n (p0.toInt64) 0 15 M) cS_Model_143 cd_Model_in dn_Model_in rfl (by decide) (Nat.le_of_ble_eq_true rfl) (Nat.le_of_ble_eq_true rfl) nr_I (fun r1 M2 => ?_)
  exact j_zr (pc := 9) d_Model_isThing_9 rfl
-- Model.whoIn (II)I
def mt_Model_whoIn : Mt := ("ShakeHandsModel", b_Model_whoIn, 5, some .int, 3, SHm)
theorem d_Model_whoIn_0 : decode b_Model_whoIn 0 = .ok (.iconst 0, 1) := by decide +kernel
theorem d_Model_whoIn_1 : decode b_Model_whoIn 1 = .ok (.istore_n 3, 1) := by decide +kernel
theorem d_Model_whoIn_2 : decode b_Model_whoIn 2 = .ok (.iconst 0, 1) := by decide +kernel
theorem d_Model_whoIn_3 : decode b_Model_whoIn 3 = .ok (.istore 4, 2) := by decide +kernel
theorem d_Model_whoIn_5 : decode b_Model_whoIn 5 = .ok (.iload 4, 2) := by decide +kernel
theorem d_Model_whoIn_7 : decode b_Model_whoIn 7 = .ok (.aload_n 0, 1) := by decide +kernel
theorem d_Model_whoIn_8 : decode b_Model_whoIn 8 = .ok (.getfield 119, 3) := by decide +kernel
theorem d_Model_whoIn_11 : decode b_Model_whoIn 11 = .ok (.if_icmp .ge 26, 3) := by decide +kernel
theorem d_Model_whoIn_14 : decode b_Model_whoIn 14 = .ok (.iload_n 3, 1) := by decide +kernel
theorem d_Model_whoIn_15 : decode b_Model_whoIn 15 = .ok (.aload_n 0, 1) := by decide +kernel
theorem d_Model_whoIn_16 : decode b_Model_whoIn 16 = .ok (.iload_n 1, 1) := by decide +kernel
theorem d_Model_whoIn_17 : decode b_Model_whoIn 17 = .ok (.iload 4, 2) := by decide +kernel
theorem d_Model_whoIn_19 : decode b_Model_whoIn 19 = .ok (.invokevirtual 251, 3) := by decide +kernel
theorem d_Model_whoIn_22 : decode b_Model_whoIn 22 = .ok (.iload_n 2, 1) := by decide +kernel
theorem d_Model_whoIn_23 : decode b_Model_whoIn 23 = .ok (.ishr, 1) := by decide +kernel
theorem d_Model_whoIn_24 : decode b_Model_whoIn 24 = .ok (.iconst 1, 1) := by decide +kernel
theorem d_Model_whoIn_25 : decode b_Model_whoIn 25 = .ok (.iand, 1) := by decide +kernel
theorem d_Model_whoIn_26 : decode b_Model_whoIn 26 = .ok (.iload 4, 2) := by decide +kernel
theorem d_Model_whoIn_28 : decode b_Model_whoIn 28 = .ok (.ishl, 1) := by decide +kernel
theorem d_Model_whoIn_29 : decode b_Model_whoIn 29 = .ok (.ior, 1) := by decide +kernel
theorem d_Model_whoIn_30 : decode b_Model_whoIn 30 = .ok (.istore_n 3, 1) := by decide +kernel
theorem d_Model_whoIn_31 : decode b_Model_whoIn 31 = .ok (.iinc 4 1, 3) := by decide +kernel
theorem d_Model_whoIn_34 : decode b_Model_whoIn 34 = .ok (.goto (-29), 3) := by decide +kernel
theorem d_Model_whoIn_37 : decode b_Model_whoIn 37 = .ok (.iload_n 3, 1) := by decide +kernel
theorem d_Model_whoIn_38 : decode b_Model_whoIn 38 = .ok (.ireturn, 1) := by decide +kernel
def X_Model_whoIn_L5 (n : Nat) (a1 : Int32) (a2 : Int32) : Nat → Int32 → Int32 → Mem → Option (Int32 × Mem)
    | 0, _, _, _ => none
    | m + 1, v3, v4, M => (if (M.1 0 2) ≤ v4 then
    some (v3, M)
    else
    bd (X_Model_knowsIn n a1 v4 M) fun r1 M2 =>
    nm (v3 ||| (((r1 >>> (a2 &&& 31)) &&& 1) <<< (v4 &&& 31))) fun x3 =>
    X_Model_whoIn_L5 n a1 a2 m x3 (v4 + 1) M2)
def X_Model_whoIn (n : Nat) (p1 : Int32) (p2 : Int32) (M : Mem) : Option (Int32 × Mem) :=
  X_Model_whoIn_L5 n p1 p2 n 0 0 M
set_option maxRecDepth 20000 in
set_option maxHeartbeats 4000000 in
theorem X_Model_whoIn_L5_ok {n : Nat} {a1 : Int32} {a2 : Int32} : ∀ (m : Nat) (v3 : Int32) (v4 : Int32) (M : Mem), J (mt_Model_whoIn) wI 5 [(0, Value.ref 0), (1, Value.int a1), (2, Value.int a2), (3, Value.int v3), (4, Value.int v4)] [] M (X_Model_whoIn_L5 n a1 a2 m v3 v4 M) := by
  intro m
  induction m with
  | zero => intro _ _ _; exact j_none
  | succ m ih =>
    intro v3 v4 M
    show J _ _ _ _ _ _ ((if (M.1 0 2) ≤ v4 then
some (v3, M)
else
bd (X_Model_knowsIn n a1 v4 M) fun r1 M2 =>
nm (v3 ||| (((r1 >>> (a2 &&& 31)) &&& 1) <<< (v4 &&& 31))) fun x3 =>
X_Model_whoIn_L5 n a1 a2 m x3 (v4 + 1) M2))
    refine j_iload (pc := 5) (q := 4) d_Model_whoIn_5 rfl ?_
    refine j_aload_n (pc := 7) (q := 0) d_Model_whoIn_7 rfl rfl ?_
    refine j_getI (pc := 8) d_Model_whoIn_8 fl_Model_119 sm_0 (by decide) rfl ?_
    refine j_icmp_ge (pc := 11) (tgt := 37) d_Model_whoIn_11 (by decide) (fun _ => ?_) (fun _ => ?_)
    · refine j_iload_n (pc := 37) (q := 3) d_Model_whoIn_37 rfl rfl ?_
      exact j_ireturn (pc := 38) d_Model_whoIn_38 rfl
    · refine j_iload_n (pc := 14) (q := 3) d_Model_whoIn_14 rfl rfl ?_
      refine j_aload_n (pc := 15) (q := 0) d_Model_whoIn_15 rfl rfl ?_
      refine j_iload_n (pc := 16) (q := 1) d_Model_whoIn_16 rfl rfl ?_
      refine j_iload (pc := 17) (q := 4) d_Model_whoIn_17 rfl ?_
      refine j_callV2 (pc := 19) d_Model_whoIn_19 (C_Model_knowsIn n a1 v4 M) cV_Model_251 cd_Model_knowsIn dn_Model_knowsIn rfl (by decide) (Nat.le_of_ble_eq_true rfl) (Nat.le_of_ble_eq_true rfl) nr_I sm_0 (by decide) rfl (fun r1 M2 => ?_)
      refine j_iload_n (pc := 22) (q := 2) d_Model_whoIn_22 rfl rfl ?_
      refine j_ishr (pc := 23) d_Model_whoIn_23 ?_
      refine j_iconst (pc := 24) d_Model_whoIn_24 k_i_1 ?_
      refine j_iand (pc := 25) d_Model_whoIn_25 ?_
      refine j_iload (pc := 26) (q := 4) d_Model_whoIn_26 rfl ?_
      refine j_ishl (pc := 28) d_Model_whoIn_28 ?_
      refine j_ior (pc := 29) d_Model_whoIn_29 ?_
      refine j_nmi (fun x3 => ?_)
      refine j_istore_n (pc := 30) d_Model_whoIn_30 rfl (by decide) rfl ?_
      refine j_iinc (pc := 31) (q := 4) d_Model_whoIn_31 rfl (congrArg (v4 + ·) k_i_1) (by decide) rfl ?_
      refine j_goto (pc := 34) (tgt := 5) d_Model_whoIn_34 (by decide) ?_
      refine j_lv [2, 3, 4, 1, 0] rfl ?_
      exact ih x3 (v4 + 1) M2
set_option maxRecDepth 20000 in
set_option maxHeartbeats 4000000 in
theorem C_Model_whoIn (n : Nat)   (p1 : Int32) (p2 : Int32) (M : Mem) : Ct y_Model_whoIn mt_Model_whoIn wI [Value.ref 0, Value.int p1, Value.int p2] M (X_Model_whoIn n p1 p2 M) := by
  refine ct_of (by decide +kernel) rfl (Nat.le_of_ble_eq_true rfl) ?_
  show J _ _ _ [(0, Value.ref 0), (1, Value.int p1), (2, Value.int p2)] _ _ _
  unfold X_Model_whoIn
  refine j_iconst (pc := 0) d_Model_whoIn_0 k_i_0 ?_
  refine j_istore_n (pc := 1) d_Model_whoIn_1 rfl (by decide) rfl ?_
  refine j_iconst (pc := 2) d_Model_whoIn_2 k_i_0 ?_
  refine j_istore (pc := 3) d_Model_whoIn_3 (by decide) rfl ?_
  refine j_lv [2, 3, 4, 1, 0] rfl ?_
  exact X_Model_whoIn_L5_ok   n 0 0 M
-- Model.whoNow (I)I
def mt_Model_whoNow : Mt := ("ShakeHandsModel", b_Model_whoNow, 2, some .int, 4, SHm)
theorem d_Model_whoNow_0 : decode b_Model_whoNow 0 = .ok (.aload_n 0, 1) := by decide +kernel
theorem d_Model_whoNow_1 : decode b_Model_whoNow 1 = .ok (.iconst 0, 1) := by decide +kernel
theorem d_Model_whoNow_2 : decode b_Model_whoNow 2 = .ok (.invokevirtual 256, 3) := by decide +kernel
theorem d_Model_whoNow_5 : decode b_Model_whoNow 5 = .ok (.aload_n 0, 1) := by decide +kernel
theorem d_Model_whoNow_6 : decode b_Model_whoNow 6 = .ok (.iconst 0, 1) := by decide +kernel
theorem d_Model_whoNow_7 : decode b_Model_whoNow 7 = .ok (.iload_n 1, 1) := by decide +kernel
theorem d_Model_whoNow_8 : decode b_Model_whoNow 8 = .ok (.invokevirtual 262, 3) := by decide +kernel
theorem d_Model_whoNow_11 : decode b_Model_whoNow 11 = .ok (.ireturn, 1) := by decide +kernel
def X_Model_whoNow (n : Nat) (p1 : Int32) (M : Mem) : Option (Int32 × Mem) :=
  bd (X_Model_begins n 0 M) fun _ M2 =>
  bd (X_Model_whoIn n 0 p1 M2) fun r3 M4 =>
  some (r3, M4)
set_option maxRecDepth 20000 in
set_option maxHeartbeats 4000000 in
theorem C_Model_whoNow (n : Nat)   (p1 : Int32) (M : Mem) : Ct y_Model_whoNow mt_Model_whoNow wI [Value.ref 0, Value.int p1] M (X_Model_whoNow n p1 M) := by
  refine ct_of (by decide +kernel) rfl (Nat.le_of_ble_eq_true rfl) ?_
  show J _ _ _ [(0, Value.ref 0), (1, Value.int p1)] _ _ _
  unfold X_Model_whoNow
  refine j_aload_n (pc := 0) (q := 0) d_Model_whoNow_0 rfl rfl ?_
  refine j_iconst (pc := 1) d_Model_whoNow_1 k_i_0 ?_
  refine j_callV1 (pc := 2) d_Model_whoNow_2 (C_Model_begins n 0 M) cV_Model_256 cd_Model_begins dn_Model_begins rfl (by decide) (Nat.le_of_ble_eq_true rfl) (Nat.le_of_ble_eq_true rfl) nr_U sm_0 (by decide) rfl (fun r1 M2 => ?_)
  refine j_aload_n (pc := 5) (q := 0) d_Model_whoNow_5 rfl rfl ?_
  refine j_iconst (pc := 6) d_Model_whoNow_6 k_i_0 ?_
  refine j_iload_n (pc := 7) (q := 1) d_Model_whoNow_7 rfl rfl ?_
  refine j_callV2 (pc := 8) d_Model_whoNow_8 (C_Model_whoIn n 0 p1 M2) cV_Model_262 cd_Model_whoIn dn_Model_whoIn rfl (by decide) (Nat.le_of_ble_eq_true rfl) (Nat.le_of_ble_eq_true rfl) nr_I sm_0 (by decide) rfl (fun r3 M4 => ?_)
  exact j_ireturn (pc := 11) d_Model_whoNow_11 rfl
-- Model.who (I)I
def mt_Model_who : Mt := ("ShakeHandsModel", b_Model_who, 2, some .int, 5, SHm)
theorem d_Model_who_0 : decode b_Model_who 0 = .ok (.iload_n 1, 1) := by decide +kernel
theorem d_Model_who_1 : decode b_Model_who 1 = .ok (.invokestatic 272, 3) := by decide +kernel
theorem d_Model_who_4 : decode b_Model_who 4 = .ok (.ifCond .eq 11, 3) := by decide +kernel
theorem d_Model_who_7 : decode b_Model_who 7 = .ok (.aload_n 0, 1) := by decide +kernel
theorem d_Model_who_8 : decode b_Model_who 8 = .ok (.iload_n 1, 1) := by decide +kernel
theorem d_Model_who_9 : decode b_Model_who 9 = .ok (.invokevirtual 275, 3) := by decide +kernel
theorem d_Model_who_12 : decode b_Model_who 12 = .ok (.goto 4, 3) := by decide +kernel
theorem d_Model_who_15 : decode b_Model_who 15 = .ok (.iconst (-1), 1) := by decide +kernel
theorem d_Model_who_16 : decode b_Model_who 16 = .ok (.ireturn, 1) := by decide +kernel
def X_Model_who (n : Nat) (p1 : Int32) (M : Mem) : Option (Int32 × Mem) :=
  bd (X_Model_isThing n p1 M) fun r1 M2 =>
  (if r1 = 0 then
    some ((-1), M2)
    else
    bd (X_Model_whoNow n p1 M2) fun r3 M4 =>
    some (r3, M4))
set_option maxRecDepth 20000 in
set_option maxHeartbeats 4000000 in
theorem C_Model_who (n : Nat)   (p1 : Int32) (M : Mem) : Ct y_Model_who mt_Model_who wI [Value.ref 0, Value.int p1] M (X_Model_who n p1 M) := by
  refine ct_of (by decide +kernel) rfl (Nat.le_of_ble_eq_true rfl) ?_
  show J _ _ _ [(0, Value.ref 0), (1, Value.int p1)] _ _ _
  unfold X_Model_who
  refine j_iload_n (pc := 0) (q := 1) d_Model_who_0 rfl rfl ?_
  refine j_callS1 (pc := 1) d_Model_who_1 (C_Model_isThing n p1 M) cS_Model_272 cd_Model_isThing dn_Model_isThing rfl (by decide) (Nat.le_of_ble_eq_true rfl) (Nat.le_of_ble_eq_true rfl) nr_I (fun r1 M2 => ?_)
  refine j_if_eq (pc := 4) (tgt := 15) d_Model_who_4 (by decide) (fun _ => ?_) (fun _ => ?_)
  · refine j_iconst (pc := 15) d_Model_who_15 k_i_m1 ?_
    exact j_ireturn (pc := 16) d_Model_who_16 rfl
  · refine j_aload_n (pc := 7) (q := 0) d_Model_who_7 rfl rfl ?_
    refine j_iload_n (pc := 8) (q := 1) d_Model_who_8 rfl rfl ?_
    refine j_callV1 (pc := 9) d_Model_who_9 (C_Model_whoNow n p1 M2) cV_Model_275 cd_Model_whoNow dn_Model_whoNow rfl (by decide) (Nat.le_of_ble_eq_true rfl) (Nat.le_of_ble_eq_true rfl) nr_I sm_0 (by decide) rfl (fun r3 M4 => ?_)
    refine j_goto (pc := 12) (tgt := 16) d_Model_who_12 (by decide) ?_
    exact j_ireturn (pc := 16) d_Model_who_16 rfl
-- Model.place (I)I
def mt_Model_place : Mt := ("ShakeHandsModel", b_Model_place, 4, some .int, 2, SHm)
theorem d_Model_place_0 : decode b_Model_place 0 = .ok (.bipush (-4), 2) := by decide +kernel
theorem d_Model_place_2 : decode b_Model_place 2 = .ok (.istore_n 2, 1) := by decide +kernel
theorem d_Model_place_3 : decode b_Model_place 3 = .ok (.iconst 0, 1) := by decide +kernel
theorem d_Model_place_4 : decode b_Model_place 4 = .ok (.istore_n 3, 1) := by decide +kernel
theorem d_Model_place_5 : decode b_Model_place 5 = .ok (.iload_n 3, 1) := by decide +kernel
theorem d_Model_place_6 : decode b_Model_place 6 = .ok (.aload_n 0, 1) := by decide +kernel
theorem d_Model_place_7 : decode b_Model_place 7 = .ok (.getfield 229, 3) := by decide +kernel
theorem d_Model_place_10 : decode b_Model_place 10 = .ok (.if_icmp .ge 25, 3) := by decide +kernel
theorem d_Model_place_13 : decode b_Model_place 13 = .ok (.aload_n 0, 1) := by decide +kernel
theorem d_Model_place_14 : decode b_Model_place 14 = .ok (.getfield 56, 3) := by decide +kernel
theorem d_Model_place_17 : decode b_Model_place 17 = .ok (.iload_n 3, 1) := by decide +kernel
theorem d_Model_place_18 : decode b_Model_place 18 = .ok (.iaload, 1) := by decide +kernel
theorem d_Model_place_19 : decode b_Model_place 19 = .ok (.iload_n 1, 1) := by decide +kernel
theorem d_Model_place_20 : decode b_Model_place 20 = .ok (.if_icmp .ne 7, 3) := by decide +kernel
theorem d_Model_place_23 : decode b_Model_place 23 = .ok (.iload_n 3, 1) := by decide +kernel
theorem d_Model_place_24 : decode b_Model_place 24 = .ok (.goto 4, 3) := by decide +kernel
theorem d_Model_place_27 : decode b_Model_place 27 = .ok (.iload_n 2, 1) := by decide +kernel
theorem d_Model_place_28 : decode b_Model_place 28 = .ok (.istore_n 2, 1) := by decide +kernel
theorem d_Model_place_29 : decode b_Model_place 29 = .ok (.iinc 3 1, 3) := by decide +kernel
theorem d_Model_place_32 : decode b_Model_place 32 = .ok (.goto (-27), 3) := by decide +kernel
theorem d_Model_place_35 : decode b_Model_place 35 = .ok (.iload_n 2, 1) := by decide +kernel
theorem d_Model_place_36 : decode b_Model_place 36 = .ok (.ireturn, 1) := by decide +kernel
def X_Model_place_L5 (n : Nat) (a1 : Int32) (M : Mem) : Nat → Int32 → Int32 → Option (Int32 × Mem)
    | 0, _, _ => none
    | m + 1, v2, v3 => (if (M.1 0 35) ≤ v3 then
    some (v2, M)
    else
    gd v3 18 (
      nm (fun (u1 : Int32) => (X_Model_place_L5 n a1 M m u1 (v3 + 1) : Option (Int32 × Mem))) fun k28 =>
      (if (M.1 16 v3.toNatClampNeg) = a1 then
        k28 v3
        else
        k28 v2)))
def X_Model_place (n : Nat) (p1 : Int32) (M : Mem) : Option (Int32 × Mem) :=
  X_Model_place_L5 n p1 M n (-4) 0
set_option maxRecDepth 20000 in
set_option maxHeartbeats 4000000 in
theorem X_Model_place_L5_ok {n : Nat} {a1 : Int32} {M : Mem} : ∀ (m : Nat) (v2 : Int32) (v3 : Int32), J (mt_Model_place) wI 5 [(0, Value.ref 0), (1, Value.int a1), (2, Value.int v2), (3, Value.int v3)] [] M (X_Model_place_L5 n a1 M m v2 v3) := by
  intro m
  induction m with
  | zero => intro _ _; exact j_none
  | succ m ih =>
    intro v2 v3
    show J _ _ _ _ _ _ ((if (M.1 0 35) ≤ v3 then
some (v2, M)
else
gd v3 18 (
nm (fun (u1 : Int32) => (X_Model_place_L5 n a1 M m u1 (v3 + 1) : Option (Int32 × Mem))) fun k28 =>
(if (M.1 16 v3.toNatClampNeg) = a1 then
k28 v3
else
k28 v2))))
    refine j_iload_n (pc := 5) (q := 3) d_Model_place_5 rfl rfl ?_
    refine j_aload_n (pc := 6) (q := 0) d_Model_place_6 rfl rfl ?_
    refine j_getI (pc := 7) d_Model_place_7 fl_Model_229 sm_0 (by decide) rfl ?_
    refine j_icmp_ge (pc := 10) (tgt := 35) d_Model_place_10 (by decide) (fun _ => ?_) (fun _ => ?_)
    · refine j_iload_n (pc := 35) (q := 2) d_Model_place_35 rfl rfl ?_
      exact j_ireturn (pc := 36) d_Model_place_36 rfl
    · refine j_aload_n (pc := 13) (q := 0) d_Model_place_13 rfl rfl ?_
      refine j_getA (pc := 14) d_Model_place_14 fl_Model_56 sm_0 (by decide) rfl ?_
      refine j_iload_n (pc := 17) (q := 3) d_Model_place_17 rfl rfl ?_
      refine j_iald (pc := 18) d_Model_place_18 sm_16 (fun _ => ?_)
      refine j_iload_n (pc := 19) (q := 1) d_Model_place_19 rfl rfl ?_
      refine j_nmk (fun k => ∀ (u1 : Int32), J (mt_Model_place) wI 28 [(0, Value.ref 0), (1, Value.int a1), (3, Value.int v3)] [Value.int u1] M (k u1)) (fun u1 => ?_) (fun k28 hk28 => ?_)
      · refine j_istore_n (pc := 28) d_Model_place_28 rfl (by decide) rfl ?_
        refine j_iinc (pc := 29) (q := 3) d_Model_place_29 rfl (congrArg (v3 + ·) k_i_1) (by decide) rfl ?_
        refine j_goto (pc := 32) (tgt := 5) d_Model_place_32 (by decide) ?_
        refine j_lv [2, 3, 1, 0] rfl ?_
        exact ih u1 (v3 + 1)
      · refine j_icmp_ne (pc := 20) (tgt := 27) d_Model_place_20 (by decide) (fun _ => ?_) (fun _ => ?_)
        · refine j_iload_n (pc := 27) (q := 2) d_Model_place_27 rfl rfl ?_
          refine j_lv [0, 1, 3] rfl ?_
          exact hk28 v2
        · refine j_iload_n (pc := 23) (q := 3) d_Model_place_23 rfl rfl ?_
          refine j_goto (pc := 24) (tgt := 28) d_Model_place_24 (by decide) ?_
          refine j_lv [0, 1, 3] rfl ?_
          exact hk28 v3
set_option maxRecDepth 20000 in
set_option maxHeartbeats 4000000 in
theorem C_Model_place (n : Nat)   (p1 : Int32) (M : Mem) : Ct y_Model_place mt_Model_place wI [Value.ref 0, Value.int p1] M (X_Model_place n p1 M) := by
  refine ct_of (by decide +kernel) rfl (Nat.le_of_ble_eq_true rfl) ?_
  show J _ _ _ [(0, Value.ref 0), (1, Value.int p1)] _ _ _
  unfold X_Model_place
  refine j_bipush (pc := 0) d_Model_place_0 k_b_m4 ?_
  refine j_istore_n (pc := 2) d_Model_place_2 rfl (by decide) rfl ?_
  refine j_iconst (pc := 3) d_Model_place_3 k_i_0 ?_
  refine j_istore_n (pc := 4) d_Model_place_4 rfl (by decide) rfl ?_
  refine j_lv [2, 3, 1, 0] rfl ?_
  exact X_Model_place_L5_ok   n (-4) 0
-- Model.adds (I)V
def mt_Model_adds : Mt := ("ShakeHandsModel", b_Model_adds, 2, none, 3, SHm)
theorem d_Model_adds_0 : decode b_Model_adds 0 = .ok (.aload_n 0, 1) := by decide +kernel
theorem d_Model_adds_1 : decode b_Model_adds 1 = .ok (.iload_n 1, 1) := by decide +kernel
theorem d_Model_adds_2 : decode b_Model_adds 2 = .ok (.invokevirtual 232, 3) := by decide +kernel
theorem d_Model_adds_5 : decode b_Model_adds 5 = .ok (.bipush (-4), 2) := by decide +kernel
theorem d_Model_adds_7 : decode b_Model_adds 7 = .ok (.if_icmp .ne 23, 3) := by decide +kernel
theorem d_Model_adds_10 : decode b_Model_adds 10 = .ok (.aload_n 0, 1) := by decide +kernel
theorem d_Model_adds_11 : decode b_Model_adds 11 = .ok (.getfield 56, 3) := by decide +kernel
theorem d_Model_adds_14 : decode b_Model_adds 14 = .ok (.aload_n 0, 1) := by decide +kernel
theorem d_Model_adds_15 : decode b_Model_adds 15 = .ok (.getfield 229, 3) := by decide +kernel
theorem d_Model_adds_18 : decode b_Model_adds 18 = .ok (.iload_n 1, 1) := by decide +kernel
theorem d_Model_adds_19 : decode b_Model_adds 19 = .ok (.iastore, 1) := by decide +kernel
theorem d_Model_adds_20 : decode b_Model_adds 20 = .ok (.aload_n 0, 1) := by decide +kernel
theorem d_Model_adds_21 : decode b_Model_adds 21 = .ok (.dup, 1) := by decide +kernel
theorem d_Model_adds_22 : decode b_Model_adds 22 = .ok (.getfield 229, 3) := by decide +kernel
theorem d_Model_adds_25 : decode b_Model_adds 25 = .ok (.iconst 1, 1) := by decide +kernel
theorem d_Model_adds_26 : decode b_Model_adds 26 = .ok (.iadd, 1) := by decide +kernel
theorem d_Model_adds_27 : decode b_Model_adds 27 = .ok (.putfield 229, 3) := by decide +kernel
theorem d_Model_adds_30 : decode b_Model_adds 30 = .ok (.return_, 1) := by decide +kernel
def X_Model_adds (n : Nat) (p1 : Int32) (M : Mem) : Option (Unit × Mem) :=
  bd (X_Model_place n p1 M) fun r1 M2 =>
  (if r1 = (-4) then
    gd (M2.1 0 35) 18 (
      nm (si M2 16 ((M2.1 0 35).toNatClampNeg) p1) fun N3 =>
      some ((), si N3 0 35 ((N3.1 0 35) + 1)))
    else
    some ((), M2))
set_option maxRecDepth 20000 in
set_option maxHeartbeats 4000000 in
theorem C_Model_adds (n : Nat)   (p1 : Int32) (M : Mem) : Ct y_Model_adds mt_Model_adds wU [Value.ref 0, Value.int p1] M (X_Model_adds n p1 M) := by
  refine ct_of (by decide +kernel) rfl (Nat.le_of_ble_eq_true rfl) ?_
  show J _ _ _ [(0, Value.ref 0), (1, Value.int p1)] _ _ _
  unfold X_Model_adds
  refine j_aload_n (pc := 0) (q := 0) d_Model_adds_0 rfl rfl ?_
  refine j_iload_n (pc := 1) (q := 1) d_Model_adds_1 rfl rfl ?_
  refine j_callV1 (pc := 2) d_Model_adds_2 (C_Model_place n p1 M) cV_Model_232 cd_Model_place dn_Model_place rfl (by decide) (Nat.le_of_ble_eq_true rfl) (Nat.le_of_ble_eq_true rfl) nr_I sm_0 (by decide) rfl (fun r1 M2 => ?_)
  refine j_bipush (pc := 5) d_Model_adds_5 k_b_m4 ?_
  refine j_icmp_ne (pc := 7) (tgt := 30) d_Model_adds_7 (by decide) (fun _ => ?_) (fun _ => ?_)
  · exact j_return (pc := 30) d_Model_adds_30 rfl
  · refine j_aload_n (pc := 10) (q := 0) d_Model_adds_10 rfl rfl ?_
    refine j_getA (pc := 11) d_Model_adds_11 fl_Model_56 sm_0 (by decide) rfl ?_
    refine j_aload_n (pc := 14) (q := 0) d_Model_adds_14 rfl rfl ?_
    refine j_getI (pc := 15) d_Model_adds_15 fl_Model_229 sm_0 (by decide) rfl ?_
    refine j_iload_n (pc := 18) (q := 1) d_Model_adds_18 rfl rfl ?_
    refine j_iast (pc := 19) d_Model_adds_19 sm_16 (fun _ => ?_)
    refine j_aload_n (pc := 20) (q := 0) d_Model_adds_20 rfl rfl ?_
    refine j_dup (pc := 21) d_Model_adds_21 rfl ?_
    refine j_nmM (fun N3 => ?_)
    refine j_getI (pc := 22) d_Model_adds_22 fl_Model_229 sm_0 (by decide) rfl ?_
    refine j_iconst (pc := 25) d_Model_adds_25 k_i_1 ?_
    refine j_iadd (pc := 26) d_Model_adds_26 ?_
    refine j_putI (pc := 27) d_Model_adds_27 fl_Model_229 rfl sm_0 (by decide) rfl ?_
    exact j_return (pc := 30) d_Model_adds_30 rfl
-- Model.knowsIt (II)Z
def mt_Model_knowsIt : Mt := ("ShakeHandsModel", b_Model_knowsIt, 3, some .boolean, 4, SHm)
theorem d_Model_knowsIt_0 : decode b_Model_knowsIt 0 = .ok (.aload_n 0, 1) := by decide +kernel
theorem d_Model_knowsIt_1 : decode b_Model_knowsIt 1 = .ok (.iload_n 1, 1) := by decide +kernel
theorem d_Model_knowsIt_2 : decode b_Model_knowsIt 2 = .ok (.invokevirtual 265, 3) := by decide +kernel
theorem d_Model_knowsIt_5 : decode b_Model_knowsIt 5 = .ok (.iload_n 2, 1) := by decide +kernel
theorem d_Model_knowsIt_6 : decode b_Model_knowsIt 6 = .ok (.ishr, 1) := by decide +kernel
theorem d_Model_knowsIt_7 : decode b_Model_knowsIt 7 = .ok (.iconst 1, 1) := by decide +kernel
theorem d_Model_knowsIt_8 : decode b_Model_knowsIt 8 = .ok (.iand, 1) := by decide +kernel
theorem d_Model_knowsIt_9 : decode b_Model_knowsIt 9 = .ok (.iconst 1, 1) := by decide +kernel
theorem d_Model_knowsIt_10 : decode b_Model_knowsIt 10 = .ok (.if_icmp .ne 7, 3) := by decide +kernel
theorem d_Model_knowsIt_13 : decode b_Model_knowsIt 13 = .ok (.iconst 1, 1) := by decide +kernel
theorem d_Model_knowsIt_14 : decode b_Model_knowsIt 14 = .ok (.goto 4, 3) := by decide +kernel
theorem d_Model_knowsIt_17 : decode b_Model_knowsIt 17 = .ok (.iconst 0, 1) := by decide +kernel
theorem d_Model_knowsIt_18 : decode b_Model_knowsIt 18 = .ok (.ireturn, 1) := by decide +kernel
def X_Model_knowsIt (n : Nat) (p1 : Int32) (p2 : Int32) (M : Mem) : Option (Int32 × Mem) :=
  bd (X_Model_knowsNow n p1 M) fun r1 M2 =>
  (if ((r1 >>> (p2 &&& 31)) &&& 1) = 1 then
    some (1, M2)
    else
    some (0, M2))
set_option maxRecDepth 20000 in
set_option maxHeartbeats 4000000 in
theorem C_Model_knowsIt (n : Nat)   (p1 : Int32) (p2 : Int32) (M : Mem) : Ct y_Model_knowsIt mt_Model_knowsIt wI [Value.ref 0, Value.int p1, Value.int p2] M (X_Model_knowsIt n p1 p2 M) := by
  refine ct_of (by decide +kernel) rfl (Nat.le_of_ble_eq_true rfl) ?_
  show J _ _ _ [(0, Value.ref 0), (1, Value.int p1), (2, Value.int p2)] _ _ _
  unfold X_Model_knowsIt
  refine j_aload_n (pc := 0) (q := 0) d_Model_knowsIt_0 rfl rfl ?_
  refine j_iload_n (pc := 1) (q := 1) d_Model_knowsIt_1 rfl rfl ?_
  refine j_callV1 (pc := 2) d_Model_knowsIt_2 (C_Model_knowsNow n p1 M) cV_Model_265 cd_Model_knowsNow dn_Model_knowsNow rfl (by decide) (Nat.le_of_ble_eq_true rfl) (Nat.le_of_ble_eq_true rfl) nr_I sm_0 (by decide) rfl (fun r1 M2 => ?_)
  refine j_iload_n (pc := 5) (q := 2) d_Model_knowsIt_5 rfl rfl ?_
  refine j_ishr (pc := 6) d_Model_knowsIt_6 ?_
  refine j_iconst (pc := 7) d_Model_knowsIt_7 k_i_1 ?_
  refine j_iand (pc := 8) d_Model_knowsIt_8 ?_
  refine j_iconst (pc := 9) d_Model_knowsIt_9 k_i_1 ?_
  refine j_icmp_ne (pc := 10) (tgt := 17) d_Model_knowsIt_10 (by decide) (fun _ => ?_) (fun _ => ?_)
  · refine j_iconst (pc := 17) d_Model_knowsIt_17 k_i_0 ?_
    exact j_zreturn (pc := 18) d_Model_knowsIt_18 rfl rfl
  · refine j_iconst (pc := 13) d_Model_knowsIt_13 k_i_1 ?_
    refine j_goto (pc := 14) (tgt := 18) d_Model_knowsIt_14 (by decide) ?_
    exact j_zreturn (pc := 18) d_Model_knowsIt_18 rfl rfl
-- Model.puts ([II)V
def mt_Model_puts : Mt := ("ShakeHandsModel", b_Model_puts, 4, none, 2, SHm)
theorem d_Model_puts_0 : decode b_Model_puts 0 = .ok (.aload_n 1, 1) := by decide +kernel
theorem d_Model_puts_1 : decode b_Model_puts 1 = .ok (.iload_n 2, 1) := by decide +kernel
theorem d_Model_puts_2 : decode b_Model_puts 2 = .ok (.aload_n 0, 1) := by decide +kernel
theorem d_Model_puts_3 : decode b_Model_puts 3 = .ok (.getfield 229, 3) := by decide +kernel
theorem d_Model_puts_6 : decode b_Model_puts 6 = .ok (.iastore, 1) := by decide +kernel
theorem d_Model_puts_7 : decode b_Model_puts 7 = .ok (.iconst 0, 1) := by decide +kernel
theorem d_Model_puts_8 : decode b_Model_puts 8 = .ok (.istore_n 3, 1) := by decide +kernel
theorem d_Model_puts_9 : decode b_Model_puts 9 = .ok (.iload_n 3, 1) := by decide +kernel
theorem d_Model_puts_10 : decode b_Model_puts 10 = .ok (.aload_n 0, 1) := by decide +kernel
theorem d_Model_puts_11 : decode b_Model_puts 11 = .ok (.getfield 229, 3) := by decide +kernel
theorem d_Model_puts_14 : decode b_Model_puts 14 = .ok (.if_icmp .ge 22, 3) := by decide +kernel
theorem d_Model_puts_17 : decode b_Model_puts 17 = .ok (.aload_n 1, 1) := by decide +kernel
theorem d_Model_puts_18 : decode b_Model_puts 18 = .ok (.iload_n 2, 1) := by decide +kernel
theorem d_Model_puts_19 : decode b_Model_puts 19 = .ok (.iconst 1, 1) := by decide +kernel
theorem d_Model_puts_20 : decode b_Model_puts 20 = .ok (.iadd, 1) := by decide +kernel
theorem d_Model_puts_21 : decode b_Model_puts 21 = .ok (.iload_n 3, 1) := by decide +kernel
theorem d_Model_puts_22 : decode b_Model_puts 22 = .ok (.iadd, 1) := by decide +kernel
theorem d_Model_puts_23 : decode b_Model_puts 23 = .ok (.aload_n 0, 1) := by decide +kernel
theorem d_Model_puts_24 : decode b_Model_puts 24 = .ok (.getfield 56, 3) := by decide +kernel
theorem d_Model_puts_27 : decode b_Model_puts 27 = .ok (.iload_n 3, 1) := by decide +kernel
theorem d_Model_puts_28 : decode b_Model_puts 28 = .ok (.iaload, 1) := by decide +kernel
theorem d_Model_puts_29 : decode b_Model_puts 29 = .ok (.iastore, 1) := by decide +kernel
theorem d_Model_puts_30 : decode b_Model_puts 30 = .ok (.iinc 3 1, 3) := by decide +kernel
theorem d_Model_puts_33 : decode b_Model_puts 33 = .ok (.goto (-24), 3) := by decide +kernel
theorem d_Model_puts_36 : decode b_Model_puts 36 = .ok (.return_, 1) := by decide +kernel
def X_Model_puts_L9 (n : Nat) (rows ln : Nat) (a2 : Int32) : Nat → Int32 → Mem → Option (Unit × Mem)
    | 0, _, _ => none
    | m + 1, v3, M => (if (M.1 0 35) ≤ v3 then
    some ((), M)
    else
    gd v3 18 (
      gd ((a2 + 1) + v3) ln (
        X_Model_puts_L9 n rows ln a2 m (v3 + 1) (si M rows (((a2 + 1) + v3).toNatClampNeg) (M.1 16 v3.toNatClampNeg)))))
def X_Model_puts (n : Nat) (rows ln : Nat) (p2 : Int32) (M : Mem) : Option (Unit × Mem) :=
  gd p2 ln (
    X_Model_puts_L9 n rows ln p2 n 0 (si M rows (p2.toNatClampNeg) (M.1 0 35)))
set_option maxRecDepth 20000 in
set_option maxHeartbeats 4000000 in
theorem X_Model_puts_L9_ok {n : Nat} {rows ln : Nat} {a2 : Int32} (h_rows : SHm[rows]? = some (100, [ln])) : ∀ (m : Nat) (v3 : Int32) (M : Mem), J (mt_Model_puts) wU 9 [(0, Value.ref 0), (1, Value.ref rows), (2, Value.int a2), (3, Value.int v3)] [] M (X_Model_puts_L9 n rows ln a2 m v3 M) := by
  intro m
  induction m with
  | zero => intro _ _; exact j_none
  | succ m ih =>
    intro v3 M
    show J _ _ _ _ _ _ ((if (M.1 0 35) ≤ v3 then
some ((), M)
else
gd v3 18 (
gd ((a2 + 1) + v3) ln (
X_Model_puts_L9 n rows ln a2 m (v3 + 1) (si M rows (((a2 + 1) + v3).toNatClampNeg) (M.1 16 v3.toNatClampNeg))))))
    refine j_iload_n (pc := 9) (q := 3) d_Model_puts_9 rfl rfl ?_
    refine j_aload_n (pc := 10) (q := 0) d_Model_puts_10 rfl rfl ?_
    refine j_getI (pc := 11) d_Model_puts_11 fl_Model_229 sm_0 (by decide) rfl ?_
    refine j_icmp_ge (pc := 14) (tgt := 36) d_Model_puts_14 (by decide) (fun _ => ?_) (fun _ => ?_)
    · exact j_return (pc := 36) d_Model_puts_36 rfl
    · refine j_aload_n (pc := 17) (q := 1) d_Model_puts_17 rfl rfl ?_
      refine j_iload_n (pc := 18) (q := 2) d_Model_puts_18 rfl rfl ?_
      refine j_iconst (pc := 19) d_Model_puts_19 k_i_1 ?_
      refine j_iadd (pc := 20) d_Model_puts_20 ?_
      refine j_iload_n (pc := 21) (q := 3) d_Model_puts_21 rfl rfl ?_
      refine j_iadd (pc := 22) d_Model_puts_22 ?_
      refine j_aload_n (pc := 23) (q := 0) d_Model_puts_23 rfl rfl ?_
      refine j_getA (pc := 24) d_Model_puts_24 fl_Model_56 sm_0 (by decide) rfl ?_
      refine j_iload_n (pc := 27) (q := 3) d_Model_puts_27 rfl rfl ?_
      refine j_iald (pc := 28) d_Model_puts_28 sm_16 (fun _ => ?_)
      refine j_iast (pc := 29) d_Model_puts_29 h_rows (fun _ => ?_)
      refine j_iinc (pc := 30) (q := 3) d_Model_puts_30 rfl (congrArg (v3 + ·) k_i_1) (by decide) rfl ?_
      refine j_goto (pc := 33) (tgt := 9) d_Model_puts_33 (by decide) ?_
      refine j_lv [1, 2, 3, 0] rfl ?_
      exact ih (v3 + 1) (si M rows (((a2 + 1) + v3).toNatClampNeg) (M.1 16 v3.toNatClampNeg))
set_option maxRecDepth 20000 in
set_option maxHeartbeats 4000000 in
theorem C_Model_puts (n : Nat) (rows ln : Nat) (h_rows : SHm[rows]? = some (100, [ln])) (p2 : Int32) (M : Mem) : Ct y_Model_puts mt_Model_puts wU [Value.ref 0, Value.ref rows, Value.int p2] M (X_Model_puts n rows ln p2 M) := by
  refine ct_of (by decide +kernel) rfl (Nat.le_of_ble_eq_true rfl) ?_
  show J _ _ _ [(0, Value.ref 0), (1, Value.ref rows), (2, Value.int p2)] _ _ _
  unfold X_Model_puts
  refine j_aload_n (pc := 0) (q := 1) d_Model_puts_0 rfl rfl ?_
  refine j_iload_n (pc := 1) (q := 2) d_Model_puts_1 rfl rfl ?_
  refine j_aload_n (pc := 2) (q := 0) d_Model_puts_2 rfl rfl ?_
  refine j_getI (pc := 3) d_Model_puts_3 fl_Model_229 sm_0 (by decide) rfl ?_
  refine j_iast (pc := 6) d_Model_puts_6 h_rows (fun _ => ?_)
  refine j_iconst (pc := 7) d_Model_puts_7 k_i_0 ?_
  refine j_istore_n (pc := 8) d_Model_puts_8 rfl (by decide) rfl ?_
  refine j_lv [1, 2, 3, 0] rfl ?_
  exact X_Model_puts_L9_ok h_rows  n 0 (si M rows (p2.toNatClampNeg) (M.1 0 35))
-- Model.drops (I)V
def mt_Model_drops : Mt := ("ShakeHandsModel", b_Model_drops, 3, none, 2, SHm)
theorem d_Model_drops_0 : decode b_Model_drops 0 = .ok (.aload_n 0, 1) := by decide +kernel
theorem d_Model_drops_1 : decode b_Model_drops 1 = .ok (.dup, 1) := by decide +kernel
theorem d_Model_drops_2 : decode b_Model_drops 2 = .ok (.getfield 229, 3) := by decide +kernel
theorem d_Model_drops_5 : decode b_Model_drops 5 = .ok (.iconst 1, 1) := by decide +kernel
theorem d_Model_drops_6 : decode b_Model_drops 6 = .ok (.isub, 1) := by decide +kernel
theorem d_Model_drops_7 : decode b_Model_drops 7 = .ok (.putfield 229, 3) := by decide +kernel
theorem d_Model_drops_10 : decode b_Model_drops 10 = .ok (.iload_n 1, 1) := by decide +kernel
theorem d_Model_drops_11 : decode b_Model_drops 11 = .ok (.istore_n 2, 1) := by decide +kernel
theorem d_Model_drops_12 : decode b_Model_drops 12 = .ok (.iload_n 2, 1) := by decide +kernel
theorem d_Model_drops_13 : decode b_Model_drops 13 = .ok (.aload_n 0, 1) := by decide +kernel
theorem d_Model_drops_14 : decode b_Model_drops 14 = .ok (.getfield 229, 3) := by decide +kernel
theorem d_Model_drops_17 : decode b_Model_drops 17 = .ok (.if_icmp .ge 23, 3) := by decide +kernel
theorem d_Model_drops_20 : decode b_Model_drops 20 = .ok (.aload_n 0, 1) := by decide +kernel
theorem d_Model_drops_21 : decode b_Model_drops 21 = .ok (.getfield 56, 3) := by decide +kernel
theorem d_Model_drops_24 : decode b_Model_drops 24 = .ok (.iload_n 2, 1) := by decide +kernel
theorem d_Model_drops_25 : decode b_Model_drops 25 = .ok (.aload_n 0, 1) := by decide +kernel
theorem d_Model_drops_26 : decode b_Model_drops 26 = .ok (.getfield 56, 3) := by decide +kernel
theorem d_Model_drops_29 : decode b_Model_drops 29 = .ok (.iload_n 2, 1) := by decide +kernel
theorem d_Model_drops_30 : decode b_Model_drops 30 = .ok (.iconst 1, 1) := by decide +kernel
theorem d_Model_drops_31 : decode b_Model_drops 31 = .ok (.iadd, 1) := by decide +kernel
theorem d_Model_drops_32 : decode b_Model_drops 32 = .ok (.iaload, 1) := by decide +kernel
theorem d_Model_drops_33 : decode b_Model_drops 33 = .ok (.iastore, 1) := by decide +kernel
theorem d_Model_drops_34 : decode b_Model_drops 34 = .ok (.iinc 2 1, 3) := by decide +kernel
theorem d_Model_drops_37 : decode b_Model_drops 37 = .ok (.goto (-25), 3) := by decide +kernel
theorem d_Model_drops_40 : decode b_Model_drops 40 = .ok (.return_, 1) := by decide +kernel
def X_Model_drops_L12 (n : Nat) : Nat → Int32 → Mem → Option (Unit × Mem)
    | 0, _, _ => none
    | m + 1, v2, M => (if (M.1 0 35) ≤ v2 then
    some ((), M)
    else
    gd (v2 + 1) 18 (
      gd v2 18 (
        X_Model_drops_L12 n m (v2 + 1) (si M 16 (v2.toNatClampNeg) (M.1 16 (v2 + 1).toNatClampNeg)))))
def X_Model_drops (n : Nat) (p1 : Int32) (M : Mem) : Option (Unit × Mem) :=
  X_Model_drops_L12 n n p1 (si M 0 35 ((M.1 0 35) - 1))
set_option maxRecDepth 20000 in
set_option maxHeartbeats 4000000 in
theorem X_Model_drops_L12_ok {n : Nat} : ∀ (m : Nat) (v2 : Int32) (M : Mem), J (mt_Model_drops) wU 12 [(0, Value.ref 0), (2, Value.int v2)] [] M (X_Model_drops_L12 n m v2 M) := by
  intro m
  induction m with
  | zero => intro _ _; exact j_none
  | succ m ih =>
    intro v2 M
    show J _ _ _ _ _ _ ((if (M.1 0 35) ≤ v2 then
some ((), M)
else
gd (v2 + 1) 18 (
gd v2 18 (
X_Model_drops_L12 n m (v2 + 1) (si M 16 (v2.toNatClampNeg) (M.1 16 (v2 + 1).toNatClampNeg))))))
    refine j_iload_n (pc := 12) (q := 1) d_Model_drops_12 rfl rfl ?_
    refine j_aload_n (pc := 13) (q := 0) d_Model_drops_13 rfl rfl ?_
    refine j_getI (pc := 14) d_Model_drops_14 fl_Model_229 sm_0 (by decide) rfl ?_
    refine j_icmp_ge (pc := 17) (tgt := 40) d_Model_drops_17 (by decide) (fun _ => ?_) (fun _ => ?_)
    · exact j_return (pc := 40) d_Model_drops_40 rfl
    · refine j_aload_n (pc := 20) (q := 0) d_Model_drops_20 rfl rfl ?_
      refine j_getA (pc := 21) d_Model_drops_21 fl_Model_56 sm_0 (by decide) rfl ?_
      refine j_iload_n (pc := 24) (q := 1) d_Model_drops_24 rfl rfl ?_
      refine j_aload_n (pc := 25) (q := 0) d_Model_drops_25 rfl rfl ?_
      refine j_getA (pc := 26) d_Model_drops_26 fl_Model_56 sm_0 (by decide) rfl ?_
      refine j_iload_n (pc := 29) (q := 1) d_Model_drops_29 rfl rfl ?_
      refine j_iconst (pc := 30) d_Model_drops_30 k_i_1 ?_
      refine j_iadd (pc := 31) d_Model_drops_31 ?_
      refine j_iald (pc := 32) d_Model_drops_32 sm_16 (fun _ => ?_)
      refine j_iast (pc := 33) d_Model_drops_33 sm_16 (fun _ => ?_)
      refine j_iinc (pc := 34) (q := 1) d_Model_drops_34 rfl (congrArg (v2 + ·) k_i_1) (by decide) rfl ?_
      refine j_goto (pc := 37) (tgt := 12) d_Model_drops_37 (by decide) ?_
      refine j_lv [1, 0] rfl ?_
      exact ih (v2 + 1) (si M 16 (v2.toNatClampNeg) (M.1 16 (v2 + 1).toNatClampNeg))
set_option maxRecDepth 20000 in
set_option maxHeartbeats 4000000 in
theorem C_Model_drops (n : Nat)   (p1 : Int32) (M : Mem) : Ct y_Model_drops mt_Model_drops wU [Value.ref 0, Value.int p1] M (X_Model_drops n p1 M) := by
  refine ct_of (by decide +kernel) rfl (Nat.le_of_ble_eq_true rfl) ?_
  show J _ _ _ [(0, Value.ref 0), (1, Value.int p1)] _ _ _
  unfold X_Model_drops
  refine j_aload_n (pc := 0) (q := 0) d_Model_drops_0 rfl rfl ?_
  refine j_dup (pc := 1) d_Model_drops_1 rfl ?_
  refine j_getI (pc := 2) d_Model_drops_2 fl_Model_229 sm_0 (by decide) rfl ?_
  refine j_iconst (pc := 5) d_Model_drops_5 k_i_1 ?_
  refine j_isub (pc := 6) d_Model_drops_6 ?_
  refine j_putI (pc := 7) d_Model_drops_7 fl_Model_229 rfl sm_0 (by decide) rfl ?_
  refine j_iload_n (pc := 10) (q := 1) d_Model_drops_10 rfl rfl ?_
  refine j_istore_n (pc := 11) d_Model_drops_11 rfl (by decide) rfl ?_
  refine j_lv [1, 0] rfl ?_
  exact X_Model_drops_L12_ok   n p1 (si M 0 35 ((M.1 0 35) - 1))
-- Model.settles ()V
def mt_Model_settles : Mt := ("ShakeHandsModel", b_Model_settles, 3, none, 4, SHm)
theorem d_Model_settles_0 : decode b_Model_settles 0 = .ok (.iconst 1, 1) := by decide +kernel
theorem d_Model_settles_1 : decode b_Model_settles 1 = .ok (.istore_n 1, 1) := by decide +kernel
theorem d_Model_settles_2 : decode b_Model_settles 2 = .ok (.iload_n 1, 1) := by decide +kernel
theorem d_Model_settles_3 : decode b_Model_settles 3 = .ok (.ifCond .eq 114, 3) := by decide +kernel
theorem d_Model_settles_6 : decode b_Model_settles 6 = .ok (.iconst 0, 1) := by decide +kernel
theorem d_Model_settles_7 : decode b_Model_settles 7 = .ok (.istore_n 1, 1) := by decide +kernel
theorem d_Model_settles_8 : decode b_Model_settles 8 = .ok (.iconst 0, 1) := by decide +kernel
theorem d_Model_settles_9 : decode b_Model_settles 9 = .ok (.istore_n 2, 1) := by decide +kernel
theorem d_Model_settles_10 : decode b_Model_settles 10 = .ok (.iload_n 2, 1) := by decide +kernel
theorem d_Model_settles_11 : decode b_Model_settles 11 = .ok (.aload_n 0, 1) := by decide +kernel
theorem d_Model_settles_12 : decode b_Model_settles 12 = .ok (.getfield 125, 3) := by decide +kernel
theorem d_Model_settles_15 : decode b_Model_settles 15 = .ok (.if_icmp .ge 99, 3) := by decide +kernel
theorem d_Model_settles_18 : decode b_Model_settles 18 = .ok (.iload_n 1, 1) := by decide +kernel
theorem d_Model_settles_19 : decode b_Model_settles 19 = .ok (.ifCond .ne 95, 3) := by decide +kernel
theorem d_Model_settles_22 : decode b_Model_settles 22 = .ok (.aload_n 0, 1) := by decide +kernel
theorem d_Model_settles_23 : decode b_Model_settles 23 = .ok (.aload_n 0, 1) := by decide +kernel
theorem d_Model_settles_24 : decode b_Model_settles 24 = .ok (.getfield 17, 3) := by decide +kernel
theorem d_Model_settles_27 : decode b_Model_settles 27 = .ok (.iconst 3, 1) := by decide +kernel
theorem d_Model_settles_28 : decode b_Model_settles 28 = .ok (.iload_n 2, 1) := by decide +kernel
theorem d_Model_settles_29 : decode b_Model_settles 29 = .ok (.imul, 1) := by decide +kernel
theorem d_Model_settles_30 : decode b_Model_settles 30 = .ok (.iaload, 1) := by decide +kernel
theorem d_Model_settles_31 : decode b_Model_settles 31 = .ok (.invokevirtual 232, 3) := by decide +kernel
theorem d_Model_settles_34 : decode b_Model_settles 34 = .ok (.bipush (-4), 2) := by decide +kernel
theorem d_Model_settles_36 : decode b_Model_settles 36 = .ok (.if_icmp .eq 72, 3) := by decide +kernel
theorem d_Model_settles_39 : decode b_Model_settles 39 = .ok (.aload_n 0, 1) := by decide +kernel
theorem d_Model_settles_40 : decode b_Model_settles 40 = .ok (.aload_n 0, 1) := by decide +kernel
theorem d_Model_settles_41 : decode b_Model_settles 41 = .ok (.getfield 17, 3) := by decide +kernel
theorem d_Model_settles_44 : decode b_Model_settles 44 = .ok (.iconst 3, 1) := by decide +kernel
theorem d_Model_settles_45 : decode b_Model_settles 45 = .ok (.iload_n 2, 1) := by decide +kernel
theorem d_Model_settles_46 : decode b_Model_settles 46 = .ok (.imul, 1) := by decide +kernel
theorem d_Model_settles_47 : decode b_Model_settles 47 = .ok (.iconst 1, 1) := by decide +kernel
theorem d_Model_settles_48 : decode b_Model_settles 48 = .ok (.iadd, 1) := by decide +kernel
theorem d_Model_settles_49 : decode b_Model_settles 49 = .ok (.iaload, 1) := by decide +kernel
theorem d_Model_settles_50 : decode b_Model_settles 50 = .ok (.invokevirtual 232, 3) := by decide +kernel
theorem d_Model_settles_53 : decode b_Model_settles 53 = .ok (.bipush (-4), 2) := by decide +kernel
theorem d_Model_settles_55 : decode b_Model_settles 55 = .ok (.if_icmp .eq 53, 3) := by decide +kernel
theorem d_Model_settles_58 : decode b_Model_settles 58 = .ok (.aload_n 0, 1) := by decide +kernel
theorem d_Model_settles_59 : decode b_Model_settles 59 = .ok (.aload_n 0, 1) := by decide +kernel
theorem d_Model_settles_60 : decode b_Model_settles 60 = .ok (.aload_n 0, 1) := by decide +kernel
theorem d_Model_settles_61 : decode b_Model_settles 61 = .ok (.getfield 17, 3) := by decide +kernel
theorem d_Model_settles_64 : decode b_Model_settles 64 = .ok (.iconst 3, 1) := by decide +kernel
theorem d_Model_settles_65 : decode b_Model_settles 65 = .ok (.iload_n 2, 1) := by decide +kernel
theorem d_Model_settles_66 : decode b_Model_settles 66 = .ok (.imul, 1) := by decide +kernel
theorem d_Model_settles_67 : decode b_Model_settles 67 = .ok (.iaload, 1) := by decide +kernel
theorem d_Model_settles_68 : decode b_Model_settles 68 = .ok (.invokevirtual 232, 3) := by decide +kernel
theorem d_Model_settles_71 : decode b_Model_settles 71 = .ok (.invokevirtual 235, 3) := by decide +kernel
theorem d_Model_settles_74 : decode b_Model_settles 74 = .ok (.aload_n 0, 1) := by decide +kernel
theorem d_Model_settles_75 : decode b_Model_settles 75 = .ok (.aload_n 0, 1) := by decide +kernel
theorem d_Model_settles_76 : decode b_Model_settles 76 = .ok (.aload_n 0, 1) := by decide +kernel
theorem d_Model_settles_77 : decode b_Model_settles 77 = .ok (.getfield 17, 3) := by decide +kernel
theorem d_Model_settles_80 : decode b_Model_settles 80 = .ok (.iconst 3, 1) := by decide +kernel
theorem d_Model_settles_81 : decode b_Model_settles 81 = .ok (.iload_n 2, 1) := by decide +kernel
theorem d_Model_settles_82 : decode b_Model_settles 82 = .ok (.imul, 1) := by decide +kernel
theorem d_Model_settles_83 : decode b_Model_settles 83 = .ok (.iconst 1, 1) := by decide +kernel
theorem d_Model_settles_84 : decode b_Model_settles 84 = .ok (.iadd, 1) := by decide +kernel
theorem d_Model_settles_85 : decode b_Model_settles 85 = .ok (.iaload, 1) := by decide +kernel
theorem d_Model_settles_86 : decode b_Model_settles 86 = .ok (.invokevirtual 232, 3) := by decide +kernel
theorem d_Model_settles_89 : decode b_Model_settles 89 = .ok (.invokevirtual 235, 3) := by decide +kernel
theorem d_Model_settles_92 : decode b_Model_settles 92 = .ok (.aload_n 0, 1) := by decide +kernel
theorem d_Model_settles_93 : decode b_Model_settles 93 = .ok (.aload_n 0, 1) := by decide +kernel
theorem d_Model_settles_94 : decode b_Model_settles 94 = .ok (.getfield 17, 3) := by decide +kernel
theorem d_Model_settles_97 : decode b_Model_settles 97 = .ok (.iconst 3, 1) := by decide +kernel
theorem d_Model_settles_98 : decode b_Model_settles 98 = .ok (.iload_n 2, 1) := by decide +kernel
theorem d_Model_settles_99 : decode b_Model_settles 99 = .ok (.imul, 1) := by decide +kernel
theorem d_Model_settles_100 : decode b_Model_settles 100 = .ok (.iconst 2, 1) := by decide +kernel
theorem d_Model_settles_101 : decode b_Model_settles 101 = .ok (.iadd, 1) := by decide +kernel
theorem d_Model_settles_102 : decode b_Model_settles 102 = .ok (.iaload, 1) := by decide +kernel
theorem d_Model_settles_103 : decode b_Model_settles 103 = .ok (.invokevirtual 238, 3) := by decide +kernel
theorem d_Model_settles_106 : decode b_Model_settles 106 = .ok (.iconst 1, 1) := by decide +kernel
theorem d_Model_settles_107 : decode b_Model_settles 107 = .ok (.istore_n 1, 1) := by decide +kernel
theorem d_Model_settles_108 : decode b_Model_settles 108 = .ok (.iinc 2 1, 3) := by decide +kernel
theorem d_Model_settles_111 : decode b_Model_settles 111 = .ok (.goto (-101), 3) := by decide +kernel
theorem d_Model_settles_114 : decode b_Model_settles 114 = .ok (.goto (-112), 3) := by decide +kernel
theorem d_Model_settles_117 : decode b_Model_settles 117 = .ok (.aload_n 0, 1) := by decide +kernel
theorem d_Model_settles_118 : decode b_Model_settles 118 = .ok (.getfield 229, 3) := by decide +kernel
theorem d_Model_settles_121 : decode b_Model_settles 121 = .ok (.aload_n 0, 1) := by decide +kernel
theorem d_Model_settles_122 : decode b_Model_settles 122 = .ok (.getfield 122, 3) := by decide +kernel
theorem d_Model_settles_125 : decode b_Model_settles 125 = .ok (.if_icmp .le 11, 3) := by decide +kernel
theorem d_Model_settles_128 : decode b_Model_settles 128 = .ok (.aload_n 0, 1) := by decide +kernel
theorem d_Model_settles_129 : decode b_Model_settles 129 = .ok (.iconst 0, 1) := by decide +kernel
theorem d_Model_settles_130 : decode b_Model_settles 130 = .ok (.invokevirtual 235, 3) := by decide +kernel
theorem d_Model_settles_133 : decode b_Model_settles 133 = .ok (.goto (-16), 3) := by decide +kernel
theorem d_Model_settles_136 : decode b_Model_settles 136 = .ok (.return_, 1) := by decide +kernel
def X_Model_settles_L10 (n : Nat) (kx114 : Int32 → Mem → Option (Unit × Mem)) : Nat → Int32 → Int32 → Mem → Option (Unit × Mem)
    | 0, _, _, _ => none
    | m + 1, v1, v2, M => (if (M.1 0 4) ≤ v2 then
    kx114 v1 M
    else
    (if v1 = 0 then
      gd ((3 : Int32) * v2) 12 (
        bd (X_Model_place n (M.1 3 ((3 : Int32) * v2).toNatClampNeg) M) fun r1 M2 =>
        nm (fun (z3 : Int32) (M4 : Mem) => (X_Model_settles_L10 n kx114 m z3 (v2 + 1) M4 : Option (Unit × Mem))) fun k108 =>
        (if r1 = (-4) then
          k108 v1 M2
          else
          gd (((3 : Int32) * v2) + 1) 12 (
            bd (X_Model_place n (M2.1 3 (((3 : Int32) * v2) + 1).toNatClampNeg) M2) fun r5 M6 =>
            (if r5 = (-4) then
              k108 v1 M6
              else
              gd ((3 : Int32) * v2) 12 (
                bd (X_Model_place n (M6.1 3 ((3 : Int32) * v2).toNatClampNeg) M6) fun r7 M8 =>
                bd (X_Model_drops n r7 M8) fun _ M10 =>
                gd (((3 : Int32) * v2) + 1) 12 (
                  bd (X_Model_place n (M10.1 3 (((3 : Int32) * v2) + 1).toNatClampNeg) M10) fun r11 M12 =>
                  bd (X_Model_drops n r11 M12) fun _ M14 =>
                  gd (((3 : Int32) * v2) + 2) 12 (
                    bd (X_Model_adds n (M14.1 3 (((3 : Int32) * v2) + 2).toNatClampNeg) M14) fun _ M16 =>
                    k108 1 M16)))))))
      else
      kx114 v1 M))
def X_Model_settles_L2 (n : Nat) (kx117 : Mem → Option (Unit × Mem)) : Nat → Int32 → Mem → Option (Unit × Mem)
    | 0, _, _ => none
    | m + 1, v1, M => (if v1 = 0 then
    kx117 M
    else
    X_Model_settles_L10 n (fun y17 M18 => X_Model_settles_L2 n kx117 m y17 M18) n 0 0 M)
def X_Model_settles_L117 (n : Nat) : Nat → Mem → Option (Unit × Mem)
    | 0, _ => none
    | m + 1, M => (if (M.1 0 35) ≤ (M.1 0 3) then
    some ((), M)
    else
    bd (X_Model_drops n 0 M) fun _ M21 =>
    X_Model_settles_L117 n m M21)
def X_Model_settles (n : Nat) (M : Mem) : Option (Unit × Mem) :=
  X_Model_settles_L2 n (fun M19 => X_Model_settles_L117 n n M19) n 1 M
set_option maxRecDepth 20000 in
set_option maxHeartbeats 4000000 in
theorem X_Model_settles_L10_ok {n : Nat} {kx114 : Int32 → Mem → Option (Unit × Mem)} (hkx114 : ∀ (w1 : Int32) (M : Mem), J (mt_Model_settles) wU 114 [(0, Value.ref 0), (1, Value.int w1)] [] M (kx114 w1 M)) : ∀ (m : Nat) (v1 : Int32) (v2 : Int32) (M : Mem), J (mt_Model_settles) wU 10 [(0, Value.ref 0), (1, Value.int v1), (2, Value.int v2)] [] M (X_Model_settles_L10 n kx114 m v1 v2 M) := by
  intro m
  induction m with
  | zero => intro _ _ _; exact j_none
  | succ m ih =>
    intro v1 v2 M
    show J _ _ _ _ _ _ ((if (M.1 0 4) ≤ v2 then
kx114 v1 M
else
(if v1 = 0 then
gd ((3 : Int32) * v2) 12 (
bd (X_Model_place n (M.1 3 ((3 : Int32) * v2).toNatClampNeg) M) fun r1 M2 =>
nm (fun (z3 : Int32) (M4 : Mem) => (X_Model_settles_L10 n kx114 m z3 (v2 + 1) M4 : Option (Unit × Mem))) fun k108 =>
(if r1 = (-4) then
k108 v1 M2
else
gd (((3 : Int32) * v2) + 1) 12 (
bd (X_Model_place n (M2.1 3 (((3 : Int32) * v2) + 1).toNatClampNeg) M2) fun r5 M6 =>
(if r5 = (-4) then
k108 v1 M6
else
gd ((3 : Int32) * v2) 12 (
bd (X_Model_place n (M6.1 3 ((3 : Int32) * v2).toNatClampNeg) M6) fun r7 M8 =>
bd (X_Model_drops n r7 M8) fun _ M10 =>
gd (((3 : Int32) * v2) + 1) 12 (
bd (X_Model_place n (M10.1 3 (((3 : Int32) * v2) + 1).toNatClampNeg) M10) fun r11 M12 =>
bd (X_Model_drops n r11 M12) fun _ M14 =>
gd (((3 : Int32) * v2) + 2) 12 (
bd (X_Model_adds n (M14.1 3 (((3 : Int32) * v2) + 2).toNatClampNeg) M14) fun _ M16 =>
k108 1 M16)))))))
else
kx114 v1 M)))
    refine j_iload_n (pc := 10) (q := 2) d_Model_settles_10 rfl rfl ?_
    refine j_aload_n (pc := 11) (q := 0) d_Model_settles_11 rfl rfl ?_
    refine j_getI (pc := 12) d_Model_settles_12 fl_Model_125 sm_0 (by decide) rfl ?_
    refine j_icmp_ge (pc := 15) (tgt := 114) d_Model_settles_15 (by decide) (fun _ => ?_) (fun _ => ?_)
    · refine j_lv [0, 1] rfl ?_
      exact hkx114 v1 M
    · refine j_iload_n (pc := 18) (q := 1) d_Model_settles_18 rfl rfl ?_
      refine j_if_ne (pc := 19) (tgt := 114) d_Model_settles_19 (by decide) (fun _ => ?_) (fun _ => ?_)
      · refine j_lv [0, 1] rfl ?_
        exact hkx114 v1 M
      · refine j_aload_n (pc := 22) (q := 0) d_Model_settles_22 rfl rfl ?_
        refine j_aload_n (pc := 23) (q := 0) d_Model_settles_23 rfl rfl ?_
        refine j_getA (pc := 24) d_Model_settles_24 fl_Model_17 sm_0 (by decide) rfl ?_
        refine j_iconst (pc := 27) d_Model_settles_27 k_i_3 ?_
        refine j_iload_n (pc := 28) (q := 2) d_Model_settles_28 rfl rfl ?_
        refine j_imul (pc := 29) d_Model_settles_29 ?_
        refine j_iald (pc := 30) d_Model_settles_30 sm_3 (fun _ => ?_)
        refine j_callV1 (pc := 31) d_Model_settles_31 (C_Model_place n (M.1 3 ((3 : Int32) * v2).toNatClampNeg) M) cV_Model_232 cd_Model_place dn_Model_place rfl (by decide) (Nat.le_of_ble_eq_true rfl) (Nat.le_of_ble_eq_true rfl) nr_I sm_0 (by decide) rfl (fun r1 M2 => ?_)
        refine j_bipush (pc := 34) d_Model_settles_34 k_b_m4 ?_
        refine j_nmk (fun k => ∀ (z3 : Int32) (M4 : Mem), J (mt_Model_settles) wU 108 [(0, Value.ref 0), (1, Value.int z3), (2, Value.int v2)] [] M4 (k z3 M4)) (fun z3 M4 => ?_) (fun k108 hk108 => ?_)
        · refine j_iinc (pc := 108) (q := 2) d_Model_settles_108 rfl (congrArg (v2 + ·) k_i_1) (by decide) rfl ?_
          refine j_goto (pc := 111) (tgt := 10) d_Model_settles_111 (by decide) ?_
          refine j_lv [1, 2, 0] rfl ?_
          exact ih z3 (v2 + 1) M4
        · refine j_icmp_eq (pc := 36) (tgt := 108) d_Model_settles_36 (by decide) (fun _ => ?_) (fun _ => ?_)
          · exact hk108 v1 M2
          · refine j_aload_n (pc := 39) (q := 0) d_Model_settles_39 rfl rfl ?_
            refine j_aload_n (pc := 40) (q := 0) d_Model_settles_40 rfl rfl ?_
            refine j_getA (pc := 41) d_Model_settles_41 fl_Model_17 sm_0 (by decide) rfl ?_
            refine j_iconst (pc := 44) d_Model_settles_44 k_i_3 ?_
            refine j_iload_n (pc := 45) (q := 2) d_Model_settles_45 rfl rfl ?_
            refine j_imul (pc := 46) d_Model_settles_46 ?_
            refine j_iconst (pc := 47) d_Model_settles_47 k_i_1 ?_
            refine j_iadd (pc := 48) d_Model_settles_48 ?_
            refine j_iald (pc := 49) d_Model_settles_49 sm_3 (fun _ => ?_)
            refine j_callV1 (pc := 50) d_Model_settles_50 (C_Model_place n (M2.1 3 (((3 : Int32) * v2) + 1).toNatClampNeg) M2) cV_Model_232 cd_Model_place dn_Model_place rfl (by decide) (Nat.le_of_ble_eq_true rfl) (Nat.le_of_ble_eq_true rfl) nr_I sm_0 (by decide) rfl (fun r5 M6 => ?_)
            refine j_bipush (pc := 53) d_Model_settles_53 k_b_m4 ?_
            refine j_icmp_eq (pc := 55) (tgt := 108) d_Model_settles_55 (by decide) (fun _ => ?_) (fun _ => ?_)
            · exact hk108 v1 M6
            · refine j_aload_n (pc := 58) (q := 0) d_Model_settles_58 rfl rfl ?_
              refine j_aload_n (pc := 59) (q := 0) d_Model_settles_59 rfl rfl ?_
              refine j_aload_n (pc := 60) (q := 0) d_Model_settles_60 rfl rfl ?_
              refine j_getA (pc := 61) d_Model_settles_61 fl_Model_17 sm_0 (by decide) rfl ?_
              refine j_iconst (pc := 64) d_Model_settles_64 k_i_3 ?_
              refine j_iload_n (pc := 65) (q := 2) d_Model_settles_65 rfl rfl ?_
              refine j_imul (pc := 66) d_Model_settles_66 ?_
              refine j_iald (pc := 67) d_Model_settles_67 sm_3 (fun _ => ?_)
              refine j_callV1 (pc := 68) d_Model_settles_68 (C_Model_place n (M6.1 3 ((3 : Int32) * v2).toNatClampNeg) M6) cV_Model_232 cd_Model_place dn_Model_place rfl (by decide) (Nat.le_of_ble_eq_true rfl) (Nat.le_of_ble_eq_true rfl) nr_I sm_0 (by decide) rfl (fun r7 M8 => ?_)
              refine j_callV1 (pc := 71) d_Model_settles_71 (C_Model_drops n r7 M8) cV_Model_235 cd_Model_drops dn_Model_drops rfl (by decide) (Nat.le_of_ble_eq_true rfl) (Nat.le_of_ble_eq_true rfl) nr_U sm_0 (by decide) rfl (fun r9 M10 => ?_)
              refine j_aload_n (pc := 74) (q := 0) d_Model_settles_74 rfl rfl ?_
              refine j_aload_n (pc := 75) (q := 0) d_Model_settles_75 rfl rfl ?_
              refine j_aload_n (pc := 76) (q := 0) d_Model_settles_76 rfl rfl ?_
              refine j_getA (pc := 77) d_Model_settles_77 fl_Model_17 sm_0 (by decide) rfl ?_
              refine j_iconst (pc := 80) d_Model_settles_80 k_i_3 ?_
              refine j_iload_n (pc := 81) (q := 2) d_Model_settles_81 rfl rfl ?_
              refine j_imul (pc := 82) d_Model_settles_82 ?_
              refine j_iconst (pc := 83) d_Model_settles_83 k_i_1 ?_
              refine j_iadd (pc := 84) d_Model_settles_84 ?_
              refine j_iald (pc := 85) d_Model_settles_85 sm_3 (fun _ => ?_)
              refine j_callV1 (pc := 86) d_Model_settles_86 (C_Model_place n (M10.1 3 (((3 : Int32) * v2) + 1).toNatClampNeg) M10) cV_Model_232 cd_Model_place dn_Model_place rfl (by decide) (Nat.le_of_ble_eq_true rfl) (Nat.le_of_ble_eq_true rfl) nr_I sm_0 (by decide) rfl (fun r11 M12 => ?_)
              refine j_callV1 (pc := 89) d_Model_settles_89 (C_Model_drops n r11 M12) cV_Model_235 cd_Model_drops dn_Model_drops rfl (by decide) (Nat.le_of_ble_eq_true rfl) (Nat.le_of_ble_eq_true rfl) nr_U sm_0 (by decide) rfl (fun r13 M14 => ?_)
              refine j_aload_n (pc := 92) (q := 0) d_Model_settles_92 rfl rfl ?_
              refine j_aload_n (pc := 93) (q := 0) d_Model_settles_93 rfl rfl ?_
              refine j_getA (pc := 94) d_Model_settles_94 fl_Model_17 sm_0 (by decide) rfl ?_
              refine j_iconst (pc := 97) d_Model_settles_97 k_i_3 ?_
              refine j_iload_n (pc := 98) (q := 2) d_Model_settles_98 rfl rfl ?_
              refine j_imul (pc := 99) d_Model_settles_99 ?_
              refine j_iconst (pc := 100) d_Model_settles_100 k_i_2 ?_
              refine j_iadd (pc := 101) d_Model_settles_101 ?_
              refine j_iald (pc := 102) d_Model_settles_102 sm_3 (fun _ => ?_)
              refine j_callV1 (pc := 103) d_Model_settles_103 (C_Model_adds n (M14.1 3 (((3 : Int32) * v2) + 2).toNatClampNeg) M14) cV_Model_238 cd_Model_adds dn_Model_adds rfl (by decide) (Nat.le_of_ble_eq_true rfl) (Nat.le_of_ble_eq_true rfl) nr_U sm_0 (by decide) rfl (fun r15 M16 => ?_)
              refine j_iconst (pc := 106) d_Model_settles_106 k_i_1 ?_
              refine j_istore_n (pc := 107) d_Model_settles_107 rfl (by decide) rfl ?_
              refine j_lv [1, 0, 2] rfl ?_
              exact hk108 1 M16
set_option maxRecDepth 20000 in
set_option maxHeartbeats 4000000 in
theorem X_Model_settles_L2_ok {n : Nat} {kx117 : Mem → Option (Unit × Mem)} (hkx117 : ∀ (M : Mem), J (mt_Model_settles) wU 117 [(0, Value.ref 0)] [] M (kx117 M)) : ∀ (m : Nat) (v1 : Int32) (M : Mem), J (mt_Model_settles) wU 2 [(0, Value.ref 0), (1, Value.int v1)] [] M (X_Model_settles_L2 n kx117 m v1 M) := by
  intro m
  induction m with
  | zero => intro _ _; exact j_none
  | succ m ih =>
    intro v1 M
    show J _ _ _ _ _ _ ((if v1 = 0 then
kx117 M
else
X_Model_settles_L10 n (fun y17 M18 => X_Model_settles_L2 n kx117 m y17 M18) n 0 0 M))
    refine j_iload_n (pc := 2) (q := 1) d_Model_settles_2 rfl rfl ?_
    refine j_if_eq (pc := 3) (tgt := 117) d_Model_settles_3 (by decide) (fun _ => ?_) (fun _ => ?_)
    · refine j_lv [0] rfl ?_
      exact hkx117 M
    · refine j_iconst (pc := 6) d_Model_settles_6 k_i_0 ?_
      refine j_istore_n (pc := 7) d_Model_settles_7 rfl (by decide) rfl ?_
      refine j_iconst (pc := 8) d_Model_settles_8 k_i_0 ?_
      refine j_istore_n (pc := 9) d_Model_settles_9 rfl (by decide) rfl ?_
      refine j_lv [2, 1, 0] rfl ?_
      refine X_Model_settles_L10_ok  (fun y17 M18 => ?_) n 0 0 M
      refine j_goto (pc := 114) (tgt := 2) d_Model_settles_114 (by decide) ?_
      exact ih y17 M18
set_option maxRecDepth 20000 in
set_option maxHeartbeats 4000000 in
theorem X_Model_settles_L117_ok {n : Nat} : ∀ (m : Nat) (M : Mem), J (mt_Model_settles) wU 117 [(0, Value.ref 0)] [] M (X_Model_settles_L117 n m M) := by
  intro m
  induction m with
  | zero => intro _; exact j_none
  | succ m ih =>
    intro M
    show J _ _ _ _ _ _ ((if (M.1 0 35) ≤ (M.1 0 3) then
some ((), M)
else
bd (X_Model_drops n 0 M) fun _ M21 =>
X_Model_settles_L117 n m M21))
    refine j_aload_n (pc := 117) (q := 0) d_Model_settles_117 rfl rfl ?_
    refine j_getI (pc := 118) d_Model_settles_118 fl_Model_229 sm_0 (by decide) rfl ?_
    refine j_aload_n (pc := 121) (q := 0) d_Model_settles_121 rfl rfl ?_
    refine j_getI (pc := 122) d_Model_settles_122 fl_Model_122 sm_0 (by decide) rfl ?_
    refine j_icmp_le (pc := 125) (tgt := 136) d_Model_settles_125 (by decide) (fun _ => ?_) (fun _ => ?_)
    · exact j_return (pc := 136) d_Model_settles_136 rfl
    · refine j_aload_n (pc := 128) (q := 0) d_Model_settles_128 rfl rfl ?_
      refine j_iconst (pc := 129) d_Model_settles_129 k_i_0 ?_
      refine j_callV1 (pc := 130) d_Model_settles_130 (C_Model_drops n 0 M) cV_Model_235 cd_Model_drops dn_Model_drops rfl (by decide) (Nat.le_of_ble_eq_true rfl) (Nat.le_of_ble_eq_true rfl) nr_U sm_0 (by decide) rfl (fun r20 M21 => ?_)
      refine j_goto (pc := 133) (tgt := 117) d_Model_settles_133 (by decide) ?_
      exact ih M21
set_option maxRecDepth 20000 in
set_option maxHeartbeats 4000000 in
theorem C_Model_settles (n : Nat)    (M : Mem) : Ct y_Model_settles mt_Model_settles wU [Value.ref 0] M (X_Model_settles n M) := by
  refine ct_of (by decide +kernel) rfl (Nat.le_of_ble_eq_true rfl) ?_
  show J _ _ _ [(0, Value.ref 0)] _ _ _
  unfold X_Model_settles
  refine j_iconst (pc := 0) d_Model_settles_0 k_i_1 ?_
  refine j_istore_n (pc := 1) d_Model_settles_1 rfl (by decide) rfl ?_
  refine j_lv [1, 0] rfl ?_
  refine X_Model_settles_L2_ok  (fun M19 => ?_) n 1 M
  exact X_Model_settles_L117_ok   n M19
-- Model.takes ([II)V
def mt_Model_takes : Mt := ("ShakeHandsModel", b_Model_takes, 4, none, 4, SHm)
theorem d_Model_takes_0 : decode b_Model_takes 0 = .ok (.iconst 0, 1) := by decide +kernel
theorem d_Model_takes_1 : decode b_Model_takes 1 = .ok (.istore_n 3, 1) := by decide +kernel
theorem d_Model_takes_2 : decode b_Model_takes 2 = .ok (.iload_n 3, 1) := by decide +kernel
theorem d_Model_takes_3 : decode b_Model_takes 3 = .ok (.aload_n 1, 1) := by decide +kernel
theorem d_Model_takes_4 : decode b_Model_takes 4 = .ok (.iload_n 2, 1) := by decide +kernel
theorem d_Model_takes_5 : decode b_Model_takes 5 = .ok (.iaload, 1) := by decide +kernel
theorem d_Model_takes_6 : decode b_Model_takes 6 = .ok (.if_icmp .ge 20, 3) := by decide +kernel
theorem d_Model_takes_9 : decode b_Model_takes 9 = .ok (.aload_n 0, 1) := by decide +kernel
theorem d_Model_takes_10 : decode b_Model_takes 10 = .ok (.aload_n 1, 1) := by decide +kernel
theorem d_Model_takes_11 : decode b_Model_takes 11 = .ok (.iload_n 2, 1) := by decide +kernel
theorem d_Model_takes_12 : decode b_Model_takes 12 = .ok (.iconst 1, 1) := by decide +kernel
theorem d_Model_takes_13 : decode b_Model_takes 13 = .ok (.iadd, 1) := by decide +kernel
theorem d_Model_takes_14 : decode b_Model_takes 14 = .ok (.iload_n 3, 1) := by decide +kernel
theorem d_Model_takes_15 : decode b_Model_takes 15 = .ok (.iadd, 1) := by decide +kernel
theorem d_Model_takes_16 : decode b_Model_takes 16 = .ok (.iaload, 1) := by decide +kernel
theorem d_Model_takes_17 : decode b_Model_takes 17 = .ok (.invokevirtual 238, 3) := by decide +kernel
theorem d_Model_takes_20 : decode b_Model_takes 20 = .ok (.iinc 3 1, 3) := by decide +kernel
theorem d_Model_takes_23 : decode b_Model_takes 23 = .ok (.goto (-21), 3) := by decide +kernel
theorem d_Model_takes_26 : decode b_Model_takes 26 = .ok (.return_, 1) := by decide +kernel
def X_Model_takes_L2 (n : Nat) (rows ln : Nat) (a2 : Int32) : Nat → Int32 → Mem → Option (Unit × Mem)
    | 0, _, _ => none
    | m + 1, v3, M => gd a2 ln (
    (if (M.1 rows a2.toNatClampNeg) ≤ v3 then
      some ((), M)
      else
      gd ((a2 + 1) + v3) ln (
        bd (X_Model_adds n (M.1 rows ((a2 + 1) + v3).toNatClampNeg) M) fun _ M2 =>
        X_Model_takes_L2 n rows ln a2 m (v3 + 1) M2)))
def X_Model_takes (n : Nat) (rows ln : Nat) (p2 : Int32) (M : Mem) : Option (Unit × Mem) :=
  X_Model_takes_L2 n rows ln p2 n 0 M
set_option maxRecDepth 20000 in
set_option maxHeartbeats 4000000 in
theorem X_Model_takes_L2_ok {n : Nat} {rows ln : Nat} {a2 : Int32} (h_rows : SHm[rows]? = some (100, [ln])) : ∀ (m : Nat) (v3 : Int32) (M : Mem), J (mt_Model_takes) wU 2 [(0, Value.ref 0), (1, Value.ref rows), (2, Value.int a2), (3, Value.int v3)] [] M (X_Model_takes_L2 n rows ln a2 m v3 M) := by
  intro m
  induction m with
  | zero => intro _ _; exact j_none
  | succ m ih =>
    intro v3 M
    show J _ _ _ _ _ _ (gd a2 ln (
(if (M.1 rows a2.toNatClampNeg) ≤ v3 then
some ((), M)
else
gd ((a2 + 1) + v3) ln (
bd (X_Model_adds n (M.1 rows ((a2 + 1) + v3).toNatClampNeg) M) fun _ M2 =>
X_Model_takes_L2 n rows ln a2 m (v3 + 1) M2))))
    refine j_iload_n (pc := 2) (q := 3) d_Model_takes_2 rfl rfl ?_
    refine j_aload_n (pc := 3) (q := 1) d_Model_takes_3 rfl rfl ?_
    refine j_iload_n (pc := 4) (q := 2) d_Model_takes_4 rfl rfl ?_
    refine j_iald (pc := 5) d_Model_takes_5 h_rows (fun _ => ?_)
    refine j_icmp_ge (pc := 6) (tgt := 26) d_Model_takes_6 (by decide) (fun _ => ?_) (fun _ => ?_)
    · exact j_return (pc := 26) d_Model_takes_26 rfl
    · refine j_aload_n (pc := 9) (q := 0) d_Model_takes_9 rfl rfl ?_
      refine j_aload_n (pc := 10) (q := 1) d_Model_takes_10 rfl rfl ?_
      refine j_iload_n (pc := 11) (q := 2) d_Model_takes_11 rfl rfl ?_
      refine j_iconst (pc := 12) d_Model_takes_12 k_i_1 ?_
      refine j_iadd (pc := 13) d_Model_takes_13 ?_
      refine j_iload_n (pc := 14) (q := 3) d_Model_takes_14 rfl rfl ?_
      refine j_iadd (pc := 15) d_Model_takes_15 ?_
      refine j_iald (pc := 16) d_Model_takes_16 h_rows (fun _ => ?_)
      refine j_callV1 (pc := 17) d_Model_takes_17 (C_Model_adds n (M.1 rows ((a2 + 1) + v3).toNatClampNeg) M) cV_Model_238 cd_Model_adds dn_Model_adds rfl (by decide) (Nat.le_of_ble_eq_true rfl) (Nat.le_of_ble_eq_true rfl) nr_U sm_0 (by decide) rfl (fun r1 M2 => ?_)
      refine j_iinc (pc := 20) (q := 3) d_Model_takes_20 rfl (congrArg (v3 + ·) k_i_1) (by decide) rfl ?_
      refine j_goto (pc := 23) (tgt := 2) d_Model_takes_23 (by decide) ?_
      refine j_lv [1, 2, 3, 0] rfl ?_
      exact ih (v3 + 1) M2
set_option maxRecDepth 20000 in
set_option maxHeartbeats 4000000 in
theorem C_Model_takes (n : Nat) (rows ln : Nat) (h_rows : SHm[rows]? = some (100, [ln])) (p2 : Int32) (M : Mem) : Ct y_Model_takes mt_Model_takes wU [Value.ref 0, Value.ref rows, Value.int p2] M (X_Model_takes n rows ln p2 M) := by
  refine ct_of (by decide +kernel) rfl (Nat.le_of_ble_eq_true rfl) ?_
  show J _ _ _ [(0, Value.ref 0), (1, Value.ref rows), (2, Value.int p2)] _ _ _
  unfold X_Model_takes
  refine j_iconst (pc := 0) d_Model_takes_0 k_i_0 ?_
  refine j_istore_n (pc := 1) d_Model_takes_1 rfl (by decide) rfl ?_
  refine j_lv [1, 2, 3, 0] rfl ?_
  exact X_Model_takes_L2_ok h_rows  n 0 M
-- Model.learn (II)I
def mt_Model_learn : Mt := ("ShakeHandsModel", b_Model_learn, 3, some .int, 5, SHm)
theorem d_Model_learn_0 : decode b_Model_learn 0 = .ok (.aload_n 0, 1) := by decide +kernel
theorem d_Model_learn_1 : decode b_Model_learn 1 = .ok (.iload_n 1, 1) := by decide +kernel
theorem d_Model_learn_2 : decode b_Model_learn 2 = .ok (.invokevirtual 268, 3) := by decide +kernel
theorem d_Model_learn_5 : decode b_Model_learn 5 = .ok (.ifCond .eq 10, 3) := by decide +kernel
theorem d_Model_learn_8 : decode b_Model_learn 8 = .ok (.iload_n 2, 1) := by decide +kernel
theorem d_Model_learn_9 : decode b_Model_learn 9 = .ok (.invokestatic 272, 3) := by decide +kernel
theorem d_Model_learn_12 : decode b_Model_learn 12 = .ok (.ifCond .ne 5, 3) := by decide +kernel
theorem d_Model_learn_15 : decode b_Model_learn 15 = .ok (.iconst (-1), 1) := by decide +kernel
theorem d_Model_learn_16 : decode b_Model_learn 16 = .ok (.ireturn, 1) := by decide +kernel
theorem d_Model_learn_17 : decode b_Model_learn 17 = .ok (.aload_n 0, 1) := by decide +kernel
theorem d_Model_learn_18 : decode b_Model_learn 18 = .ok (.iload_n 1, 1) := by decide +kernel
theorem d_Model_learn_19 : decode b_Model_learn 19 = .ok (.iload_n 2, 1) := by decide +kernel
theorem d_Model_learn_20 : decode b_Model_learn 20 = .ok (.invokevirtual 278, 3) := by decide +kernel
theorem d_Model_learn_23 : decode b_Model_learn 23 = .ok (.ifCond .eq 6, 3) := by decide +kernel
theorem d_Model_learn_26 : decode b_Model_learn 26 = .ok (.bipush (-2), 2) := by decide +kernel
theorem d_Model_learn_28 : decode b_Model_learn 28 = .ok (.ireturn, 1) := by decide +kernel
theorem d_Model_learn_29 : decode b_Model_learn 29 = .ok (.aload_n 0, 1) := by decide +kernel
theorem d_Model_learn_30 : decode b_Model_learn 30 = .ok (.iconst 0, 1) := by decide +kernel
theorem d_Model_learn_31 : decode b_Model_learn 31 = .ok (.putfield 229, 3) := by decide +kernel
theorem d_Model_learn_34 : decode b_Model_learn 34 = .ok (.aload_n 0, 1) := by decide +kernel
theorem d_Model_learn_35 : decode b_Model_learn 35 = .ok (.aload_n 0, 1) := by decide +kernel
theorem d_Model_learn_36 : decode b_Model_learn 36 = .ok (.getfield 7, 3) := by decide +kernel
theorem d_Model_learn_39 : decode b_Model_learn 39 = .ok (.bipush 10, 2) := by decide +kernel
theorem d_Model_learn_41 : decode b_Model_learn 41 = .ok (.iload_n 1, 1) := by decide +kernel
theorem d_Model_learn_42 : decode b_Model_learn 42 = .ok (.imul, 1) := by decide +kernel
theorem d_Model_learn_43 : decode b_Model_learn 43 = .ok (.invokevirtual 241, 3) := by decide +kernel
theorem d_Model_learn_46 : decode b_Model_learn 46 = .ok (.aload_n 0, 1) := by decide +kernel
theorem d_Model_learn_47 : decode b_Model_learn 47 = .ok (.iload_n 2, 1) := by decide +kernel
theorem d_Model_learn_48 : decode b_Model_learn 48 = .ok (.invokevirtual 238, 3) := by decide +kernel
theorem d_Model_learn_51 : decode b_Model_learn 51 = .ok (.aload_n 0, 1) := by decide +kernel
theorem d_Model_learn_52 : decode b_Model_learn 52 = .ok (.invokevirtual 245, 3) := by decide +kernel
theorem d_Model_learn_55 : decode b_Model_learn 55 = .ok (.aload_n 0, 1) := by decide +kernel
theorem d_Model_learn_56 : decode b_Model_learn 56 = .ok (.aload_n 0, 1) := by decide +kernel
theorem d_Model_learn_57 : decode b_Model_learn 57 = .ok (.getfield 7, 3) := by decide +kernel
theorem d_Model_learn_60 : decode b_Model_learn 60 = .ok (.bipush 10, 2) := by decide +kernel
theorem d_Model_learn_62 : decode b_Model_learn 62 = .ok (.iload_n 1, 1) := by decide +kernel
theorem d_Model_learn_63 : decode b_Model_learn 63 = .ok (.imul, 1) := by decide +kernel
theorem d_Model_learn_64 : decode b_Model_learn 64 = .ok (.invokevirtual 248, 3) := by decide +kernel
theorem d_Model_learn_67 : decode b_Model_learn 67 = .ok (.aload_n 0, 1) := by decide +kernel
theorem d_Model_learn_68 : decode b_Model_learn 68 = .ok (.getfield 229, 3) := by decide +kernel
theorem d_Model_learn_71 : decode b_Model_learn 71 = .ok (.ireturn, 1) := by decide +kernel
def X_Model_learn (n : Nat) (p1 : Int32) (p2 : Int32) (M : Mem) : Option (Int32 × Mem) :=
  bd (X_Model_isOne n p1 M) fun r1 M2 =>
  (if r1 = 0 then
    some ((-1), M2)
    else
    bd (X_Model_isThing n p2 M2) fun r3 M4 =>
    (if r3 = 0 then
      some ((-1), M4)
      else
      bd (X_Model_knowsIt n p1 p2 M4) fun r5 M6 =>
      (if r5 = 0 then
        nm (si M6 0 35 0) fun N7 =>
        bd (X_Model_takes n 1 234 ((10 : Int32) * p1) N7) fun _ M9 =>
        bd (X_Model_adds n p2 M9) fun _ M11 =>
        bd (X_Model_settles n M11) fun _ M13 =>
        bd (X_Model_puts n 1 234 ((10 : Int32) * p1) M13) fun _ M15 =>
        some ((M15.1 0 35), M15)
        else
        some ((-2), M6))))
set_option maxRecDepth 20000 in
set_option maxHeartbeats 4000000 in
theorem C_Model_learn (n : Nat)   (p1 : Int32) (p2 : Int32) (M : Mem) : Ct y_Model_learn mt_Model_learn wI [Value.ref 0, Value.int p1, Value.int p2] M (X_Model_learn n p1 p2 M) := by
  refine ct_of (by decide +kernel) rfl (Nat.le_of_ble_eq_true rfl) ?_
  show J _ _ _ [(0, Value.ref 0), (1, Value.int p1), (2, Value.int p2)] _ _ _
  unfold X_Model_learn
  refine j_aload_n (pc := 0) (q := 0) d_Model_learn_0 rfl rfl ?_
  refine j_iload_n (pc := 1) (q := 1) d_Model_learn_1 rfl rfl ?_
  refine j_callV1 (pc := 2) d_Model_learn_2 (C_Model_isOne n p1 M) cV_Model_268 cd_Model_isOne dn_Model_isOne rfl (by decide) (Nat.le_of_ble_eq_true rfl) (Nat.le_of_ble_eq_true rfl) nr_I sm_0 (by decide) rfl (fun r1 M2 => ?_)
  refine j_if_eq (pc := 5) (tgt := 15) d_Model_learn_5 (by decide) (fun _ => ?_) (fun _ => ?_)
  · refine j_iconst (pc := 15) d_Model_learn_15 k_i_m1 ?_
    exact j_ireturn (pc := 16) d_Model_learn_16 rfl
  · refine j_iload_n (pc := 8) (q := 2) d_Model_learn_8 rfl rfl ?_
    refine j_callS1 (pc := 9) d_Model_learn_9 (C_Model_isThing n p2 M2) cS_Model_272 cd_Model_isThing dn_Model_isThing rfl (by decide) (Nat.le_of_ble_eq_true rfl) (Nat.le_of_ble_eq_true rfl) nr_I (fun r3 M4 => ?_)
    refine j_if_ne (pc := 12) (tgt := 17) d_Model_learn_12 (by decide) (fun _ => ?_) (fun _ => ?_)
    · refine j_aload_n (pc := 17) (q := 0) d_Model_learn_17 rfl rfl ?_
      refine j_iload_n (pc := 18) (q := 1) d_Model_learn_18 rfl rfl ?_
      refine j_iload_n (pc := 19) (q := 2) d_Model_learn_19 rfl rfl ?_
      refine j_callV2 (pc := 20) d_Model_learn_20 (C_Model_knowsIt n p1 p2 M4) cV_Model_278 cd_Model_knowsIt dn_Model_knowsIt rfl (by decide) (Nat.le_of_ble_eq_true rfl) (Nat.le_of_ble_eq_true rfl) nr_I sm_0 (by decide) rfl (fun r5 M6 => ?_)
      refine j_if_eq (pc := 23) (tgt := 29) d_Model_learn_23 (by decide) (fun _ => ?_) (fun _ => ?_)
      · refine j_aload_n (pc := 29) (q := 0) d_Model_learn_29 rfl rfl ?_
        refine j_iconst (pc := 30) d_Model_learn_30 k_i_0 ?_
        refine j_putI (pc := 31) d_Model_learn_31 fl_Model_229 rfl sm_0 (by decide) rfl ?_
        refine j_aload_n (pc := 34) (q := 0) d_Model_learn_34 rfl rfl ?_
        refine j_aload_n (pc := 35) (q := 0) d_Model_learn_35 rfl rfl ?_
        refine j_getA (pc := 36) d_Model_learn_36 fl_Model_7 sm_0 (by decide) rfl ?_
        refine j_bipush (pc := 39) d_Model_learn_39 k_b_10 ?_
        refine j_iload_n (pc := 41) (q := 1) d_Model_learn_41 rfl rfl ?_
        refine j_imul (pc := 42) d_Model_learn_42 ?_
        refine j_nmM (fun N7 => ?_)
        refine j_callV2 (pc := 43) d_Model_learn_43 (C_Model_takes n 1 234 sm_1 ((10 : Int32) * p1) N7) cV_Model_241 cd_Model_takes dn_Model_takes rfl (by decide) (Nat.le_of_ble_eq_true rfl) (Nat.le_of_ble_eq_true rfl) nr_U sm_0 (by decide) rfl (fun r8 M9 => ?_)
        refine j_aload_n (pc := 46) (q := 0) d_Model_learn_46 rfl rfl ?_
        refine j_iload_n (pc := 47) (q := 2) d_Model_learn_47 rfl rfl ?_
        refine j_callV1 (pc := 48) d_Model_learn_48 (C_Model_adds n p2 M9) cV_Model_238 cd_Model_adds dn_Model_adds rfl (by decide) (Nat.le_of_ble_eq_true rfl) (Nat.le_of_ble_eq_true rfl) nr_U sm_0 (by decide) rfl (fun r10 M11 => ?_)
        refine j_aload_n (pc := 51) (q := 0) d_Model_learn_51 rfl rfl ?_
        refine j_callV0 (pc := 52) d_Model_learn_52 (C_Model_settles n M11) cV_Model_245 cd_Model_settles dn_Model_settles rfl (by decide) (Nat.le_of_ble_eq_true rfl) (Nat.le_of_ble_eq_true rfl) nr_U sm_0 (by decide) rfl (fun r12 M13 => ?_)
        refine j_aload_n (pc := 55) (q := 0) d_Model_learn_55 rfl rfl ?_
        refine j_aload_n (pc := 56) (q := 0) d_Model_learn_56 rfl rfl ?_
        refine j_getA (pc := 57) d_Model_learn_57 fl_Model_7 sm_0 (by decide) rfl ?_
        refine j_bipush (pc := 60) d_Model_learn_60 k_b_10 ?_
        refine j_iload_n (pc := 62) (q := 1) d_Model_learn_62 rfl rfl ?_
        refine j_imul (pc := 63) d_Model_learn_63 ?_
        refine j_callV2 (pc := 64) d_Model_learn_64 (C_Model_puts n 1 234 sm_1 ((10 : Int32) * p1) M13) cV_Model_248 cd_Model_puts dn_Model_puts rfl (by decide) (Nat.le_of_ble_eq_true rfl) (Nat.le_of_ble_eq_true rfl) nr_U sm_0 (by decide) rfl (fun r14 M15 => ?_)
        refine j_aload_n (pc := 67) (q := 0) d_Model_learn_67 rfl rfl ?_
        refine j_getI (pc := 68) d_Model_learn_68 fl_Model_229 sm_0 (by decide) rfl ?_
        exact j_ireturn (pc := 71) d_Model_learn_71 rfl
      · refine j_bipush (pc := 26) d_Model_learn_26 k_b_m2 ?_
        exact j_ireturn (pc := 28) d_Model_learn_28 rfl
    · refine j_iconst (pc := 15) d_Model_learn_15 k_i_m1 ?_
      exact j_ireturn (pc := 16) d_Model_learn_16 rfl
-- Model.forget (II)I
def mt_Model_forget : Mt := ("ShakeHandsModel", b_Model_forget, 3, some .int, 5, SHm)
theorem d_Model_forget_0 : decode b_Model_forget 0 = .ok (.aload_n 0, 1) := by decide +kernel
theorem d_Model_forget_1 : decode b_Model_forget 1 = .ok (.iload_n 1, 1) := by decide +kernel
theorem d_Model_forget_2 : decode b_Model_forget 2 = .ok (.invokevirtual 268, 3) := by decide +kernel
theorem d_Model_forget_5 : decode b_Model_forget 5 = .ok (.ifCond .eq 10, 3) := by decide +kernel
theorem d_Model_forget_8 : decode b_Model_forget 8 = .ok (.iload_n 2, 1) := by decide +kernel
theorem d_Model_forget_9 : decode b_Model_forget 9 = .ok (.invokestatic 272, 3) := by decide +kernel
theorem d_Model_forget_12 : decode b_Model_forget 12 = .ok (.ifCond .ne 5, 3) := by decide +kernel
theorem d_Model_forget_15 : decode b_Model_forget 15 = .ok (.iconst (-1), 1) := by decide +kernel
theorem d_Model_forget_16 : decode b_Model_forget 16 = .ok (.ireturn, 1) := by decide +kernel
theorem d_Model_forget_17 : decode b_Model_forget 17 = .ok (.aload_n 0, 1) := by decide +kernel
theorem d_Model_forget_18 : decode b_Model_forget 18 = .ok (.iload_n 1, 1) := by decide +kernel
theorem d_Model_forget_19 : decode b_Model_forget 19 = .ok (.iload_n 2, 1) := by decide +kernel
theorem d_Model_forget_20 : decode b_Model_forget 20 = .ok (.invokevirtual 278, 3) := by decide +kernel
theorem d_Model_forget_23 : decode b_Model_forget 23 = .ok (.ifCond .ne 6, 3) := by decide +kernel
theorem d_Model_forget_26 : decode b_Model_forget 26 = .ok (.bipush (-4), 2) := by decide +kernel
theorem d_Model_forget_28 : decode b_Model_forget 28 = .ok (.ireturn, 1) := by decide +kernel
theorem d_Model_forget_29 : decode b_Model_forget 29 = .ok (.aload_n 0, 1) := by decide +kernel
theorem d_Model_forget_30 : decode b_Model_forget 30 = .ok (.iconst 0, 1) := by decide +kernel
theorem d_Model_forget_31 : decode b_Model_forget 31 = .ok (.putfield 229, 3) := by decide +kernel
theorem d_Model_forget_34 : decode b_Model_forget 34 = .ok (.aload_n 0, 1) := by decide +kernel
theorem d_Model_forget_35 : decode b_Model_forget 35 = .ok (.aload_n 0, 1) := by decide +kernel
theorem d_Model_forget_36 : decode b_Model_forget 36 = .ok (.getfield 7, 3) := by decide +kernel
theorem d_Model_forget_39 : decode b_Model_forget 39 = .ok (.bipush 10, 2) := by decide +kernel
theorem d_Model_forget_41 : decode b_Model_forget 41 = .ok (.iload_n 1, 1) := by decide +kernel
theorem d_Model_forget_42 : decode b_Model_forget 42 = .ok (.imul, 1) := by decide +kernel
theorem d_Model_forget_43 : decode b_Model_forget 43 = .ok (.invokevirtual 241, 3) := by decide +kernel
theorem d_Model_forget_46 : decode b_Model_forget 46 = .ok (.aload_n 0, 1) := by decide +kernel
theorem d_Model_forget_47 : decode b_Model_forget 47 = .ok (.aload_n 0, 1) := by decide +kernel
theorem d_Model_forget_48 : decode b_Model_forget 48 = .ok (.iload_n 2, 1) := by decide +kernel
theorem d_Model_forget_49 : decode b_Model_forget 49 = .ok (.invokevirtual 232, 3) := by decide +kernel
theorem d_Model_forget_52 : decode b_Model_forget 52 = .ok (.invokevirtual 235, 3) := by decide +kernel
theorem d_Model_forget_55 : decode b_Model_forget 55 = .ok (.aload_n 0, 1) := by decide +kernel
theorem d_Model_forget_56 : decode b_Model_forget 56 = .ok (.aload_n 0, 1) := by decide +kernel
theorem d_Model_forget_57 : decode b_Model_forget 57 = .ok (.getfield 7, 3) := by decide +kernel
theorem d_Model_forget_60 : decode b_Model_forget 60 = .ok (.bipush 10, 2) := by decide +kernel
theorem d_Model_forget_62 : decode b_Model_forget 62 = .ok (.iload_n 1, 1) := by decide +kernel
theorem d_Model_forget_63 : decode b_Model_forget 63 = .ok (.imul, 1) := by decide +kernel
theorem d_Model_forget_64 : decode b_Model_forget 64 = .ok (.invokevirtual 248, 3) := by decide +kernel
theorem d_Model_forget_67 : decode b_Model_forget 67 = .ok (.aload_n 0, 1) := by decide +kernel
theorem d_Model_forget_68 : decode b_Model_forget 68 = .ok (.getfield 229, 3) := by decide +kernel
theorem d_Model_forget_71 : decode b_Model_forget 71 = .ok (.ireturn, 1) := by decide +kernel
def X_Model_forget (n : Nat) (p1 : Int32) (p2 : Int32) (M : Mem) : Option (Int32 × Mem) :=
  bd (X_Model_isOne n p1 M) fun r1 M2 =>
  (if r1 = 0 then
    some ((-1), M2)
    else
    bd (X_Model_isThing n p2 M2) fun r3 M4 =>
    (if r3 = 0 then
      some ((-1), M4)
      else
      bd (X_Model_knowsIt n p1 p2 M4) fun r5 M6 =>
      (if r5 = 0 then
        some ((-4), M6)
        else
        nm (si M6 0 35 0) fun N7 =>
        bd (X_Model_takes n 1 234 ((10 : Int32) * p1) N7) fun _ M9 =>
        bd (X_Model_place n p2 M9) fun r10 M11 =>
        bd (X_Model_drops n r10 M11) fun _ M13 =>
        bd (X_Model_puts n 1 234 ((10 : Int32) * p1) M13) fun _ M15 =>
        some ((M15.1 0 35), M15))))
set_option maxRecDepth 20000 in
set_option maxHeartbeats 4000000 in
theorem C_Model_forget (n : Nat)   (p1 : Int32) (p2 : Int32) (M : Mem) : Ct y_Model_forget mt_Model_forget wI [Value.ref 0, Value.int p1, Value.int p2] M (X_Model_forget n p1 p2 M) := by
  refine ct_of (by decide +kernel) rfl (Nat.le_of_ble_eq_true rfl) ?_
  show J _ _ _ [(0, Value.ref 0), (1, Value.int p1), (2, Value.int p2)] _ _ _
  unfold X_Model_forget
  refine j_aload_n (pc := 0) (q := 0) d_Model_forget_0 rfl rfl ?_
  refine j_iload_n (pc := 1) (q := 1) d_Model_forget_1 rfl rfl ?_
  refine j_callV1 (pc := 2) d_Model_forget_2 (C_Model_isOne n p1 M) cV_Model_268 cd_Model_isOne dn_Model_isOne rfl (by decide) (Nat.le_of_ble_eq_true rfl) (Nat.le_of_ble_eq_true rfl) nr_I sm_0 (by decide) rfl (fun r1 M2 => ?_)
  refine j_if_eq (pc := 5) (tgt := 15) d_Model_forget_5 (by decide) (fun _ => ?_) (fun _ => ?_)
  · refine j_iconst (pc := 15) d_Model_forget_15 k_i_m1 ?_
    exact j_ireturn (pc := 16) d_Model_forget_16 rfl
  · refine j_iload_n (pc := 8) (q := 2) d_Model_forget_8 rfl rfl ?_
    refine j_callS1 (pc := 9) d_Model_forget_9 (C_Model_isThing n p2 M2) cS_Model_272 cd_Model_isThing dn_Model_isThing rfl (by decide) (Nat.le_of_ble_eq_true rfl) (Nat.le_of_ble_eq_true rfl) nr_I (fun r3 M4 => ?_)
    refine j_if_ne (pc := 12) (tgt := 17) d_Model_forget_12 (by decide) (fun _ => ?_) (fun _ => ?_)
    · refine j_aload_n (pc := 17) (q := 0) d_Model_forget_17 rfl rfl ?_
      refine j_iload_n (pc := 18) (q := 1) d_Model_forget_18 rfl rfl ?_
      refine j_iload_n (pc := 19) (q := 2) d_Model_forget_19 rfl rfl ?_
      refine j_callV2 (pc := 20) d_Model_forget_20 (C_Model_knowsIt n p1 p2 M4) cV_Model_278 cd_Model_knowsIt dn_Model_knowsIt rfl (by decide) (Nat.le_of_ble_eq_true rfl) (Nat.le_of_ble_eq_true rfl) nr_I sm_0 (by decide) rfl (fun r5 M6 => ?_)
      refine j_if_ne (pc := 23) (tgt := 29) d_Model_forget_23 (by decide) (fun _ => ?_) (fun _ => ?_)
      · refine j_aload_n (pc := 29) (q := 0) d_Model_forget_29 rfl rfl ?_
        refine j_iconst (pc := 30) d_Model_forget_30 k_i_0 ?_
        refine j_putI (pc := 31) d_Model_forget_31 fl_Model_229 rfl sm_0 (by decide) rfl ?_
        refine j_aload_n (pc := 34) (q := 0) d_Model_forget_34 rfl rfl ?_
        refine j_aload_n (pc := 35) (q := 0) d_Model_forget_35 rfl rfl ?_
        refine j_getA (pc := 36) d_Model_forget_36 fl_Model_7 sm_0 (by decide) rfl ?_
        refine j_bipush (pc := 39) d_Model_forget_39 k_b_10 ?_
        refine j_iload_n (pc := 41) (q := 1) d_Model_forget_41 rfl rfl ?_
        refine j_imul (pc := 42) d_Model_forget_42 ?_
        refine j_nmM (fun N7 => ?_)
        refine j_callV2 (pc := 43) d_Model_forget_43 (C_Model_takes n 1 234 sm_1 ((10 : Int32) * p1) N7) cV_Model_241 cd_Model_takes dn_Model_takes rfl (by decide) (Nat.le_of_ble_eq_true rfl) (Nat.le_of_ble_eq_true rfl) nr_U sm_0 (by decide) rfl (fun r8 M9 => ?_)
        refine j_aload_n (pc := 46) (q := 0) d_Model_forget_46 rfl rfl ?_
        refine j_aload_n (pc := 47) (q := 0) d_Model_forget_47 rfl rfl ?_
        refine j_iload_n (pc := 48) (q := 2) d_Model_forget_48 rfl rfl ?_
        refine j_callV1 (pc := 49) d_Model_forget_49 (C_Model_place n p2 M9) cV_Model_232 cd_Model_place dn_Model_place rfl (by decide) (Nat.le_of_ble_eq_true rfl) (Nat.le_of_ble_eq_true rfl) nr_I sm_0 (by decide) rfl (fun r10 M11 => ?_)
        refine j_callV1 (pc := 52) d_Model_forget_52 (C_Model_drops n r10 M11) cV_Model_235 cd_Model_drops dn_Model_drops rfl (by decide) (Nat.le_of_ble_eq_true rfl) (Nat.le_of_ble_eq_true rfl) nr_U sm_0 (by decide) rfl (fun r12 M13 => ?_)
        refine j_aload_n (pc := 55) (q := 0) d_Model_forget_55 rfl rfl ?_
        refine j_aload_n (pc := 56) (q := 0) d_Model_forget_56 rfl rfl ?_
        refine j_getA (pc := 57) d_Model_forget_57 fl_Model_7 sm_0 (by decide) rfl ?_
        refine j_bipush (pc := 60) d_Model_forget_60 k_b_10 ?_
        refine j_iload_n (pc := 62) (q := 1) d_Model_forget_62 rfl rfl ?_
        refine j_imul (pc := 63) d_Model_forget_63 ?_
        refine j_callV2 (pc := 64) d_Model_forget_64 (C_Model_puts n 1 234 sm_1 ((10 : Int32) * p1) M13) cV_Model_248 cd_Model_puts dn_Model_puts rfl (by decide) (Nat.le_of_ble_eq_true rfl) (Nat.le_of_ble_eq_true rfl) nr_U sm_0 (by decide) rfl (fun r14 M15 => ?_)
        refine j_aload_n (pc := 67) (q := 0) d_Model_forget_67 rfl rfl ?_
        refine j_getI (pc := 68) d_Model_forget_68 fl_Model_229 sm_0 (by decide) rfl ?_
        exact j_ireturn (pc := 71) d_Model_forget_71 rfl
      · refine j_bipush (pc := 26) d_Model_forget_26 k_b_m4 ?_
        exact j_ireturn (pc := 28) d_Model_forget_28 rfl
    · refine j_iconst (pc := 15) d_Model_forget_15 k_i_m1 ?_
      exact j_ireturn (pc := 16) d_Model_forget_16 rfl
-- Model.glove (IZ)I
def mt_Model_glove : Mt := ("ShakeHandsModel", b_Model_glove, 4, some .int, 4, SHm)
theorem d_Model_glove_0 : decode b_Model_glove 0 = .ok (.aload_n 0, 1) := by decide +kernel
theorem d_Model_glove_1 : decode b_Model_glove 1 = .ok (.iload_n 1, 1) := by decide +kernel
theorem d_Model_glove_2 : decode b_Model_glove 2 = .ok (.invokevirtual 268, 3) := by decide +kernel
theorem d_Model_glove_5 : decode b_Model_glove 5 = .ok (.ifCond .ne 5, 3) := by decide +kernel
theorem d_Model_glove_8 : decode b_Model_glove 8 = .ok (.iconst (-1), 1) := by decide +kernel
theorem d_Model_glove_9 : decode b_Model_glove 9 = .ok (.ireturn, 1) := by decide +kernel
theorem d_Model_glove_10 : decode b_Model_glove 10 = .ok (.aload_n 0, 1) := by decide +kernel
theorem d_Model_glove_11 : decode b_Model_glove 11 = .ok (.getfield 7, 3) := by decide +kernel
theorem d_Model_glove_14 : decode b_Model_glove 14 = .ok (.bipush 60, 2) := by decide +kernel
theorem d_Model_glove_16 : decode b_Model_glove 16 = .ok (.iload_n 1, 1) := by decide +kernel
theorem d_Model_glove_17 : decode b_Model_glove 17 = .ok (.iadd, 1) := by decide +kernel
theorem d_Model_glove_18 : decode b_Model_glove 18 = .ok (.iaload, 1) := by decide +kernel
theorem d_Model_glove_19 : decode b_Model_glove 19 = .ok (.istore_n 3, 1) := by decide +kernel
theorem d_Model_glove_20 : decode b_Model_glove 20 = .ok (.aload_n 0, 1) := by decide +kernel
theorem d_Model_glove_21 : decode b_Model_glove 21 = .ok (.getfield 7, 3) := by decide +kernel
theorem d_Model_glove_24 : decode b_Model_glove 24 = .ok (.bipush 60, 2) := by decide +kernel
theorem d_Model_glove_26 : decode b_Model_glove 26 = .ok (.iload_n 1, 1) := by decide +kernel
theorem d_Model_glove_27 : decode b_Model_glove 27 = .ok (.iadd, 1) := by decide +kernel
theorem d_Model_glove_28 : decode b_Model_glove 28 = .ok (.iload_n 2, 1) := by decide +kernel
theorem d_Model_glove_29 : decode b_Model_glove 29 = .ok (.invokestatic 134, 3) := by decide +kernel
theorem d_Model_glove_32 : decode b_Model_glove 32 = .ok (.iastore, 1) := by decide +kernel
theorem d_Model_glove_33 : decode b_Model_glove 33 = .ok (.iload_n 3, 1) := by decide +kernel
theorem d_Model_glove_34 : decode b_Model_glove 34 = .ok (.ireturn, 1) := by decide +kernel
def X_Model_glove (n : Nat) (p1 : Int32) (p2 : Int32) (M : Mem) : Option (Int32 × Mem) :=
  bd (X_Model_isOne n p1 M) fun r1 M2 =>
  (if r1 = 0 then
    some ((-1), M2)
    else
    gd ((60 : Int32) + p1) 234 (
      nm (M2.1 1 ((60 : Int32) + p1).toNatClampNeg) fun x3 =>
      bd (X_Model_flag n p2 M2) fun r4 M5 =>
      gd ((60 : Int32) + p1) 234 (
        some (x3, si M5 1 (((60 : Int32) + p1).toNatClampNeg) r4))))
set_option maxRecDepth 20000 in
set_option maxHeartbeats 4000000 in
theorem C_Model_glove (n : Nat)   (p1 : Int32) (p2 : Int32) (M : Mem) : Ct y_Model_glove mt_Model_glove wI [Value.ref 0, Value.int p1, Value.int p2] M (X_Model_glove n p1 p2 M) := by
  refine ct_of (by decide +kernel) rfl (Nat.le_of_ble_eq_true rfl) ?_
  show J _ _ _ [(0, Value.ref 0), (1, Value.int p1), (2, Value.int p2)] _ _ _
  unfold X_Model_glove
  refine j_aload_n (pc := 0) (q := 0) d_Model_glove_0 rfl rfl ?_
  refine j_iload_n (pc := 1) (q := 1) d_Model_glove_1 rfl rfl ?_
  refine j_callV1 (pc := 2) d_Model_glove_2 (C_Model_isOne n p1 M) cV_Model_268 cd_Model_isOne dn_Model_isOne rfl (by decide) (Nat.le_of_ble_eq_true rfl) (Nat.le_of_ble_eq_true rfl) nr_I sm_0 (by decide) rfl (fun r1 M2 => ?_)
  refine j_if_ne (pc := 5) (tgt := 10) d_Model_glove_5 (by decide) (fun _ => ?_) (fun _ => ?_)
  · refine j_aload_n (pc := 10) (q := 0) d_Model_glove_10 rfl rfl ?_
    refine j_getA (pc := 11) d_Model_glove_11 fl_Model_7 sm_0 (by decide) rfl ?_
    refine j_bipush (pc := 14) d_Model_glove_14 k_b_60 ?_
    refine j_iload_n (pc := 16) (q := 1) d_Model_glove_16 rfl rfl ?_
    refine j_iadd (pc := 17) d_Model_glove_17 ?_
    refine j_iald (pc := 18) d_Model_glove_18 sm_1 (fun _ => ?_)
    refine j_nmi (fun x3 => ?_)
    refine j_istore_n (pc := 19) d_Model_glove_19 rfl (by decide) rfl ?_
    refine j_aload_n (pc := 20) (q := 1) d_Model_glove_20 rfl rfl ?_
    refine j_getA (pc := 21) d_Model_glove_21 fl_Model_7 sm_0 (by decide) rfl ?_
    refine j_bipush (pc := 24) d_Model_glove_24 k_b_60 ?_
    refine j_iload_n (pc := 26) (q := 2) d_Model_glove_26 rfl rfl ?_
    refine j_iadd (pc := 27) d_Model_glove_27 ?_
    refine j_iload_n (pc := 28) (q := 3) d_Model_glove_28 rfl rfl ?_
    refine j_callS1 (pc := 29) d_Model_glove_29 (C_Model_flag n p2 M2) cS_Model_134 cd_Model_flag dn_Model_flag rfl (by decide) (Nat.le_of_ble_eq_true rfl) (Nat.le_of_ble_eq_true rfl) nr_I (fun r4 M5 => ?_)
    refine j_iast (pc := 32) d_Model_glove_32 sm_1 (fun _ => ?_)
    refine j_iload_n (pc := 33) (q := 0) d_Model_glove_33 rfl rfl ?_
    exact j_ireturn (pc := 34) d_Model_glove_34 rfl
  · refine j_iconst (pc := 8) d_Model_glove_8 k_i_m1 ?_
    exact j_ireturn (pc := 9) d_Model_glove_9 rfl
-- Model.areTwo (II)Z
def mt_Model_areTwo : Mt := ("ShakeHandsModel", b_Model_areTwo, 3, some .boolean, 4, SHm)
theorem d_Model_areTwo_0 : decode b_Model_areTwo 0 = .ok (.aload_n 0, 1) := by decide +kernel
theorem d_Model_areTwo_1 : decode b_Model_areTwo 1 = .ok (.iload_n 1, 1) := by decide +kernel
theorem d_Model_areTwo_2 : decode b_Model_areTwo 2 = .ok (.invokevirtual 268, 3) := by decide +kernel
theorem d_Model_areTwo_5 : decode b_Model_areTwo 5 = .ok (.ifCond .eq 20, 3) := by decide +kernel
theorem d_Model_areTwo_8 : decode b_Model_areTwo 8 = .ok (.aload_n 0, 1) := by decide +kernel
theorem d_Model_areTwo_9 : decode b_Model_areTwo 9 = .ok (.iload_n 2, 1) := by decide +kernel
theorem d_Model_areTwo_10 : decode b_Model_areTwo 10 = .ok (.invokevirtual 268, 3) := by decide +kernel
theorem d_Model_areTwo_13 : decode b_Model_areTwo 13 = .ok (.ifCond .eq 12, 3) := by decide +kernel
theorem d_Model_areTwo_16 : decode b_Model_areTwo 16 = .ok (.iload_n 1, 1) := by decide +kernel
theorem d_Model_areTwo_17 : decode b_Model_areTwo 17 = .ok (.iload_n 2, 1) := by decide +kernel
theorem d_Model_areTwo_18 : decode b_Model_areTwo 18 = .ok (.if_icmp .eq 7, 3) := by decide +kernel
theorem d_Model_areTwo_21 : decode b_Model_areTwo 21 = .ok (.iconst 1, 1) := by decide +kernel
theorem d_Model_areTwo_22 : decode b_Model_areTwo 22 = .ok (.goto 4, 3) := by decide +kernel
theorem d_Model_areTwo_25 : decode b_Model_areTwo 25 = .ok (.iconst 0, 1) := by decide +kernel
theorem d_Model_areTwo_26 : decode b_Model_areTwo 26 = .ok (.ireturn, 1) := by decide +kernel
def X_Model_areTwo (n : Nat) (p1 : Int32) (p2 : Int32) (M : Mem) : Option (Int32 × Mem) :=
  bd (X_Model_isOne n p1 M) fun r1 M2 =>
  (if r1 = 0 then
    some (0, M2)
    else
    bd (X_Model_isOne n p2 M2) fun r3 M4 =>
    (if r3 = 0 then
      some (0, M4)
      else
      (if p1 = p2 then
        some (0, M4)
        else
        some (1, M4))))
set_option maxRecDepth 20000 in
set_option maxHeartbeats 4000000 in
theorem C_Model_areTwo (n : Nat)   (p1 : Int32) (p2 : Int32) (M : Mem) : Ct y_Model_areTwo mt_Model_areTwo wI [Value.ref 0, Value.int p1, Value.int p2] M (X_Model_areTwo n p1 p2 M) := by
  refine ct_of (by decide +kernel) rfl (Nat.le_of_ble_eq_true rfl) ?_
  show J _ _ _ [(0, Value.ref 0), (1, Value.int p1), (2, Value.int p2)] _ _ _
  unfold X_Model_areTwo
  refine j_aload_n (pc := 0) (q := 0) d_Model_areTwo_0 rfl rfl ?_
  refine j_iload_n (pc := 1) (q := 1) d_Model_areTwo_1 rfl rfl ?_
  refine j_callV1 (pc := 2) d_Model_areTwo_2 (C_Model_isOne n p1 M) cV_Model_268 cd_Model_isOne dn_Model_isOne rfl (by decide) (Nat.le_of_ble_eq_true rfl) (Nat.le_of_ble_eq_true rfl) nr_I sm_0 (by decide) rfl (fun r1 M2 => ?_)
  refine j_if_eq (pc := 5) (tgt := 25) d_Model_areTwo_5 (by decide) (fun _ => ?_) (fun _ => ?_)
  · refine j_iconst (pc := 25) d_Model_areTwo_25 k_i_0 ?_
    exact j_zreturn (pc := 26) d_Model_areTwo_26 rfl rfl
  · refine j_aload_n (pc := 8) (q := 0) d_Model_areTwo_8 rfl rfl ?_
    refine j_iload_n (pc := 9) (q := 2) d_Model_areTwo_9 rfl rfl ?_
    refine j_callV1 (pc := 10) d_Model_areTwo_10 (C_Model_isOne n p2 M2) cV_Model_268 cd_Model_isOne dn_Model_isOne rfl (by decide) (Nat.le_of_ble_eq_true rfl) (Nat.le_of_ble_eq_true rfl) nr_I sm_0 (by decide) rfl (fun r3 M4 => ?_)
    refine j_if_eq (pc := 13) (tgt := 25) d_Model_areTwo_13 (by decide) (fun _ => ?_) (fun _ => ?_)
    · refine j_iconst (pc := 25) d_Model_areTwo_25 k_i_0 ?_
      exact j_zreturn (pc := 26) d_Model_areTwo_26 rfl rfl
    · refine j_iload_n (pc := 16) (q := 1) d_Model_areTwo_16 rfl rfl ?_
      refine j_iload_n (pc := 17) (q := 2) d_Model_areTwo_17 rfl rfl ?_
      refine j_icmp_eq (pc := 18) (tgt := 25) d_Model_areTwo_18 (by decide) (fun _ => ?_) (fun _ => ?_)
      · refine j_iconst (pc := 25) d_Model_areTwo_25 k_i_0 ?_
        exact j_zreturn (pc := 26) d_Model_areTwo_26 rfl rfl
      · refine j_iconst (pc := 21) d_Model_areTwo_21 k_i_1 ?_
        refine j_goto (pc := 22) (tgt := 26) d_Model_areTwo_22 (by decide) ?_
        exact j_zreturn (pc := 26) d_Model_areTwo_26 rfl rfl
-- Model.becomes (I)V
def mt_Model_becomes : Mt := ("ShakeHandsModel", b_Model_becomes, 3, none, 2, SHm)
theorem d_Model_becomes_0 : decode b_Model_becomes 0 = .ok (.iconst 0, 1) := by decide +kernel
theorem d_Model_becomes_1 : decode b_Model_becomes 1 = .ok (.istore_n 2, 1) := by decide +kernel
theorem d_Model_becomes_2 : decode b_Model_becomes 2 = .ok (.iload_n 2, 1) := by decide +kernel
theorem d_Model_becomes_3 : decode b_Model_becomes 3 = .ok (.bipush 60, 2) := by decide +kernel
theorem d_Model_becomes_5 : decode b_Model_becomes 5 = .ok (.if_icmp .ge 26, 3) := by decide +kernel
theorem d_Model_becomes_8 : decode b_Model_becomes 8 = .ok (.aload_n 0, 1) := by decide +kernel
theorem d_Model_becomes_9 : decode b_Model_becomes 9 = .ok (.getfield 7, 3) := by decide +kernel
theorem d_Model_becomes_12 : decode b_Model_becomes 12 = .ok (.iload_n 2, 1) := by decide +kernel
theorem d_Model_becomes_13 : decode b_Model_becomes 13 = .ok (.aload_n 0, 1) := by decide +kernel
theorem d_Model_becomes_14 : decode b_Model_becomes 14 = .ok (.getfield 53, 3) := by decide +kernel
theorem d_Model_becomes_17 : decode b_Model_becomes 17 = .ok (.bipush 60, 2) := by decide +kernel
theorem d_Model_becomes_19 : decode b_Model_becomes 19 = .ok (.iload_n 1, 1) := by decide +kernel
theorem d_Model_becomes_20 : decode b_Model_becomes 20 = .ok (.imul, 1) := by decide +kernel
theorem d_Model_becomes_21 : decode b_Model_becomes 21 = .ok (.iload_n 2, 1) := by decide +kernel
theorem d_Model_becomes_22 : decode b_Model_becomes 22 = .ok (.iadd, 1) := by decide +kernel
theorem d_Model_becomes_23 : decode b_Model_becomes 23 = .ok (.iaload, 1) := by decide +kernel
theorem d_Model_becomes_24 : decode b_Model_becomes 24 = .ok (.iastore, 1) := by decide +kernel
theorem d_Model_becomes_25 : decode b_Model_becomes 25 = .ok (.iinc 2 1, 3) := by decide +kernel
theorem d_Model_becomes_28 : decode b_Model_becomes 28 = .ok (.goto (-26), 3) := by decide +kernel
theorem d_Model_becomes_31 : decode b_Model_becomes 31 = .ok (.return_, 1) := by decide +kernel
def X_Model_becomes_L2 (n : Nat) (a1 : Int32) : Nat → Int32 → Mem → Option (Unit × Mem)
    | 0, _, _ => none
    | m + 1, v2, M => (if 60 ≤ v2 then
    some ((), M)
    else
    gd (((60 : Int32) * a1) + v2) 600 (
      gd v2 234 (
        X_Model_becomes_L2 n a1 m (v2 + 1) (si M 1 (v2.toNatClampNeg) (M.1 15 (((60 : Int32) * a1) + v2).toNatClampNeg)))))
def X_Model_becomes (n : Nat) (p1 : Int32) (M : Mem) : Option (Unit × Mem) :=
  X_Model_becomes_L2 n p1 n 0 M
set_option maxRecDepth 20000 in
set_option maxHeartbeats 4000000 in
theorem X_Model_becomes_L2_ok {n : Nat} {a1 : Int32} : ∀ (m : Nat) (v2 : Int32) (M : Mem), J (mt_Model_becomes) wU 2 [(0, Value.ref 0), (1, Value.int a1), (2, Value.int v2)] [] M (X_Model_becomes_L2 n a1 m v2 M) := by
  intro m
  induction m with
  | zero => intro _ _; exact j_none
  | succ m ih =>
    intro v2 M
    show J _ _ _ _ _ _ ((if 60 ≤ v2 then
some ((), M)
else
gd (((60 : Int32) * a1) + v2) 600 (
gd v2 234 (
X_Model_becomes_L2 n a1 m (v2 + 1) (si M 1 (v2.toNatClampNeg) (M.1 15 (((60 : Int32) * a1) + v2).toNatClampNeg))))))
    refine j_iload_n (pc := 2) (q := 2) d_Model_becomes_2 rfl rfl ?_
    refine j_bipush (pc := 3) d_Model_becomes_3 k_b_60 ?_
    refine j_icmp_ge (pc := 5) (tgt := 31) d_Model_becomes_5 (by decide) (fun _ => ?_) (fun _ => ?_)
    · exact j_return (pc := 31) d_Model_becomes_31 rfl
    · refine j_aload_n (pc := 8) (q := 0) d_Model_becomes_8 rfl rfl ?_
      refine j_getA (pc := 9) d_Model_becomes_9 fl_Model_7 sm_0 (by decide) rfl ?_
      refine j_iload_n (pc := 12) (q := 2) d_Model_becomes_12 rfl rfl ?_
      refine j_aload_n (pc := 13) (q := 0) d_Model_becomes_13 rfl rfl ?_
      refine j_getA (pc := 14) d_Model_becomes_14 fl_Model_53 sm_0 (by decide) rfl ?_
      refine j_bipush (pc := 17) d_Model_becomes_17 k_b_60 ?_
      refine j_iload_n (pc := 19) (q := 1) d_Model_becomes_19 rfl rfl ?_
      refine j_imul (pc := 20) d_Model_becomes_20 ?_
      refine j_iload_n (pc := 21) (q := 2) d_Model_becomes_21 rfl rfl ?_
      refine j_iadd (pc := 22) d_Model_becomes_22 ?_
      refine j_iald (pc := 23) d_Model_becomes_23 sm_15 (fun _ => ?_)
      refine j_iast (pc := 24) d_Model_becomes_24 sm_1 (fun _ => ?_)
      refine j_iinc (pc := 25) (q := 2) d_Model_becomes_25 rfl (congrArg (v2 + ·) k_i_1) (by decide) rfl ?_
      refine j_goto (pc := 28) (tgt := 2) d_Model_becomes_28 (by decide) ?_
      refine j_lv [1, 2, 0] rfl ?_
      exact ih (v2 + 1) (si M 1 (v2.toNatClampNeg) (M.1 15 (((60 : Int32) * a1) + v2).toNatClampNeg))
set_option maxRecDepth 20000 in
set_option maxHeartbeats 4000000 in
theorem C_Model_becomes (n : Nat)   (p1 : Int32) (M : Mem) : Ct y_Model_becomes mt_Model_becomes wU [Value.ref 0, Value.int p1] M (X_Model_becomes n p1 M) := by
  refine ct_of (by decide +kernel) rfl (Nat.le_of_ble_eq_true rfl) ?_
  show J _ _ _ [(0, Value.ref 0), (1, Value.int p1)] _ _ _
  unfold X_Model_becomes
  refine j_iconst (pc := 0) d_Model_becomes_0 k_i_0 ?_
  refine j_istore_n (pc := 1) d_Model_becomes_1 rfl (by decide) rfl ?_
  refine j_lv [1, 2, 0] rfl ?_
  exact X_Model_becomes_L2_ok   n 0 M
-- Model.shakes (III)V
def mt_Model_shakes : Mt := ("ShakeHandsModel", b_Model_shakes, 6, none, 5, SHm)
theorem d_Model_shakes_0 : decode b_Model_shakes 0 = .ok (.bipush 60, 2) := by decide +kernel
theorem d_Model_shakes_2 : decode b_Model_shakes 2 = .ok (.iload_n 1, 1) := by decide +kernel
theorem d_Model_shakes_3 : decode b_Model_shakes 3 = .ok (.imul, 1) := by decide +kernel
theorem d_Model_shakes_4 : decode b_Model_shakes 4 = .ok (.bipush 10, 2) := by decide +kernel
theorem d_Model_shakes_6 : decode b_Model_shakes 6 = .ok (.aload_n 0, 1) := by decide +kernel
theorem d_Model_shakes_7 : decode b_Model_shakes 7 = .ok (.getfield 26, 3) := by decide +kernel
theorem d_Model_shakes_10 : decode b_Model_shakes 10 = .ok (.iload_n 2, 1) := by decide +kernel
theorem d_Model_shakes_11 : decode b_Model_shakes 11 = .ok (.iaload, 1) := by decide +kernel
theorem d_Model_shakes_12 : decode b_Model_shakes 12 = .ok (.imul, 1) := by decide +kernel
theorem d_Model_shakes_13 : decode b_Model_shakes 13 = .ok (.iadd, 1) := by decide +kernel
theorem d_Model_shakes_14 : decode b_Model_shakes 14 = .ok (.istore 4, 2) := by decide +kernel
theorem d_Model_shakes_16 : decode b_Model_shakes 16 = .ok (.bipush 60, 2) := by decide +kernel
theorem d_Model_shakes_18 : decode b_Model_shakes 18 = .ok (.iload_n 1, 1) := by decide +kernel
theorem d_Model_shakes_19 : decode b_Model_shakes 19 = .ok (.imul, 1) := by decide +kernel
theorem d_Model_shakes_20 : decode b_Model_shakes 20 = .ok (.bipush 10, 2) := by decide +kernel
theorem d_Model_shakes_22 : decode b_Model_shakes 22 = .ok (.aload_n 0, 1) := by decide +kernel
theorem d_Model_shakes_23 : decode b_Model_shakes 23 = .ok (.getfield 29, 3) := by decide +kernel
theorem d_Model_shakes_26 : decode b_Model_shakes 26 = .ok (.iload_n 2, 1) := by decide +kernel
theorem d_Model_shakes_27 : decode b_Model_shakes 27 = .ok (.iaload, 1) := by decide +kernel
theorem d_Model_shakes_28 : decode b_Model_shakes 28 = .ok (.imul, 1) := by decide +kernel
theorem d_Model_shakes_29 : decode b_Model_shakes 29 = .ok (.iadd, 1) := by decide +kernel
theorem d_Model_shakes_30 : decode b_Model_shakes 30 = .ok (.istore 5, 2) := by decide +kernel
theorem d_Model_shakes_32 : decode b_Model_shakes 32 = .ok (.iload_n 3, 1) := by decide +kernel
theorem d_Model_shakes_33 : decode b_Model_shakes 33 = .ok (.aload_n 0, 1) := by decide +kernel
theorem d_Model_shakes_34 : decode b_Model_shakes 34 = .ok (.getfield 26, 3) := by decide +kernel
theorem d_Model_shakes_37 : decode b_Model_shakes 37 = .ok (.iload_n 2, 1) := by decide +kernel
theorem d_Model_shakes_38 : decode b_Model_shakes 38 = .ok (.iaload, 1) := by decide +kernel
theorem d_Model_shakes_39 : decode b_Model_shakes 39 = .ok (.ishr, 1) := by decide +kernel
theorem d_Model_shakes_40 : decode b_Model_shakes 40 = .ok (.iconst 1, 1) := by decide +kernel
theorem d_Model_shakes_41 : decode b_Model_shakes 41 = .ok (.iand, 1) := by decide +kernel
theorem d_Model_shakes_42 : decode b_Model_shakes 42 = .ok (.iconst 1, 1) := by decide +kernel
theorem d_Model_shakes_43 : decode b_Model_shakes 43 = .ok (.if_icmp .eq 17, 3) := by decide +kernel
theorem d_Model_shakes_46 : decode b_Model_shakes 46 = .ok (.iload_n 3, 1) := by decide +kernel
theorem d_Model_shakes_47 : decode b_Model_shakes 47 = .ok (.aload_n 0, 1) := by decide +kernel
theorem d_Model_shakes_48 : decode b_Model_shakes 48 = .ok (.getfield 29, 3) := by decide +kernel
theorem d_Model_shakes_51 : decode b_Model_shakes 51 = .ok (.iload_n 2, 1) := by decide +kernel
theorem d_Model_shakes_52 : decode b_Model_shakes 52 = .ok (.iaload, 1) := by decide +kernel
theorem d_Model_shakes_53 : decode b_Model_shakes 53 = .ok (.ishr, 1) := by decide +kernel
theorem d_Model_shakes_54 : decode b_Model_shakes 54 = .ok (.iconst 1, 1) := by decide +kernel
theorem d_Model_shakes_55 : decode b_Model_shakes 55 = .ok (.iand, 1) := by decide +kernel
theorem d_Model_shakes_56 : decode b_Model_shakes 56 = .ok (.iconst 1, 1) := by decide +kernel
theorem d_Model_shakes_57 : decode b_Model_shakes 57 = .ok (.if_icmp .ne 4, 3) := by decide +kernel
theorem d_Model_shakes_60 : decode b_Model_shakes 60 = .ok (.return_, 1) := by decide +kernel
theorem d_Model_shakes_61 : decode b_Model_shakes 61 = .ok (.aload_n 0, 1) := by decide +kernel
theorem d_Model_shakes_62 : decode b_Model_shakes 62 = .ok (.iconst 0, 1) := by decide +kernel
theorem d_Model_shakes_63 : decode b_Model_shakes 63 = .ok (.putfield 229, 3) := by decide +kernel
theorem d_Model_shakes_66 : decode b_Model_shakes 66 = .ok (.aload_n 0, 1) := by decide +kernel
theorem d_Model_shakes_67 : decode b_Model_shakes 67 = .ok (.aload_n 0, 1) := by decide +kernel
theorem d_Model_shakes_68 : decode b_Model_shakes 68 = .ok (.getfield 53, 3) := by decide +kernel
theorem d_Model_shakes_71 : decode b_Model_shakes 71 = .ok (.iload 4, 2) := by decide +kernel
theorem d_Model_shakes_73 : decode b_Model_shakes 73 = .ok (.invokevirtual 241, 3) := by decide +kernel
theorem d_Model_shakes_76 : decode b_Model_shakes 76 = .ok (.aload_n 0, 1) := by decide +kernel
theorem d_Model_shakes_77 : decode b_Model_shakes 77 = .ok (.aload_n 0, 1) := by decide +kernel
theorem d_Model_shakes_78 : decode b_Model_shakes 78 = .ok (.getfield 53, 3) := by decide +kernel
theorem d_Model_shakes_81 : decode b_Model_shakes 81 = .ok (.iload 5, 2) := by decide +kernel
theorem d_Model_shakes_83 : decode b_Model_shakes 83 = .ok (.invokevirtual 241, 3) := by decide +kernel
theorem d_Model_shakes_86 : decode b_Model_shakes 86 = .ok (.aload_n 0, 1) := by decide +kernel
theorem d_Model_shakes_87 : decode b_Model_shakes 87 = .ok (.invokevirtual 245, 3) := by decide +kernel
theorem d_Model_shakes_90 : decode b_Model_shakes 90 = .ok (.aload_n 0, 1) := by decide +kernel
theorem d_Model_shakes_91 : decode b_Model_shakes 91 = .ok (.aload_n 0, 1) := by decide +kernel
theorem d_Model_shakes_92 : decode b_Model_shakes 92 = .ok (.getfield 53, 3) := by decide +kernel
theorem d_Model_shakes_95 : decode b_Model_shakes 95 = .ok (.iload 4, 2) := by decide +kernel
theorem d_Model_shakes_97 : decode b_Model_shakes 97 = .ok (.invokevirtual 248, 3) := by decide +kernel
theorem d_Model_shakes_100 : decode b_Model_shakes 100 = .ok (.aload_n 0, 1) := by decide +kernel
theorem d_Model_shakes_101 : decode b_Model_shakes 101 = .ok (.aload_n 0, 1) := by decide +kernel
theorem d_Model_shakes_102 : decode b_Model_shakes 102 = .ok (.getfield 53, 3) := by decide +kernel
theorem d_Model_shakes_105 : decode b_Model_shakes 105 = .ok (.iload 5, 2) := by decide +kernel
theorem d_Model_shakes_107 : decode b_Model_shakes 107 = .ok (.invokevirtual 248, 3) := by decide +kernel
theorem d_Model_shakes_110 : decode b_Model_shakes 110 = .ok (.return_, 1) := by decide +kernel
def X_Model_shakes (n : Nat) (p1 : Int32) (p2 : Int32) (p3 : Int32) (M : Mem) : Option (Unit × Mem) :=
  gd p2 15 (
    nm (((60 : Int32) * p1) + ((10 : Int32) * (M.1 6 p2.toNatClampNeg))) fun x1 =>
    gd p2 15 (
      nm (((60 : Int32) * p1) + ((10 : Int32) * (M.1 7 p2.toNatClampNeg))) fun x2 =>
      gd p2 15 (
        (if ((p3 >>> ((M.1 6 p2.toNatClampNeg) &&& 31)) &&& 1) = 1 then
          some ((), M)
          else
          gd p2 15 (
            (if ((p3 >>> ((M.1 7 p2.toNatClampNeg) &&& 31)) &&& 1) = 1 then
              some ((), M)
              else
              nm (si M 0 35 0) fun N3 =>
              bd (X_Model_takes n 15 600 x1 N3) fun _ M5 =>
              bd (X_Model_takes n 15 600 x2 M5) fun _ M7 =>
              bd (X_Model_settles n M7) fun _ M9 =>
              bd (X_Model_puts n 15 600 x1 M9) fun _ M11 =>
              bd (X_Model_puts n 15 600 x2 M11) fun _ M13 =>
              some ((), M13)))))))
set_option maxRecDepth 20000 in
set_option maxHeartbeats 4000000 in
theorem C_Model_shakes (n : Nat)   (p1 : Int32) (p2 : Int32) (p3 : Int32) (M : Mem) : Ct y_Model_shakes mt_Model_shakes wU [Value.ref 0, Value.int p1, Value.int p2, Value.int p3] M (X_Model_shakes n p1 p2 p3 M) := by
  refine ct_of (by decide +kernel) rfl (Nat.le_of_ble_eq_true rfl) ?_
  show J _ _ _ [(0, Value.ref 0), (1, Value.int p1), (2, Value.int p2), (3, Value.int p3)] _ _ _
  unfold X_Model_shakes
  refine j_bipush (pc := 0) d_Model_shakes_0 k_b_60 ?_
  refine j_iload_n (pc := 2) (q := 1) d_Model_shakes_2 rfl rfl ?_
  refine j_imul (pc := 3) d_Model_shakes_3 ?_
  refine j_bipush (pc := 4) d_Model_shakes_4 k_b_10 ?_
  refine j_aload_n (pc := 6) (q := 0) d_Model_shakes_6 rfl rfl ?_
  refine j_getA (pc := 7) d_Model_shakes_7 fl_Model_26 sm_0 (by decide) rfl ?_
  refine j_iload_n (pc := 10) (q := 2) d_Model_shakes_10 rfl rfl ?_
  refine j_iald (pc := 11) d_Model_shakes_11 sm_6 (fun _ => ?_)
  refine j_imul (pc := 12) d_Model_shakes_12 ?_
  refine j_iadd (pc := 13) d_Model_shakes_13 ?_
  refine j_nmi (fun x1 => ?_)
  refine j_istore (pc := 14) d_Model_shakes_14 (by decide) rfl ?_
  refine j_bipush (pc := 16) d_Model_shakes_16 k_b_60 ?_
  refine j_iload_n (pc := 18) (q := 2) d_Model_shakes_18 rfl rfl ?_
  refine j_imul (pc := 19) d_Model_shakes_19 ?_
  refine j_bipush (pc := 20) d_Model_shakes_20 k_b_10 ?_
  refine j_aload_n (pc := 22) (q := 1) d_Model_shakes_22 rfl rfl ?_
  refine j_getA (pc := 23) d_Model_shakes_23 fl_Model_29 sm_0 (by decide) rfl ?_
  refine j_iload_n (pc := 26) (q := 3) d_Model_shakes_26 rfl rfl ?_
  refine j_iald (pc := 27) d_Model_shakes_27 sm_7 (fun _ => ?_)
  refine j_imul (pc := 28) d_Model_shakes_28 ?_
  refine j_iadd (pc := 29) d_Model_shakes_29 ?_
  refine j_nmi (fun x2 => ?_)
  refine j_istore (pc := 30) d_Model_shakes_30 (by decide) rfl ?_
  refine j_iload_n (pc := 32) (q := 5) d_Model_shakes_32 rfl rfl ?_
  refine j_aload_n (pc := 33) (q := 2) d_Model_shakes_33 rfl rfl ?_
  refine j_getA (pc := 34) d_Model_shakes_34 fl_Model_26 sm_0 (by decide) rfl ?_
  refine j_iload_n (pc := 37) (q := 4) d_Model_shakes_37 rfl rfl ?_
  refine j_iald (pc := 38) d_Model_shakes_38 sm_6 (fun _ => ?_)
  refine j_ishr (pc := 39) d_Model_shakes_39 ?_
  refine j_iconst (pc := 40) d_Model_shakes_40 k_i_1 ?_
  refine j_iand (pc := 41) d_Model_shakes_41 ?_
  refine j_iconst (pc := 42) d_Model_shakes_42 k_i_1 ?_
  refine j_icmp_eq (pc := 43) (tgt := 60) d_Model_shakes_43 (by decide) (fun _ => ?_) (fun _ => ?_)
  · exact j_return (pc := 60) d_Model_shakes_60 rfl
  · refine j_iload_n (pc := 46) (q := 5) d_Model_shakes_46 rfl rfl ?_
    refine j_aload_n (pc := 47) (q := 2) d_Model_shakes_47 rfl rfl ?_
    refine j_getA (pc := 48) d_Model_shakes_48 fl_Model_29 sm_0 (by decide) rfl ?_
    refine j_iload_n (pc := 51) (q := 4) d_Model_shakes_51 rfl rfl ?_
    refine j_iald (pc := 52) d_Model_shakes_52 sm_7 (fun _ => ?_)
    refine j_ishr (pc := 53) d_Model_shakes_53 ?_
    refine j_iconst (pc := 54) d_Model_shakes_54 k_i_1 ?_
    refine j_iand (pc := 55) d_Model_shakes_55 ?_
    refine j_iconst (pc := 56) d_Model_shakes_56 k_i_1 ?_
    refine j_icmp_ne (pc := 57) (tgt := 61) d_Model_shakes_57 (by decide) (fun _ => ?_) (fun _ => ?_)
    · refine j_aload_n (pc := 61) (q := 2) d_Model_shakes_61 rfl rfl ?_
      refine j_iconst (pc := 62) d_Model_shakes_62 k_i_0 ?_
      refine j_putI (pc := 63) d_Model_shakes_63 fl_Model_229 rfl sm_0 (by decide) rfl ?_
      refine j_aload_n (pc := 66) (q := 2) d_Model_shakes_66 rfl rfl ?_
      refine j_aload_n (pc := 67) (q := 2) d_Model_shakes_67 rfl rfl ?_
      refine j_getA (pc := 68) d_Model_shakes_68 fl_Model_53 sm_0 (by decide) rfl ?_
      refine j_iload (pc := 71) (q := 1) d_Model_shakes_71 rfl ?_
      refine j_nmM (fun N3 => ?_)
      refine j_callV2 (pc := 73) d_Model_shakes_73 (C_Model_takes n 15 600 sm_15 x1 N3) cV_Model_241 cd_Model_takes dn_Model_takes rfl (by decide) (Nat.le_of_ble_eq_true rfl) (Nat.le_of_ble_eq_true rfl) nr_U sm_0 (by decide) rfl (fun r4 M5 => ?_)
      refine j_aload_n (pc := 76) (q := 2) d_Model_shakes_76 rfl rfl ?_
      refine j_aload_n (pc := 77) (q := 2) d_Model_shakes_77 rfl rfl ?_
      refine j_getA (pc := 78) d_Model_shakes_78 fl_Model_53 sm_0 (by decide) rfl ?_
      refine j_iload (pc := 81) (q := 0) d_Model_shakes_81 rfl ?_
      refine j_callV2 (pc := 83) d_Model_shakes_83 (C_Model_takes n 15 600 sm_15 x2 M5) cV_Model_241 cd_Model_takes dn_Model_takes rfl (by decide) (Nat.le_of_ble_eq_true rfl) (Nat.le_of_ble_eq_true rfl) nr_U sm_0 (by decide) rfl (fun r6 M7 => ?_)
      refine j_aload_n (pc := 86) (q := 2) d_Model_shakes_86 rfl rfl ?_
      refine j_callV0 (pc := 87) d_Model_shakes_87 (C_Model_settles n M7) cV_Model_245 cd_Model_settles dn_Model_settles rfl (by decide) (Nat.le_of_ble_eq_true rfl) (Nat.le_of_ble_eq_true rfl) nr_U sm_0 (by decide) rfl (fun r8 M9 => ?_)
      refine j_aload_n (pc := 90) (q := 2) d_Model_shakes_90 rfl rfl ?_
      refine j_aload_n (pc := 91) (q := 2) d_Model_shakes_91 rfl rfl ?_
      refine j_getA (pc := 92) d_Model_shakes_92 fl_Model_53 sm_0 (by decide) rfl ?_
      refine j_iload (pc := 95) (q := 1) d_Model_shakes_95 rfl ?_
      refine j_callV2 (pc := 97) d_Model_shakes_97 (C_Model_puts n 15 600 sm_15 x1 M9) cV_Model_248 cd_Model_puts dn_Model_puts rfl (by decide) (Nat.le_of_ble_eq_true rfl) (Nat.le_of_ble_eq_true rfl) nr_U sm_0 (by decide) rfl (fun r10 M11 => ?_)
      refine j_aload_n (pc := 100) (q := 2) d_Model_shakes_100 rfl rfl ?_
      refine j_aload_n (pc := 101) (q := 2) d_Model_shakes_101 rfl rfl ?_
      refine j_getA (pc := 102) d_Model_shakes_102 fl_Model_53 sm_0 (by decide) rfl ?_
      refine j_iload (pc := 105) (q := 0) d_Model_shakes_105 rfl ?_
      refine j_callV2 (pc := 107) d_Model_shakes_107 (C_Model_puts n 15 600 sm_15 x2 M11) cV_Model_248 cd_Model_puts dn_Model_puts rfl (by decide) (Nat.le_of_ble_eq_true rfl) (Nat.le_of_ble_eq_true rfl) nr_U sm_0 (by decide) rfl (fun r12 M13 => ?_)
      exact j_return (pc := 110) d_Model_shakes_110 rfl
    · exact j_return (pc := 60) d_Model_shakes_60 rfl
-- Model.shakesNow (I)V
def mt_Model_shakesNow : Mt := ("ShakeHandsModel", b_Model_shakesNow, 2, none, 6, SHm)
theorem d_Model_shakesNow_0 : decode b_Model_shakesNow 0 = .ok (.aload_n 0, 1) := by decide +kernel
theorem d_Model_shakesNow_1 : decode b_Model_shakesNow 1 = .ok (.iconst 0, 1) := by decide +kernel
theorem d_Model_shakesNow_2 : decode b_Model_shakesNow 2 = .ok (.invokevirtual 256, 3) := by decide +kernel
theorem d_Model_shakesNow_5 : decode b_Model_shakesNow 5 = .ok (.aload_n 0, 1) := by decide +kernel
theorem d_Model_shakesNow_6 : decode b_Model_shakesNow 6 = .ok (.iconst 0, 1) := by decide +kernel
theorem d_Model_shakesNow_7 : decode b_Model_shakesNow 7 = .ok (.iload_n 1, 1) := by decide +kernel
theorem d_Model_shakesNow_8 : decode b_Model_shakesNow 8 = .ok (.aload_n 0, 1) := by decide +kernel
theorem d_Model_shakesNow_9 : decode b_Model_shakesNow 9 = .ok (.invokevirtual 221, 3) := by decide +kernel
theorem d_Model_shakesNow_12 : decode b_Model_shakesNow 12 = .ok (.invokevirtual 282, 3) := by decide +kernel
theorem d_Model_shakesNow_15 : decode b_Model_shakesNow 15 = .ok (.aload_n 0, 1) := by decide +kernel
theorem d_Model_shakesNow_16 : decode b_Model_shakesNow 16 = .ok (.iconst 0, 1) := by decide +kernel
theorem d_Model_shakesNow_17 : decode b_Model_shakesNow 17 = .ok (.invokevirtual 286, 3) := by decide +kernel
theorem d_Model_shakesNow_20 : decode b_Model_shakesNow 20 = .ok (.return_, 1) := by decide +kernel
def X_Model_shakesNow (n : Nat) (p1 : Int32) (M : Mem) : Option (Unit × Mem) :=
  bd (X_Model_begins n 0 M) fun _ M2 =>
  bd (X_Model_worn n M2) fun r3 M4 =>
  bd (X_Model_shakes n 0 p1 r3 M4) fun _ M6 =>
  bd (X_Model_becomes n 0 M6) fun _ M8 =>
  some ((), M8)
set_option maxRecDepth 20000 in
set_option maxHeartbeats 4000000 in
theorem C_Model_shakesNow (n : Nat)   (p1 : Int32) (M : Mem) : Ct y_Model_shakesNow mt_Model_shakesNow wU [Value.ref 0, Value.int p1] M (X_Model_shakesNow n p1 M) := by
  refine ct_of (by decide +kernel) rfl (Nat.le_of_ble_eq_true rfl) ?_
  show J _ _ _ [(0, Value.ref 0), (1, Value.int p1)] _ _ _
  unfold X_Model_shakesNow
  refine j_aload_n (pc := 0) (q := 0) d_Model_shakesNow_0 rfl rfl ?_
  refine j_iconst (pc := 1) d_Model_shakesNow_1 k_i_0 ?_
  refine j_callV1 (pc := 2) d_Model_shakesNow_2 (C_Model_begins n 0 M) cV_Model_256 cd_Model_begins dn_Model_begins rfl (by decide) (Nat.le_of_ble_eq_true rfl) (Nat.le_of_ble_eq_true rfl) nr_U sm_0 (by decide) rfl (fun r1 M2 => ?_)
  refine j_aload_n (pc := 5) (q := 0) d_Model_shakesNow_5 rfl rfl ?_
  refine j_iconst (pc := 6) d_Model_shakesNow_6 k_i_0 ?_
  refine j_iload_n (pc := 7) (q := 1) d_Model_shakesNow_7 rfl rfl ?_
  refine j_aload_n (pc := 8) (q := 0) d_Model_shakesNow_8 rfl rfl ?_
  refine j_callV0 (pc := 9) d_Model_shakesNow_9 (C_Model_worn n M2) cV_Model_221 cd_Model_worn dn_Model_worn rfl (by decide) (Nat.le_of_ble_eq_true rfl) (Nat.le_of_ble_eq_true rfl) nr_I sm_0 (by decide) rfl (fun r3 M4 => ?_)
  refine j_callV3 (pc := 12) d_Model_shakesNow_12 (C_Model_shakes n 0 p1 r3 M4) cV_Model_282 cd_Model_shakes dn_Model_shakes rfl (by decide) (Nat.le_of_ble_eq_true rfl) (Nat.le_of_ble_eq_true rfl) nr_U sm_0 (by decide) rfl (fun r5 M6 => ?_)
  refine j_aload_n (pc := 15) (q := 0) d_Model_shakesNow_15 rfl rfl ?_
  refine j_iconst (pc := 16) d_Model_shakesNow_16 k_i_0 ?_
  refine j_callV1 (pc := 17) d_Model_shakesNow_17 (C_Model_becomes n 0 M6) cV_Model_286 cd_Model_becomes dn_Model_becomes rfl (by decide) (Nat.le_of_ble_eq_true rfl) (Nat.le_of_ble_eq_true rfl) nr_U sm_0 (by decide) rfl (fun r7 M8 => ?_)
  exact j_return (pc := 20) d_Model_shakesNow_20 rfl
-- Model.shake (II)I
def mt_Model_shake : Mt := ("ShakeHandsModel", b_Model_shake, 3, some .int, 7, SHm)
theorem d_Model_shake_0 : decode b_Model_shake 0 = .ok (.aload_n 0, 1) := by decide +kernel
theorem d_Model_shake_1 : decode b_Model_shake 1 = .ok (.iload_n 1, 1) := by decide +kernel
theorem d_Model_shake_2 : decode b_Model_shake 2 = .ok (.iload_n 2, 1) := by decide +kernel
theorem d_Model_shake_3 : decode b_Model_shake 3 = .ok (.invokevirtual 289, 3) := by decide +kernel
theorem d_Model_shake_6 : decode b_Model_shake 6 = .ok (.ifCond .ne 5, 3) := by decide +kernel
theorem d_Model_shake_9 : decode b_Model_shake 9 = .ok (.iconst (-1), 1) := by decide +kernel
theorem d_Model_shake_10 : decode b_Model_shake 10 = .ok (.ireturn, 1) := by decide +kernel
theorem d_Model_shake_11 : decode b_Model_shake 11 = .ok (.aload_n 0, 1) := by decide +kernel
theorem d_Model_shake_12 : decode b_Model_shake 12 = .ok (.getfield 7, 3) := by decide +kernel
theorem d_Model_shake_15 : decode b_Model_shake 15 = .ok (.bipush 60, 2) := by decide +kernel
theorem d_Model_shake_17 : decode b_Model_shake 17 = .ok (.iload_n 1, 1) := by decide +kernel
theorem d_Model_shake_18 : decode b_Model_shake 18 = .ok (.iadd, 1) := by decide +kernel
theorem d_Model_shake_19 : decode b_Model_shake 19 = .ok (.iaload, 1) := by decide +kernel
theorem d_Model_shake_20 : decode b_Model_shake 20 = .ok (.iconst 1, 1) := by decide +kernel
theorem d_Model_shake_21 : decode b_Model_shake 21 = .ok (.if_icmp .eq 16, 3) := by decide +kernel
theorem d_Model_shake_24 : decode b_Model_shake 24 = .ok (.aload_n 0, 1) := by decide +kernel
theorem d_Model_shake_25 : decode b_Model_shake 25 = .ok (.getfield 7, 3) := by decide +kernel
theorem d_Model_shake_28 : decode b_Model_shake 28 = .ok (.bipush 60, 2) := by decide +kernel
theorem d_Model_shake_30 : decode b_Model_shake 30 = .ok (.iload_n 2, 1) := by decide +kernel
theorem d_Model_shake_31 : decode b_Model_shake 31 = .ok (.iadd, 1) := by decide +kernel
theorem d_Model_shake_32 : decode b_Model_shake 32 = .ok (.iaload, 1) := by decide +kernel
theorem d_Model_shake_33 : decode b_Model_shake 33 = .ok (.iconst 1, 1) := by decide +kernel
theorem d_Model_shake_34 : decode b_Model_shake 34 = .ok (.if_icmp .ne 6, 3) := by decide +kernel
theorem d_Model_shake_37 : decode b_Model_shake 37 = .ok (.bipush (-4), 2) := by decide +kernel
theorem d_Model_shake_39 : decode b_Model_shake 39 = .ok (.ireturn, 1) := by decide +kernel
theorem d_Model_shake_40 : decode b_Model_shake 40 = .ok (.aload_n 0, 1) := by decide +kernel
theorem d_Model_shake_41 : decode b_Model_shake 41 = .ok (.iload_n 1, 1) := by decide +kernel
theorem d_Model_shake_42 : decode b_Model_shake 42 = .ok (.iload_n 2, 1) := by decide +kernel
theorem d_Model_shake_43 : decode b_Model_shake 43 = .ok (.invokestatic 87, 3) := by decide +kernel
theorem d_Model_shake_46 : decode b_Model_shake 46 = .ok (.invokevirtual 292, 3) := by decide +kernel
theorem d_Model_shake_49 : decode b_Model_shake 49 = .ok (.aload_n 0, 1) := by decide +kernel
theorem d_Model_shake_50 : decode b_Model_shake 50 = .ok (.getfield 7, 3) := by decide +kernel
theorem d_Model_shake_53 : decode b_Model_shake 53 = .ok (.bipush 10, 2) := by decide +kernel
theorem d_Model_shake_55 : decode b_Model_shake 55 = .ok (.iload_n 1, 1) := by decide +kernel
theorem d_Model_shake_56 : decode b_Model_shake 56 = .ok (.imul, 1) := by decide +kernel
theorem d_Model_shake_57 : decode b_Model_shake 57 = .ok (.iaload, 1) := by decide +kernel
theorem d_Model_shake_58 : decode b_Model_shake 58 = .ok (.ireturn, 1) := by decide +kernel
def X_Model_shake (n : Nat) (p1 : Int32) (p2 : Int32) (M : Mem) : Option (Int32 × Mem) :=
  bd (X_Model_areTwo n p1 p2 M) fun r1 M2 =>
  (if r1 = 0 then
    some ((-1), M2)
    else
    gd ((60 : Int32) + p1) 234 (
      (if (M2.1 1 ((60 : Int32) + p1).toNatClampNeg) = 1 then
        some ((-4), M2)
        else
        gd ((60 : Int32) + p2) 234 (
          (if (M2.1 1 ((60 : Int32) + p2).toNatClampNeg) = 1 then
            some ((-4), M2)
            else
            bd (X_Model_pairOf n p1 p2 M2) fun r3 M4 =>
            bd (X_Model_shakesNow n r3 M4) fun _ M6 =>
            gd ((10 : Int32) * p1) 234 (
              some ((M6.1 1 ((10 : Int32) * p1).toNatClampNeg), M6)))))))
set_option maxRecDepth 20000 in
set_option maxHeartbeats 4000000 in
theorem C_Model_shake (n : Nat)   (p1 : Int32) (p2 : Int32) (M : Mem) : Ct y_Model_shake mt_Model_shake wI [Value.ref 0, Value.int p1, Value.int p2] M (X_Model_shake n p1 p2 M) := by
  refine ct_of (by decide +kernel) rfl (Nat.le_of_ble_eq_true rfl) ?_
  show J _ _ _ [(0, Value.ref 0), (1, Value.int p1), (2, Value.int p2)] _ _ _
  unfold X_Model_shake
  refine j_aload_n (pc := 0) (q := 0) d_Model_shake_0 rfl rfl ?_
  refine j_iload_n (pc := 1) (q := 1) d_Model_shake_1 rfl rfl ?_
  refine j_iload_n (pc := 2) (q := 2) d_Model_shake_2 rfl rfl ?_
  refine j_callV2 (pc := 3) d_Model_shake_3 (C_Model_areTwo n p1 p2 M) cV_Model_289 cd_Model_areTwo dn_Model_areTwo rfl (by decide) (Nat.le_of_ble_eq_true rfl) (Nat.le_of_ble_eq_true rfl) nr_I sm_0 (by decide) rfl (fun r1 M2 => ?_)
  refine j_if_ne (pc := 6) (tgt := 11) d_Model_shake_6 (by decide) (fun _ => ?_) (fun _ => ?_)
  · refine j_aload_n (pc := 11) (q := 0) d_Model_shake_11 rfl rfl ?_
    refine j_getA (pc := 12) d_Model_shake_12 fl_Model_7 sm_0 (by decide) rfl ?_
    refine j_bipush (pc := 15) d_Model_shake_15 k_b_60 ?_
    refine j_iload_n (pc := 17) (q := 1) d_Model_shake_17 rfl rfl ?_
    refine j_iadd (pc := 18) d_Model_shake_18 ?_
    refine j_iald (pc := 19) d_Model_shake_19 sm_1 (fun _ => ?_)
    refine j_iconst (pc := 20) d_Model_shake_20 k_i_1 ?_
    refine j_icmp_eq (pc := 21) (tgt := 37) d_Model_shake_21 (by decide) (fun _ => ?_) (fun _ => ?_)
    · refine j_bipush (pc := 37) d_Model_shake_37 k_b_m4 ?_
      exact j_ireturn (pc := 39) d_Model_shake_39 rfl
    · refine j_aload_n (pc := 24) (q := 0) d_Model_shake_24 rfl rfl ?_
      refine j_getA (pc := 25) d_Model_shake_25 fl_Model_7 sm_0 (by decide) rfl ?_
      refine j_bipush (pc := 28) d_Model_shake_28 k_b_60 ?_
      refine j_iload_n (pc := 30) (q := 2) d_Model_shake_30 rfl rfl ?_
      refine j_iadd (pc := 31) d_Model_shake_31 ?_
      refine j_iald (pc := 32) d_Model_shake_32 sm_1 (fun _ => ?_)
      refine j_iconst (pc := 33) d_Model_shake_33 k_i_1 ?_
      refine j_icmp_ne (pc := 34) (tgt := 40) d_Model_shake_34 (by decide) (fun _ => ?_) (fun _ => ?_)
      · refine j_aload_n (pc := 40) (q := 0) d_Model_shake_40 rfl rfl ?_
        refine j_iload_n (pc := 41) (q := 1) d_Model_shake_41 rfl rfl ?_
        refine j_iload_n (pc := 42) (q := 2) d_Model_shake_42 rfl rfl ?_
        refine j_callS2 (pc := 43) d_Model_shake_43 (C_Model_pairOf n p1 p2 M2) cS_Model_87 cd_Model_pairOf dn_Model_pairOf rfl (by decide) (Nat.le_of_ble_eq_true rfl) (Nat.le_of_ble_eq_true rfl) nr_I (fun r3 M4 => ?_)
        refine j_callV1 (pc := 46) d_Model_shake_46 (C_Model_shakesNow n r3 M4) cV_Model_292 cd_Model_shakesNow dn_Model_shakesNow rfl (by decide) (Nat.le_of_ble_eq_true rfl) (Nat.le_of_ble_eq_true rfl) nr_U sm_0 (by decide) rfl (fun r5 M6 => ?_)
        refine j_aload_n (pc := 49) (q := 0) d_Model_shake_49 rfl rfl ?_
        refine j_getA (pc := 50) d_Model_shake_50 fl_Model_7 sm_0 (by decide) rfl ?_
        refine j_bipush (pc := 53) d_Model_shake_53 k_b_10 ?_
        refine j_iload_n (pc := 55) (q := 1) d_Model_shake_55 rfl rfl ?_
        refine j_imul (pc := 56) d_Model_shake_56 ?_
        refine j_iald (pc := 57) d_Model_shake_57 sm_1 (fun _ => ?_)
        exact j_ireturn (pc := 58) d_Model_shake_58 rfl
      · refine j_bipush (pc := 37) d_Model_shake_37 k_b_m4 ?_
        exact j_ireturn (pc := 39) d_Model_shake_39 rfl
  · refine j_iconst (pc := 9) d_Model_shake_9 k_i_m1 ?_
    exact j_ireturn (pc := 10) d_Model_shake_10 rfl
-- Model.anyIn (I)I
def mt_Model_anyIn : Mt := ("ShakeHandsModel", b_Model_anyIn, 4, some .int, 3, SHm)
theorem d_Model_anyIn_0 : decode b_Model_anyIn 0 = .ok (.iconst 0, 1) := by decide +kernel
theorem d_Model_anyIn_1 : decode b_Model_anyIn 1 = .ok (.istore_n 2, 1) := by decide +kernel
theorem d_Model_anyIn_2 : decode b_Model_anyIn 2 = .ok (.iconst 0, 1) := by decide +kernel
theorem d_Model_anyIn_3 : decode b_Model_anyIn 3 = .ok (.istore_n 3, 1) := by decide +kernel
theorem d_Model_anyIn_4 : decode b_Model_anyIn 4 = .ok (.iload_n 3, 1) := by decide +kernel
theorem d_Model_anyIn_5 : decode b_Model_anyIn 5 = .ok (.aload_n 0, 1) := by decide +kernel
theorem d_Model_anyIn_6 : decode b_Model_anyIn 6 = .ok (.getfield 119, 3) := by decide +kernel
theorem d_Model_anyIn_9 : decode b_Model_anyIn 9 = .ok (.if_icmp .ge 18, 3) := by decide +kernel
theorem d_Model_anyIn_12 : decode b_Model_anyIn 12 = .ok (.iload_n 2, 1) := by decide +kernel
theorem d_Model_anyIn_13 : decode b_Model_anyIn 13 = .ok (.aload_n 0, 1) := by decide +kernel
theorem d_Model_anyIn_14 : decode b_Model_anyIn 14 = .ok (.iload_n 1, 1) := by decide +kernel
theorem d_Model_anyIn_15 : decode b_Model_anyIn 15 = .ok (.iload_n 3, 1) := by decide +kernel
theorem d_Model_anyIn_16 : decode b_Model_anyIn 16 = .ok (.invokevirtual 251, 3) := by decide +kernel
theorem d_Model_anyIn_19 : decode b_Model_anyIn 19 = .ok (.ior, 1) := by decide +kernel
theorem d_Model_anyIn_20 : decode b_Model_anyIn 20 = .ok (.istore_n 2, 1) := by decide +kernel
theorem d_Model_anyIn_21 : decode b_Model_anyIn 21 = .ok (.iinc 3 1, 3) := by decide +kernel
theorem d_Model_anyIn_24 : decode b_Model_anyIn 24 = .ok (.goto (-20), 3) := by decide +kernel
theorem d_Model_anyIn_27 : decode b_Model_anyIn 27 = .ok (.iload_n 2, 1) := by decide +kernel
theorem d_Model_anyIn_28 : decode b_Model_anyIn 28 = .ok (.ireturn, 1) := by decide +kernel
def X_Model_anyIn_L4 (n : Nat) (a1 : Int32) : Nat → Int32 → Int32 → Mem → Option (Int32 × Mem)
    | 0, _, _, _ => none
    | m + 1, v2, v3, M => (if (M.1 0 2) ≤ v3 then
    some (v2, M)
    else
    bd (X_Model_knowsIn n a1 v3 M) fun r1 M2 =>
    nm (v2 ||| r1) fun x3 =>
    X_Model_anyIn_L4 n a1 m x3 (v3 + 1) M2)
def X_Model_anyIn (n : Nat) (p1 : Int32) (M : Mem) : Option (Int32 × Mem) :=
  X_Model_anyIn_L4 n p1 n 0 0 M
set_option maxRecDepth 20000 in
set_option maxHeartbeats 4000000 in
theorem X_Model_anyIn_L4_ok {n : Nat} {a1 : Int32} : ∀ (m : Nat) (v2 : Int32) (v3 : Int32) (M : Mem), J (mt_Model_anyIn) wI 4 [(0, Value.ref 0), (1, Value.int a1), (2, Value.int v2), (3, Value.int v3)] [] M (X_Model_anyIn_L4 n a1 m v2 v3 M) := by
  intro m
  induction m with
  | zero => intro _ _ _; exact j_none
  | succ m ih =>
    intro v2 v3 M
    show J _ _ _ _ _ _ ((if (M.1 0 2) ≤ v3 then
some (v2, M)
else
bd (X_Model_knowsIn n a1 v3 M) fun r1 M2 =>
nm (v2 ||| r1) fun x3 =>
X_Model_anyIn_L4 n a1 m x3 (v3 + 1) M2))
    refine j_iload_n (pc := 4) (q := 3) d_Model_anyIn_4 rfl rfl ?_
    refine j_aload_n (pc := 5) (q := 0) d_Model_anyIn_5 rfl rfl ?_
    refine j_getI (pc := 6) d_Model_anyIn_6 fl_Model_119 sm_0 (by decide) rfl ?_
    refine j_icmp_ge (pc := 9) (tgt := 27) d_Model_anyIn_9 (by decide) (fun _ => ?_) (fun _ => ?_)
    · refine j_iload_n (pc := 27) (q := 2) d_Model_anyIn_27 rfl rfl ?_
      exact j_ireturn (pc := 28) d_Model_anyIn_28 rfl
    · refine j_iload_n (pc := 12) (q := 2) d_Model_anyIn_12 rfl rfl ?_
      refine j_aload_n (pc := 13) (q := 0) d_Model_anyIn_13 rfl rfl ?_
      refine j_iload_n (pc := 14) (q := 1) d_Model_anyIn_14 rfl rfl ?_
      refine j_iload_n (pc := 15) (q := 3) d_Model_anyIn_15 rfl rfl ?_
      refine j_callV2 (pc := 16) d_Model_anyIn_16 (C_Model_knowsIn n a1 v3 M) cV_Model_251 cd_Model_knowsIn dn_Model_knowsIn rfl (by decide) (Nat.le_of_ble_eq_true rfl) (Nat.le_of_ble_eq_true rfl) nr_I sm_0 (by decide) rfl (fun r1 M2 => ?_)
      refine j_ior (pc := 19) d_Model_anyIn_19 ?_
      refine j_nmi (fun x3 => ?_)
      refine j_istore_n (pc := 20) d_Model_anyIn_20 rfl (by decide) rfl ?_
      refine j_iinc (pc := 21) (q := 3) d_Model_anyIn_21 rfl (congrArg (v3 + ·) k_i_1) (by decide) rfl ?_
      refine j_goto (pc := 24) (tgt := 4) d_Model_anyIn_24 (by decide) ?_
      refine j_lv [2, 3, 1, 0] rfl ?_
      exact ih x3 (v3 + 1) M2
set_option maxRecDepth 20000 in
set_option maxHeartbeats 4000000 in
theorem C_Model_anyIn (n : Nat)   (p1 : Int32) (M : Mem) : Ct y_Model_anyIn mt_Model_anyIn wI [Value.ref 0, Value.int p1] M (X_Model_anyIn n p1 M) := by
  refine ct_of (by decide +kernel) rfl (Nat.le_of_ble_eq_true rfl) ?_
  show J _ _ _ [(0, Value.ref 0), (1, Value.int p1)] _ _ _
  unfold X_Model_anyIn
  refine j_iconst (pc := 0) d_Model_anyIn_0 k_i_0 ?_
  refine j_istore_n (pc := 1) d_Model_anyIn_1 rfl (by decide) rfl ?_
  refine j_iconst (pc := 2) d_Model_anyIn_2 k_i_0 ?_
  refine j_istore_n (pc := 3) d_Model_anyIn_3 rfl (by decide) rfl ?_
  refine j_lv [2, 3, 1, 0] rfl ?_
  exact X_Model_anyIn_L4_ok   n 0 0 M
-- Model.anyNow ()I
def mt_Model_anyNow : Mt := ("ShakeHandsModel", b_Model_anyNow, 1, some .int, 4, SHm)
theorem d_Model_anyNow_0 : decode b_Model_anyNow 0 = .ok (.aload_n 0, 1) := by decide +kernel
theorem d_Model_anyNow_1 : decode b_Model_anyNow 1 = .ok (.iconst 0, 1) := by decide +kernel
theorem d_Model_anyNow_2 : decode b_Model_anyNow 2 = .ok (.invokevirtual 256, 3) := by decide +kernel
theorem d_Model_anyNow_5 : decode b_Model_anyNow 5 = .ok (.aload_n 0, 1) := by decide +kernel
theorem d_Model_anyNow_6 : decode b_Model_anyNow 6 = .ok (.iconst 0, 1) := by decide +kernel
theorem d_Model_anyNow_7 : decode b_Model_anyNow 7 = .ok (.invokevirtual 259, 3) := by decide +kernel
theorem d_Model_anyNow_10 : decode b_Model_anyNow 10 = .ok (.ireturn, 1) := by decide +kernel
def X_Model_anyNow (n : Nat) (M : Mem) : Option (Int32 × Mem) :=
  bd (X_Model_begins n 0 M) fun _ M2 =>
  bd (X_Model_anyIn n 0 M2) fun r3 M4 =>
  some (r3, M4)
set_option maxRecDepth 20000 in
set_option maxHeartbeats 4000000 in
theorem C_Model_anyNow (n : Nat)    (M : Mem) : Ct y_Model_anyNow mt_Model_anyNow wI [Value.ref 0] M (X_Model_anyNow n M) := by
  refine ct_of (by decide +kernel) rfl (Nat.le_of_ble_eq_true rfl) ?_
  show J _ _ _ [(0, Value.ref 0)] _ _ _
  unfold X_Model_anyNow
  refine j_aload_n (pc := 0) (q := 0) d_Model_anyNow_0 rfl rfl ?_
  refine j_iconst (pc := 1) d_Model_anyNow_1 k_i_0 ?_
  refine j_callV1 (pc := 2) d_Model_anyNow_2 (C_Model_begins n 0 M) cV_Model_256 cd_Model_begins dn_Model_begins rfl (by decide) (Nat.le_of_ble_eq_true rfl) (Nat.le_of_ble_eq_true rfl) nr_U sm_0 (by decide) rfl (fun r1 M2 => ?_)
  refine j_aload_n (pc := 5) (q := 0) d_Model_anyNow_5 rfl rfl ?_
  refine j_iconst (pc := 6) d_Model_anyNow_6 k_i_0 ?_
  refine j_callV1 (pc := 7) d_Model_anyNow_7 (C_Model_anyIn n 0 M2) cV_Model_259 cd_Model_anyIn dn_Model_anyIn rfl (by decide) (Nat.le_of_ble_eq_true rfl) (Nat.le_of_ble_eq_true rfl) nr_I sm_0 (by decide) rfl (fun r3 M4 => ?_)
  exact j_ireturn (pc := 10) d_Model_anyNow_10 rfl
-- Model.feasts (II)V
def mt_Model_feasts : Mt := ("ShakeHandsModel", b_Model_feasts, 4, none, 6, SHm)
theorem d_Model_feasts_0 : decode b_Model_feasts 0 = .ok (.aload_n 0, 1) := by decide +kernel
theorem d_Model_feasts_1 : decode b_Model_feasts 1 = .ok (.iconst 0, 1) := by decide +kernel
theorem d_Model_feasts_2 : decode b_Model_feasts 2 = .ok (.invokevirtual 256, 3) := by decide +kernel
theorem d_Model_feasts_5 : decode b_Model_feasts 5 = .ok (.iconst 0, 1) := by decide +kernel
theorem d_Model_feasts_6 : decode b_Model_feasts 6 = .ok (.istore_n 3, 1) := by decide +kernel
theorem d_Model_feasts_7 : decode b_Model_feasts 7 = .ok (.iload_n 3, 1) := by decide +kernel
theorem d_Model_feasts_8 : decode b_Model_feasts 8 = .ok (.iload_n 1, 1) := by decide +kernel
theorem d_Model_feasts_9 : decode b_Model_feasts 9 = .ok (.if_icmp .ge 21, 3) := by decide +kernel
theorem d_Model_feasts_12 : decode b_Model_feasts 12 = .ok (.aload_n 0, 1) := by decide +kernel
theorem d_Model_feasts_13 : decode b_Model_feasts 13 = .ok (.iconst 0, 1) := by decide +kernel
theorem d_Model_feasts_14 : decode b_Model_feasts 14 = .ok (.aload_n 0, 1) := by decide +kernel
theorem d_Model_feasts_15 : decode b_Model_feasts 15 = .ok (.getfield 20, 3) := by decide +kernel
theorem d_Model_feasts_18 : decode b_Model_feasts 18 = .ok (.iload_n 3, 1) := by decide +kernel
theorem d_Model_feasts_19 : decode b_Model_feasts 19 = .ok (.iaload, 1) := by decide +kernel
theorem d_Model_feasts_20 : decode b_Model_feasts 20 = .ok (.iload_n 2, 1) := by decide +kernel
theorem d_Model_feasts_21 : decode b_Model_feasts 21 = .ok (.invokevirtual 282, 3) := by decide +kernel
theorem d_Model_feasts_24 : decode b_Model_feasts 24 = .ok (.iinc 3 1, 3) := by decide +kernel
theorem d_Model_feasts_27 : decode b_Model_feasts 27 = .ok (.goto (-20), 3) := by decide +kernel
theorem d_Model_feasts_30 : decode b_Model_feasts 30 = .ok (.return_, 1) := by decide +kernel
def X_Model_feasts_L7 (n : Nat) (a1 : Int32) (a2 : Int32) : Nat → Int32 → Mem → Option (Unit × Mem)
    | 0, _, _ => none
    | m + 1, v3, M => (if a1 ≤ v3 then
    some ((), M)
    else
    gd v3 16 (
      bd (X_Model_shakes n 0 (M.1 4 v3.toNatClampNeg) a2 M) fun _ M4 =>
      X_Model_feasts_L7 n a1 a2 m (v3 + 1) M4))
def X_Model_feasts (n : Nat) (p1 : Int32) (p2 : Int32) (M : Mem) : Option (Unit × Mem) :=
  bd (X_Model_begins n 0 M) fun _ M2 =>
  X_Model_feasts_L7 n p1 p2 n 0 M2
set_option maxRecDepth 20000 in
set_option maxHeartbeats 4000000 in
theorem X_Model_feasts_L7_ok {n : Nat} {a1 : Int32} {a2 : Int32} : ∀ (m : Nat) (v3 : Int32) (M : Mem), J (mt_Model_feasts) wU 7 [(0, Value.ref 0), (1, Value.int a1), (2, Value.int a2), (3, Value.int v3)] [] M (X_Model_feasts_L7 n a1 a2 m v3 M) := by
  intro m
  induction m with
  | zero => intro _ _; exact j_none
  | succ m ih =>
    intro v3 M
    show J _ _ _ _ _ _ ((if a1 ≤ v3 then
some ((), M)
else
gd v3 16 (
bd (X_Model_shakes n 0 (M.1 4 v3.toNatClampNeg) a2 M) fun _ M4 =>
X_Model_feasts_L7 n a1 a2 m (v3 + 1) M4)))
    refine j_iload_n (pc := 7) (q := 3) d_Model_feasts_7 rfl rfl ?_
    refine j_iload_n (pc := 8) (q := 1) d_Model_feasts_8 rfl rfl ?_
    refine j_icmp_ge (pc := 9) (tgt := 30) d_Model_feasts_9 (by decide) (fun _ => ?_) (fun _ => ?_)
    · exact j_return (pc := 30) d_Model_feasts_30 rfl
    · refine j_aload_n (pc := 12) (q := 0) d_Model_feasts_12 rfl rfl ?_
      refine j_iconst (pc := 13) d_Model_feasts_13 k_i_0 ?_
      refine j_aload_n (pc := 14) (q := 0) d_Model_feasts_14 rfl rfl ?_
      refine j_getA (pc := 15) d_Model_feasts_15 fl_Model_20 sm_0 (by decide) rfl ?_
      refine j_iload_n (pc := 18) (q := 3) d_Model_feasts_18 rfl rfl ?_
      refine j_iald (pc := 19) d_Model_feasts_19 sm_4 (fun _ => ?_)
      refine j_iload_n (pc := 20) (q := 2) d_Model_feasts_20 rfl rfl ?_
      refine j_callV3 (pc := 21) d_Model_feasts_21 (C_Model_shakes n 0 (M.1 4 v3.toNatClampNeg) a2 M) cV_Model_282 cd_Model_shakes dn_Model_shakes rfl (by decide) (Nat.le_of_ble_eq_true rfl) (Nat.le_of_ble_eq_true rfl) nr_U sm_0 (by decide) rfl (fun r3 M4 => ?_)
      refine j_iinc (pc := 24) (q := 3) d_Model_feasts_24 rfl (congrArg (v3 + ·) k_i_1) (by decide) rfl ?_
      refine j_goto (pc := 27) (tgt := 7) d_Model_feasts_27 (by decide) ?_
      refine j_lv [1, 2, 3, 0] rfl ?_
      exact ih (v3 + 1) M4
set_option maxRecDepth 20000 in
set_option maxHeartbeats 4000000 in
theorem C_Model_feasts (n : Nat)   (p1 : Int32) (p2 : Int32) (M : Mem) : Ct y_Model_feasts mt_Model_feasts wU [Value.ref 0, Value.int p1, Value.int p2] M (X_Model_feasts n p1 p2 M) := by
  refine ct_of (by decide +kernel) rfl (Nat.le_of_ble_eq_true rfl) ?_
  show J _ _ _ [(0, Value.ref 0), (1, Value.int p1), (2, Value.int p2)] _ _ _
  unfold X_Model_feasts
  refine j_aload_n (pc := 0) (q := 0) d_Model_feasts_0 rfl rfl ?_
  refine j_iconst (pc := 1) d_Model_feasts_1 k_i_0 ?_
  refine j_callV1 (pc := 2) d_Model_feasts_2 (C_Model_begins n 0 M) cV_Model_256 cd_Model_begins dn_Model_begins rfl (by decide) (Nat.le_of_ble_eq_true rfl) (Nat.le_of_ble_eq_true rfl) nr_U sm_0 (by decide) rfl (fun r1 M2 => ?_)
  refine j_iconst (pc := 5) d_Model_feasts_5 k_i_0 ?_
  refine j_istore_n (pc := 6) d_Model_feasts_6 rfl (by decide) rfl ?_
  refine j_lv [1, 2, 3, 0] rfl ?_
  exact X_Model_feasts_L7_ok   n 0 M2
-- Model.feast (I)I
def mt_Model_feast : Mt := ("ShakeHandsModel", b_Model_feast, 3, some .int, 7, SHm)
theorem d_Model_feast_0 : decode b_Model_feast 0 = .ok (.iload_n 1, 1) := by decide +kernel
theorem d_Model_feast_1 : decode b_Model_feast 1 = .ok (.i2l, 1) := by decide +kernel
theorem d_Model_feast_2 : decode b_Model_feast 2 = .ok (.lconst 0, 1) := by decide +kernel
theorem d_Model_feast_3 : decode b_Model_feast 3 = .ok (.aload_n 0, 1) := by decide +kernel
theorem d_Model_feast_4 : decode b_Model_feast 4 = .ok (.getfield 128, 3) := by decide +kernel
theorem d_Model_feast_7 : decode b_Model_feast 7 = .ok (.i2l, 1) := by decide +kernel
theorem d_Model_feast_8 : decode b_Model_feast 8 = .ok (.invokestatic 143, 3) := by decide +kernel
theorem d_Model_feast_11 : decode b_Model_feast 11 = .ok (.ifCond .ne 5, 3) := by decide +kernel
theorem d_Model_feast_14 : decode b_Model_feast 14 = .ok (.iconst (-1), 1) := by decide +kernel
theorem d_Model_feast_15 : decode b_Model_feast 15 = .ok (.ireturn, 1) := by decide +kernel
theorem d_Model_feast_16 : decode b_Model_feast 16 = .ok (.aload_n 0, 1) := by decide +kernel
theorem d_Model_feast_17 : decode b_Model_feast 17 = .ok (.invokevirtual 295, 3) := by decide +kernel
theorem d_Model_feast_20 : decode b_Model_feast 20 = .ok (.istore_n 2, 1) := by decide +kernel
theorem d_Model_feast_21 : decode b_Model_feast 21 = .ok (.aload_n 0, 1) := by decide +kernel
theorem d_Model_feast_22 : decode b_Model_feast 22 = .ok (.iload_n 1, 1) := by decide +kernel
theorem d_Model_feast_23 : decode b_Model_feast 23 = .ok (.aload_n 0, 1) := by decide +kernel
theorem d_Model_feast_24 : decode b_Model_feast 24 = .ok (.invokevirtual 221, 3) := by decide +kernel
theorem d_Model_feast_27 : decode b_Model_feast 27 = .ok (.invokevirtual 298, 3) := by decide +kernel
theorem d_Model_feast_30 : decode b_Model_feast 30 = .ok (.aload_n 0, 1) := by decide +kernel
theorem d_Model_feast_31 : decode b_Model_feast 31 = .ok (.iconst 0, 1) := by decide +kernel
theorem d_Model_feast_32 : decode b_Model_feast 32 = .ok (.invokevirtual 286, 3) := by decide +kernel
theorem d_Model_feast_35 : decode b_Model_feast 35 = .ok (.iload_n 2, 1) := by decide +kernel
theorem d_Model_feast_36 : decode b_Model_feast 36 = .ok (.aload_n 0, 1) := by decide +kernel
theorem d_Model_feast_37 : decode b_Model_feast 37 = .ok (.iconst 0, 1) := by decide +kernel
theorem d_Model_feast_38 : decode b_Model_feast 38 = .ok (.invokevirtual 259, 3) := by decide +kernel
theorem d_Model_feast_41 : decode b_Model_feast 41 = .ok (.iconst (-1), 1) := by decide +kernel
theorem d_Model_feast_42 : decode b_Model_feast 42 = .ok (.ixor, 1) := by decide +kernel
theorem d_Model_feast_43 : decode b_Model_feast 43 = .ok (.iand, 1) := by decide +kernel
theorem d_Model_feast_44 : decode b_Model_feast 44 = .ok (.ireturn, 1) := by decide +kernel
def X_Model_feast (n : Nat) (p1 : Int32) (M : Mem) : Option (Int32 × Mem) :=
  bd (X_Model_in n (p1.toInt64) 0 (((M.1 0 5) : Int32).toInt64) M) fun r1 M2 =>
  (if r1 = 0 then
    some ((-1), M2)
    else
    bd (X_Model_anyNow n M2) fun r3 M4 =>
    bd (X_Model_worn n M4) fun r5 M6 =>
    bd (X_Model_feasts n p1 r5 M6) fun _ M8 =>
    bd (X_Model_becomes n 0 M8) fun _ M10 =>
    bd (X_Model_anyIn n 0 M10) fun r11 M12 =>
    some ((r3 &&& (r11 ^^^ (-1))), M12))
set_option maxRecDepth 20000 in
set_option maxHeartbeats 4000000 in
theorem C_Model_feast (n : Nat)   (p1 : Int32) (M : Mem) : Ct y_Model_feast mt_Model_feast wI [Value.ref 0, Value.int p1] M (X_Model_feast n p1 M) := by
  refine ct_of (by decide +kernel) rfl (Nat.le_of_ble_eq_true rfl) ?_
  show J _ _ _ [(0, Value.ref 0), (1, Value.int p1)] _ _ _
  unfold X_Model_feast
  refine j_iload_n (pc := 0) (q := 1) d_Model_feast_0 rfl rfl ?_
  refine j_i2l (pc := 1) d_Model_feast_1 ?_
  refine j_lconst (pc := 2) d_Model_feast_2 k_l_0 ?_
  refine j_aload_n (pc := 3) (q := 0) d_Model_feast_3 rfl rfl ?_
  refine j_getI (pc := 4) d_Model_feast_4 fl_Model_128 sm_0 (by decide) rfl ?_
  refine j_i2l (pc := 7) d_Model_feast_7 ?_
  refine j_callS3 (pc := 8) d_Model_feast_8 (C_Model_in n (p1.toInt64) 0 (((M.1 0 5) : Int32).toInt64) M) cS_Model_143 cd_Model_in dn_Model_in rfl (by decide) (Nat.le_of_ble_eq_true rfl) (Nat.le_of_ble_eq_true rfl) nr_I (fun r1 M2 => ?_)
  refine j_if_ne (pc := 11) (tgt := 16) d_Model_feast_11 (by decide) (fun _ => ?_) (fun _ => ?_)
  · refine j_aload_n (pc := 16) (q := 0) d_Model_feast_16 rfl rfl ?_
    refine j_callV0 (pc := 17) d_Model_feast_17 (C_Model_anyNow n M2) cV_Model_295 cd_Model_anyNow dn_Model_anyNow rfl (by decide) (Nat.le_of_ble_eq_true rfl) (Nat.le_of_ble_eq_true rfl) nr_I sm_0 (by decide) rfl (fun r3 M4 => ?_)
    refine j_istore_n (pc := 20) d_Model_feast_20 rfl (by decide) rfl ?_
    refine j_aload_n (pc := 21) (q := 1) d_Model_feast_21 rfl rfl ?_
    refine j_iload_n (pc := 22) (q := 2) d_Model_feast_22 rfl rfl ?_
    refine j_aload_n (pc := 23) (q := 1) d_Model_feast_23 rfl rfl ?_
    refine j_callV0 (pc := 24) d_Model_feast_24 (C_Model_worn n M4) cV_Model_221 cd_Model_worn dn_Model_worn rfl (by decide) (Nat.le_of_ble_eq_true rfl) (Nat.le_of_ble_eq_true rfl) nr_I sm_0 (by decide) rfl (fun r5 M6 => ?_)
    refine j_callV2 (pc := 27) d_Model_feast_27 (C_Model_feasts n p1 r5 M6) cV_Model_298 cd_Model_feasts dn_Model_feasts rfl (by decide) (Nat.le_of_ble_eq_true rfl) (Nat.le_of_ble_eq_true rfl) nr_U sm_0 (by decide) rfl (fun r7 M8 => ?_)
    refine j_aload_n (pc := 30) (q := 1) d_Model_feast_30 rfl rfl ?_
    refine j_iconst (pc := 31) d_Model_feast_31 k_i_0 ?_
    refine j_callV1 (pc := 32) d_Model_feast_32 (C_Model_becomes n 0 M8) cV_Model_286 cd_Model_becomes dn_Model_becomes rfl (by decide) (Nat.le_of_ble_eq_true rfl) (Nat.le_of_ble_eq_true rfl) nr_U sm_0 (by decide) rfl (fun r9 M10 => ?_)
    refine j_iload_n (pc := 35) (q := 0) d_Model_feast_35 rfl rfl ?_
    refine j_aload_n (pc := 36) (q := 1) d_Model_feast_36 rfl rfl ?_
    refine j_iconst (pc := 37) d_Model_feast_37 k_i_0 ?_
    refine j_callV1 (pc := 38) d_Model_feast_38 (C_Model_anyIn n 0 M10) cV_Model_259 cd_Model_anyIn dn_Model_anyIn rfl (by decide) (Nat.le_of_ble_eq_true rfl) (Nat.le_of_ble_eq_true rfl) nr_I sm_0 (by decide) rfl (fun r11 M12 => ?_)
    refine j_iconst (pc := 41) d_Model_feast_41 k_i_m1 ?_
    refine j_ixor (pc := 42) d_Model_feast_42 ?_
    refine j_iand (pc := 43) d_Model_feast_43 ?_
    exact j_ireturn (pc := 44) d_Model_feast_44 rfl
  · refine j_iconst (pc := 14) d_Model_feast_14 k_i_m1 ?_
    exact j_ireturn (pc := 15) d_Model_feast_15 rfl
-- Model.after (II)I
def mt_Model_after : Mt := ("ShakeHandsModel", b_Model_after, 3, some .int, 7, SHm)
theorem d_Model_after_0 : decode b_Model_after 0 = .ok (.iload_n 1, 1) := by decide +kernel
theorem d_Model_after_1 : decode b_Model_after 1 = .ok (.i2l, 1) := by decide +kernel
theorem d_Model_after_2 : decode b_Model_after 2 = .ok (.lconst 0, 1) := by decide +kernel
theorem d_Model_after_3 : decode b_Model_after 3 = .ok (.aload_n 0, 1) := by decide +kernel
theorem d_Model_after_4 : decode b_Model_after 4 = .ok (.getfield 128, 3) := by decide +kernel
theorem d_Model_after_7 : decode b_Model_after 7 = .ok (.i2l, 1) := by decide +kernel
theorem d_Model_after_8 : decode b_Model_after 8 = .ok (.invokestatic 143, 3) := by decide +kernel
theorem d_Model_after_11 : decode b_Model_after 11 = .ok (.ifCond .eq 11, 3) := by decide +kernel
theorem d_Model_after_14 : decode b_Model_after 14 = .ok (.aload_n 0, 1) := by decide +kernel
theorem d_Model_after_15 : decode b_Model_after 15 = .ok (.iload_n 2, 1) := by decide +kernel
theorem d_Model_after_16 : decode b_Model_after 16 = .ok (.invokevirtual 268, 3) := by decide +kernel
theorem d_Model_after_19 : decode b_Model_after 19 = .ok (.ifCond .ne 5, 3) := by decide +kernel
theorem d_Model_after_22 : decode b_Model_after 22 = .ok (.iconst (-1), 1) := by decide +kernel
theorem d_Model_after_23 : decode b_Model_after 23 = .ok (.ireturn, 1) := by decide +kernel
theorem d_Model_after_24 : decode b_Model_after 24 = .ok (.aload_n 0, 1) := by decide +kernel
theorem d_Model_after_25 : decode b_Model_after 25 = .ok (.iload_n 1, 1) := by decide +kernel
theorem d_Model_after_26 : decode b_Model_after 26 = .ok (.aload_n 0, 1) := by decide +kernel
theorem d_Model_after_27 : decode b_Model_after 27 = .ok (.invokevirtual 221, 3) := by decide +kernel
theorem d_Model_after_30 : decode b_Model_after 30 = .ok (.invokevirtual 298, 3) := by decide +kernel
theorem d_Model_after_33 : decode b_Model_after 33 = .ok (.aload_n 0, 1) := by decide +kernel
theorem d_Model_after_34 : decode b_Model_after 34 = .ok (.iconst 0, 1) := by decide +kernel
theorem d_Model_after_35 : decode b_Model_after 35 = .ok (.iload_n 2, 1) := by decide +kernel
theorem d_Model_after_36 : decode b_Model_after 36 = .ok (.invokevirtual 251, 3) := by decide +kernel
theorem d_Model_after_39 : decode b_Model_after 39 = .ok (.ireturn, 1) := by decide +kernel
def X_Model_after (n : Nat) (p1 : Int32) (p2 : Int32) (M : Mem) : Option (Int32 × Mem) :=
  bd (X_Model_in n (p1.toInt64) 0 (((M.1 0 5) : Int32).toInt64) M) fun r1 M2 =>
  (if r1 = 0 then
    some ((-1), M2)
    else
    bd (X_Model_isOne n p2 M2) fun r3 M4 =>
    (if r3 = 0 then
      some ((-1), M4)
      else
      bd (X_Model_worn n M4) fun r5 M6 =>
      bd (X_Model_feasts n p1 r5 M6) fun _ M8 =>
      bd (X_Model_knowsIn n 0 p2 M8) fun r9 M10 =>
      some (r9, M10)))
set_option maxRecDepth 20000 in
set_option maxHeartbeats 4000000 in
theorem C_Model_after (n : Nat)   (p1 : Int32) (p2 : Int32) (M : Mem) : Ct y_Model_after mt_Model_after wI [Value.ref 0, Value.int p1, Value.int p2] M (X_Model_after n p1 p2 M) := by
  refine ct_of (by decide +kernel) rfl (Nat.le_of_ble_eq_true rfl) ?_
  show J _ _ _ [(0, Value.ref 0), (1, Value.int p1), (2, Value.int p2)] _ _ _
  unfold X_Model_after
  refine j_iload_n (pc := 0) (q := 1) d_Model_after_0 rfl rfl ?_
  refine j_i2l (pc := 1) d_Model_after_1 ?_
  refine j_lconst (pc := 2) d_Model_after_2 k_l_0 ?_
  refine j_aload_n (pc := 3) (q := 0) d_Model_after_3 rfl rfl ?_
  refine j_getI (pc := 4) d_Model_after_4 fl_Model_128 sm_0 (by decide) rfl ?_
  refine j_i2l (pc := 7) d_Model_after_7 ?_
  refine j_callS3 (pc := 8) d_Model_after_8 (C_Model_in n (p1.toInt64) 0 (((M.1 0 5) : Int32).toInt64) M) cS_Model_143 cd_Model_in dn_Model_in rfl (by decide) (Nat.le_of_ble_eq_true rfl) (Nat.le_of_ble_eq_true rfl) nr_I (fun r1 M2 => ?_)
  refine j_if_eq (pc := 11) (tgt := 22) d_Model_after_11 (by decide) (fun _ => ?_) (fun _ => ?_)
  · refine j_iconst (pc := 22) d_Model_after_22 k_i_m1 ?_
    exact j_ireturn (pc := 23) d_Model_after_23 rfl
  · refine j_aload_n (pc := 14) (q := 0) d_Model_after_14 rfl rfl ?_
    refine j_iload_n (pc := 15) (q := 2) d_Model_after_15 rfl rfl ?_
    refine j_callV1 (pc := 16) d_Model_after_16 (C_Model_isOne n p2 M2) cV_Model_268 cd_Model_isOne dn_Model_isOne rfl (by decide) (Nat.le_of_ble_eq_true rfl) (Nat.le_of_ble_eq_true rfl) nr_I sm_0 (by decide) rfl (fun r3 M4 => ?_)
    refine j_if_ne (pc := 19) (tgt := 24) d_Model_after_19 (by decide) (fun _ => ?_) (fun _ => ?_)
    · refine j_aload_n (pc := 24) (q := 0) d_Model_after_24 rfl rfl ?_
      refine j_iload_n (pc := 25) (q := 1) d_Model_after_25 rfl rfl ?_
      refine j_aload_n (pc := 26) (q := 0) d_Model_after_26 rfl rfl ?_
      refine j_callV0 (pc := 27) d_Model_after_27 (C_Model_worn n M4) cV_Model_221 cd_Model_worn dn_Model_worn rfl (by decide) (Nat.le_of_ble_eq_true rfl) (Nat.le_of_ble_eq_true rfl) nr_I sm_0 (by decide) rfl (fun r5 M6 => ?_)
      refine j_callV2 (pc := 30) d_Model_after_30 (C_Model_feasts n p1 r5 M6) cV_Model_298 cd_Model_feasts dn_Model_feasts rfl (by decide) (Nat.le_of_ble_eq_true rfl) (Nat.le_of_ble_eq_true rfl) nr_U sm_0 (by decide) rfl (fun r7 M8 => ?_)
      refine j_aload_n (pc := 33) (q := 0) d_Model_after_33 rfl rfl ?_
      refine j_iconst (pc := 34) d_Model_after_34 k_i_0 ?_
      refine j_iload_n (pc := 35) (q := 2) d_Model_after_35 rfl rfl ?_
      refine j_callV2 (pc := 36) d_Model_after_36 (C_Model_knowsIn n 0 p2 M8) cV_Model_251 cd_Model_knowsIn dn_Model_knowsIn rfl (by decide) (Nat.le_of_ble_eq_true rfl) (Nat.le_of_ble_eq_true rfl) nr_I sm_0 (by decide) rfl (fun r9 M10 => ?_)
      exact j_ireturn (pc := 39) d_Model_after_39 rfl
    · refine j_iconst (pc := 22) d_Model_after_22 k_i_m1 ?_
      exact j_ireturn (pc := 23) d_Model_after_23 rfl
-- Model.lost (I)I
def mt_Model_lost : Mt := ("ShakeHandsModel", b_Model_lost, 3, some .int, 6, SHm)
theorem d_Model_lost_0 : decode b_Model_lost 0 = .ok (.iload_n 1, 1) := by decide +kernel
theorem d_Model_lost_1 : decode b_Model_lost 1 = .ok (.invokestatic 272, 3) := by decide +kernel
theorem d_Model_lost_4 : decode b_Model_lost 4 = .ok (.ifCond .ne 5, 3) := by decide +kernel
theorem d_Model_lost_7 : decode b_Model_lost 7 = .ok (.iconst (-1), 1) := by decide +kernel
theorem d_Model_lost_8 : decode b_Model_lost 8 = .ok (.ireturn, 1) := by decide +kernel
theorem d_Model_lost_9 : decode b_Model_lost 9 = .ok (.aload_n 0, 1) := by decide +kernel
theorem d_Model_lost_10 : decode b_Model_lost 10 = .ok (.iload_n 1, 1) := by decide +kernel
theorem d_Model_lost_11 : decode b_Model_lost 11 = .ok (.invokevirtual 275, 3) := by decide +kernel
theorem d_Model_lost_14 : decode b_Model_lost 14 = .ok (.ifCond .ne 6, 3) := by decide +kernel
theorem d_Model_lost_17 : decode b_Model_lost 17 = .ok (.bipush (-2), 2) := by decide +kernel
theorem d_Model_lost_19 : decode b_Model_lost 19 = .ok (.ireturn, 1) := by decide +kernel
theorem d_Model_lost_20 : decode b_Model_lost 20 = .ok (.iconst 0, 1) := by decide +kernel
theorem d_Model_lost_21 : decode b_Model_lost 21 = .ok (.istore_n 2, 1) := by decide +kernel
theorem d_Model_lost_22 : decode b_Model_lost 22 = .ok (.iload_n 2, 1) := by decide +kernel
theorem d_Model_lost_23 : decode b_Model_lost 23 = .ok (.aload_n 0, 1) := by decide +kernel
theorem d_Model_lost_24 : decode b_Model_lost 24 = .ok (.getfield 128, 3) := by decide +kernel
theorem d_Model_lost_27 : decode b_Model_lost 27 = .ok (.if_icmp .ge 35, 3) := by decide +kernel
theorem d_Model_lost_30 : decode b_Model_lost 30 = .ok (.aload_n 0, 1) := by decide +kernel
theorem d_Model_lost_31 : decode b_Model_lost 31 = .ok (.iconst 0, 1) := by decide +kernel
theorem d_Model_lost_32 : decode b_Model_lost 32 = .ok (.aload_n 0, 1) := by decide +kernel
theorem d_Model_lost_33 : decode b_Model_lost 33 = .ok (.getfield 20, 3) := by decide +kernel
theorem d_Model_lost_36 : decode b_Model_lost 36 = .ok (.iload_n 2, 1) := by decide +kernel
theorem d_Model_lost_37 : decode b_Model_lost 37 = .ok (.iaload, 1) := by decide +kernel
theorem d_Model_lost_38 : decode b_Model_lost 38 = .ok (.aload_n 0, 1) := by decide +kernel
theorem d_Model_lost_39 : decode b_Model_lost 39 = .ok (.invokevirtual 221, 3) := by decide +kernel
theorem d_Model_lost_42 : decode b_Model_lost 42 = .ok (.invokevirtual 282, 3) := by decide +kernel
theorem d_Model_lost_45 : decode b_Model_lost 45 = .ok (.aload_n 0, 1) := by decide +kernel
theorem d_Model_lost_46 : decode b_Model_lost 46 = .ok (.iconst 0, 1) := by decide +kernel
theorem d_Model_lost_47 : decode b_Model_lost 47 = .ok (.iload_n 1, 1) := by decide +kernel
theorem d_Model_lost_48 : decode b_Model_lost 48 = .ok (.invokevirtual 262, 3) := by decide +kernel
theorem d_Model_lost_51 : decode b_Model_lost 51 = .ok (.ifCond .ne 5, 3) := by decide +kernel
theorem d_Model_lost_54 : decode b_Model_lost 54 = .ok (.iload_n 2, 1) := by decide +kernel
theorem d_Model_lost_55 : decode b_Model_lost 55 = .ok (.ireturn, 1) := by decide +kernel
theorem d_Model_lost_56 : decode b_Model_lost 56 = .ok (.iinc 2 1, 3) := by decide +kernel
theorem d_Model_lost_59 : decode b_Model_lost 59 = .ok (.goto (-37), 3) := by decide +kernel
theorem d_Model_lost_62 : decode b_Model_lost 62 = .ok (.bipush (-4), 2) := by decide +kernel
theorem d_Model_lost_64 : decode b_Model_lost 64 = .ok (.ireturn, 1) := by decide +kernel
def X_Model_lost_L22 (n : Nat) (a1 : Int32) : Nat → Int32 → Mem → Option (Int32 × Mem)
    | 0, _, _ => none
    | m + 1, v2, M => (if (M.1 0 5) ≤ v2 then
    some ((-4), M)
    else
    gd v2 16 (
      bd (X_Model_worn n M) fun r5 M6 =>
      bd (X_Model_shakes n 0 (M.1 4 v2.toNatClampNeg) r5 M6) fun _ M8 =>
      bd (X_Model_whoIn n 0 a1 M8) fun r9 M10 =>
      (if r9 = 0 then
        some (v2, M10)
        else
        X_Model_lost_L22 n a1 m (v2 + 1) M10)))
def X_Model_lost (n : Nat) (p1 : Int32) (M : Mem) : Option (Int32 × Mem) :=
  bd (X_Model_isThing n p1 M) fun r1 M2 =>
  (if r1 = 0 then
    some ((-1), M2)
    else
    bd (X_Model_whoNow n p1 M2) fun r3 M4 =>
    (if r3 = 0 then
      some ((-2), M4)
      else
      X_Model_lost_L22 n p1 n 0 M4))
set_option maxRecDepth 20000 in
set_option maxHeartbeats 4000000 in
theorem X_Model_lost_L22_ok {n : Nat} {a1 : Int32} : ∀ (m : Nat) (v2 : Int32) (M : Mem), J (mt_Model_lost) wI 22 [(0, Value.ref 0), (1, Value.int a1), (2, Value.int v2)] [] M (X_Model_lost_L22 n a1 m v2 M) := by
  intro m
  induction m with
  | zero => intro _ _; exact j_none
  | succ m ih =>
    intro v2 M
    show J _ _ _ _ _ _ ((if (M.1 0 5) ≤ v2 then
some ((-4), M)
else
gd v2 16 (
bd (X_Model_worn n M) fun r5 M6 =>
bd (X_Model_shakes n 0 (M.1 4 v2.toNatClampNeg) r5 M6) fun _ M8 =>
bd (X_Model_whoIn n 0 a1 M8) fun r9 M10 =>
(if r9 = 0 then
some (v2, M10)
else
X_Model_lost_L22 n a1 m (v2 + 1) M10))))
    refine j_iload_n (pc := 22) (q := 2) d_Model_lost_22 rfl rfl ?_
    refine j_aload_n (pc := 23) (q := 0) d_Model_lost_23 rfl rfl ?_
    refine j_getI (pc := 24) d_Model_lost_24 fl_Model_128 sm_0 (by decide) rfl ?_
    refine j_icmp_ge (pc := 27) (tgt := 62) d_Model_lost_27 (by decide) (fun _ => ?_) (fun _ => ?_)
    · refine j_bipush (pc := 62) d_Model_lost_62 k_b_m4 ?_
      exact j_ireturn (pc := 64) d_Model_lost_64 rfl
    · refine j_aload_n (pc := 30) (q := 0) d_Model_lost_30 rfl rfl ?_
      refine j_iconst (pc := 31) d_Model_lost_31 k_i_0 ?_
      refine j_aload_n (pc := 32) (q := 0) d_Model_lost_32 rfl rfl ?_
      refine j_getA (pc := 33) d_Model_lost_33 fl_Model_20 sm_0 (by decide) rfl ?_
      refine j_iload_n (pc := 36) (q := 2) d_Model_lost_36 rfl rfl ?_
      refine j_iald (pc := 37) d_Model_lost_37 sm_4 (fun _ => ?_)
      refine j_aload_n (pc := 38) (q := 0) d_Model_lost_38 rfl rfl ?_
      refine j_callV0 (pc := 39) d_Model_lost_39 (C_Model_worn n M) cV_Model_221 cd_Model_worn dn_Model_worn rfl (by decide) (Nat.le_of_ble_eq_true rfl) (Nat.le_of_ble_eq_true rfl) nr_I sm_0 (by decide) rfl (fun r5 M6 => ?_)
      refine j_callV3 (pc := 42) d_Model_lost_42 (C_Model_shakes n 0 (M.1 4 v2.toNatClampNeg) r5 M6) cV_Model_282 cd_Model_shakes dn_Model_shakes rfl (by decide) (Nat.le_of_ble_eq_true rfl) (Nat.le_of_ble_eq_true rfl) nr_U sm_0 (by decide) rfl (fun r7 M8 => ?_)
      refine j_aload_n (pc := 45) (q := 0) d_Model_lost_45 rfl rfl ?_
      refine j_iconst (pc := 46) d_Model_lost_46 k_i_0 ?_
      refine j_iload_n (pc := 47) (q := 1) d_Model_lost_47 rfl rfl ?_
      refine j_callV2 (pc := 48) d_Model_lost_48 (C_Model_whoIn n 0 a1 M8) cV_Model_262 cd_Model_whoIn dn_Model_whoIn rfl (by decide) (Nat.le_of_ble_eq_true rfl) (Nat.le_of_ble_eq_true rfl) nr_I sm_0 (by decide) rfl (fun r9 M10 => ?_)
      refine j_if_ne (pc := 51) (tgt := 56) d_Model_lost_51 (by decide) (fun _ => ?_) (fun _ => ?_)
      · refine j_iinc (pc := 56) (q := 2) d_Model_lost_56 rfl (congrArg (v2 + ·) k_i_1) (by decide) rfl ?_
        refine j_goto (pc := 59) (tgt := 22) d_Model_lost_59 (by decide) ?_
        refine j_lv [1, 2, 0] rfl ?_
        exact ih (v2 + 1) M10
      · refine j_iload_n (pc := 54) (q := 2) d_Model_lost_54 rfl rfl ?_
        exact j_ireturn (pc := 55) d_Model_lost_55 rfl
set_option maxRecDepth 20000 in
set_option maxHeartbeats 4000000 in
theorem C_Model_lost (n : Nat)   (p1 : Int32) (M : Mem) : Ct y_Model_lost mt_Model_lost wI [Value.ref 0, Value.int p1] M (X_Model_lost n p1 M) := by
  refine ct_of (by decide +kernel) rfl (Nat.le_of_ble_eq_true rfl) ?_
  show J _ _ _ [(0, Value.ref 0), (1, Value.int p1)] _ _ _
  unfold X_Model_lost
  refine j_iload_n (pc := 0) (q := 1) d_Model_lost_0 rfl rfl ?_
  refine j_callS1 (pc := 1) d_Model_lost_1 (C_Model_isThing n p1 M) cS_Model_272 cd_Model_isThing dn_Model_isThing rfl (by decide) (Nat.le_of_ble_eq_true rfl) (Nat.le_of_ble_eq_true rfl) nr_I (fun r1 M2 => ?_)
  refine j_if_ne (pc := 4) (tgt := 9) d_Model_lost_4 (by decide) (fun _ => ?_) (fun _ => ?_)
  · refine j_aload_n (pc := 9) (q := 0) d_Model_lost_9 rfl rfl ?_
    refine j_iload_n (pc := 10) (q := 1) d_Model_lost_10 rfl rfl ?_
    refine j_callV1 (pc := 11) d_Model_lost_11 (C_Model_whoNow n p1 M2) cV_Model_275 cd_Model_whoNow dn_Model_whoNow rfl (by decide) (Nat.le_of_ble_eq_true rfl) (Nat.le_of_ble_eq_true rfl) nr_I sm_0 (by decide) rfl (fun r3 M4 => ?_)
    refine j_if_ne (pc := 14) (tgt := 20) d_Model_lost_14 (by decide) (fun _ => ?_) (fun _ => ?_)
    · refine j_iconst (pc := 20) d_Model_lost_20 k_i_0 ?_
      refine j_istore_n (pc := 21) d_Model_lost_21 rfl (by decide) rfl ?_
      refine j_lv [1, 2, 0] rfl ?_
      exact X_Model_lost_L22_ok   n 0 M4
    · refine j_bipush (pc := 17) d_Model_lost_17 k_b_m2 ?_
      exact j_ireturn (pc := 19) d_Model_lost_19 rfl
  · refine j_iconst (pc := 7) d_Model_lost_7 k_i_m1 ?_
    exact j_ireturn (pc := 8) d_Model_lost_8 rfl
-- Model.told (II)I
def mt_Model_told : Mt := ("ShakeHandsModel", b_Model_told, 4, some .int, 6, SHm)
theorem d_Model_told_0 : decode b_Model_told 0 = .ok (.aload_n 0, 1) := by decide +kernel
theorem d_Model_told_1 : decode b_Model_told 1 = .ok (.iload_n 1, 1) := by decide +kernel
theorem d_Model_told_2 : decode b_Model_told 2 = .ok (.invokevirtual 268, 3) := by decide +kernel
theorem d_Model_told_5 : decode b_Model_told 5 = .ok (.ifCond .eq 10, 3) := by decide +kernel
theorem d_Model_told_8 : decode b_Model_told 8 = .ok (.iload_n 2, 1) := by decide +kernel
theorem d_Model_told_9 : decode b_Model_told 9 = .ok (.invokestatic 272, 3) := by decide +kernel
theorem d_Model_told_12 : decode b_Model_told 12 = .ok (.ifCond .ne 5, 3) := by decide +kernel
theorem d_Model_told_15 : decode b_Model_told 15 = .ok (.iconst (-1), 1) := by decide +kernel
theorem d_Model_told_16 : decode b_Model_told 16 = .ok (.ireturn, 1) := by decide +kernel
theorem d_Model_told_17 : decode b_Model_told 17 = .ok (.aload_n 0, 1) := by decide +kernel
theorem d_Model_told_18 : decode b_Model_told 18 = .ok (.iload_n 1, 1) := by decide +kernel
theorem d_Model_told_19 : decode b_Model_told 19 = .ok (.iload_n 2, 1) := by decide +kernel
theorem d_Model_told_20 : decode b_Model_told 20 = .ok (.invokevirtual 278, 3) := by decide +kernel
theorem d_Model_told_23 : decode b_Model_told 23 = .ok (.ifCond .eq 6, 3) := by decide +kernel
theorem d_Model_told_26 : decode b_Model_told 26 = .ok (.bipush (-2), 2) := by decide +kernel
theorem d_Model_told_28 : decode b_Model_told 28 = .ok (.ireturn, 1) := by decide +kernel
theorem d_Model_told_29 : decode b_Model_told 29 = .ok (.iconst 0, 1) := by decide +kernel
theorem d_Model_told_30 : decode b_Model_told 30 = .ok (.istore_n 3, 1) := by decide +kernel
theorem d_Model_told_31 : decode b_Model_told 31 = .ok (.iload_n 3, 1) := by decide +kernel
theorem d_Model_told_32 : decode b_Model_told 32 = .ok (.aload_n 0, 1) := by decide +kernel
theorem d_Model_told_33 : decode b_Model_told 33 = .ok (.getfield 128, 3) := by decide +kernel
theorem d_Model_told_36 : decode b_Model_told 36 = .ok (.if_icmp .ge 40, 3) := by decide +kernel
theorem d_Model_told_39 : decode b_Model_told 39 = .ok (.aload_n 0, 1) := by decide +kernel
theorem d_Model_told_40 : decode b_Model_told 40 = .ok (.iconst 0, 1) := by decide +kernel
theorem d_Model_told_41 : decode b_Model_told 41 = .ok (.aload_n 0, 1) := by decide +kernel
theorem d_Model_told_42 : decode b_Model_told 42 = .ok (.getfield 20, 3) := by decide +kernel
theorem d_Model_told_45 : decode b_Model_told 45 = .ok (.iload_n 3, 1) := by decide +kernel
theorem d_Model_told_46 : decode b_Model_told 46 = .ok (.iaload, 1) := by decide +kernel
theorem d_Model_told_47 : decode b_Model_told 47 = .ok (.aload_n 0, 1) := by decide +kernel
theorem d_Model_told_48 : decode b_Model_told 48 = .ok (.invokevirtual 221, 3) := by decide +kernel
theorem d_Model_told_51 : decode b_Model_told 51 = .ok (.invokevirtual 282, 3) := by decide +kernel
theorem d_Model_told_54 : decode b_Model_told 54 = .ok (.aload_n 0, 1) := by decide +kernel
theorem d_Model_told_55 : decode b_Model_told 55 = .ok (.iconst 0, 1) := by decide +kernel
theorem d_Model_told_56 : decode b_Model_told 56 = .ok (.iload_n 1, 1) := by decide +kernel
theorem d_Model_told_57 : decode b_Model_told 57 = .ok (.invokevirtual 251, 3) := by decide +kernel
theorem d_Model_told_60 : decode b_Model_told 60 = .ok (.iload_n 2, 1) := by decide +kernel
theorem d_Model_told_61 : decode b_Model_told 61 = .ok (.ishr, 1) := by decide +kernel
theorem d_Model_told_62 : decode b_Model_told 62 = .ok (.iconst 1, 1) := by decide +kernel
theorem d_Model_told_63 : decode b_Model_told 63 = .ok (.iand, 1) := by decide +kernel
theorem d_Model_told_64 : decode b_Model_told 64 = .ok (.iconst 1, 1) := by decide +kernel
theorem d_Model_told_65 : decode b_Model_told 65 = .ok (.if_icmp .ne 5, 3) := by decide +kernel
theorem d_Model_told_68 : decode b_Model_told 68 = .ok (.iload_n 3, 1) := by decide +kernel
theorem d_Model_told_69 : decode b_Model_told 69 = .ok (.ireturn, 1) := by decide +kernel
theorem d_Model_told_70 : decode b_Model_told 70 = .ok (.iinc 3 1, 3) := by decide +kernel
theorem d_Model_told_73 : decode b_Model_told 73 = .ok (.goto (-42), 3) := by decide +kernel
theorem d_Model_told_76 : decode b_Model_told 76 = .ok (.bipush (-4), 2) := by decide +kernel
theorem d_Model_told_78 : decode b_Model_told 78 = .ok (.ireturn, 1) := by decide +kernel
def X_Model_told_L31 (n : Nat) (a1 : Int32) (a2 : Int32) : Nat → Int32 → Mem → Option (Int32 × Mem)
    | 0, _, _ => none
    | m + 1, v3, M => (if (M.1 0 5) ≤ v3 then
    some ((-4), M)
    else
    gd v3 16 (
      bd (X_Model_worn n M) fun r7 M8 =>
      bd (X_Model_shakes n 0 (M.1 4 v3.toNatClampNeg) r7 M8) fun _ M10 =>
      bd (X_Model_knowsIn n 0 a1 M10) fun r11 M12 =>
      (if ((r11 >>> (a2 &&& 31)) &&& 1) = 1 then
        some (v3, M12)
        else
        X_Model_told_L31 n a1 a2 m (v3 + 1) M12)))
def X_Model_told (n : Nat) (p1 : Int32) (p2 : Int32) (M : Mem) : Option (Int32 × Mem) :=
  bd (X_Model_isOne n p1 M) fun r1 M2 =>
  (if r1 = 0 then
    some ((-1), M2)
    else
    bd (X_Model_isThing n p2 M2) fun r3 M4 =>
    (if r3 = 0 then
      some ((-1), M4)
      else
      bd (X_Model_knowsIt n p1 p2 M4) fun r5 M6 =>
      (if r5 = 0 then
        X_Model_told_L31 n p1 p2 n 0 M6
        else
        some ((-2), M6))))
set_option maxRecDepth 20000 in
set_option maxHeartbeats 4000000 in
theorem X_Model_told_L31_ok {n : Nat} {a1 : Int32} {a2 : Int32} : ∀ (m : Nat) (v3 : Int32) (M : Mem), J (mt_Model_told) wI 31 [(0, Value.ref 0), (1, Value.int a1), (2, Value.int a2), (3, Value.int v3)] [] M (X_Model_told_L31 n a1 a2 m v3 M) := by
  intro m
  induction m with
  | zero => intro _ _; exact j_none
  | succ m ih =>
    intro v3 M
    show J _ _ _ _ _ _ ((if (M.1 0 5) ≤ v3 then
some ((-4), M)
else
gd v3 16 (
bd (X_Model_worn n M) fun r7 M8 =>
bd (X_Model_shakes n 0 (M.1 4 v3.toNatClampNeg) r7 M8) fun _ M10 =>
bd (X_Model_knowsIn n 0 a1 M10) fun r11 M12 =>
(if ((r11 >>> (a2 &&& 31)) &&& 1) = 1 then
some (v3, M12)
else
X_Model_told_L31 n a1 a2 m (v3 + 1) M12))))
    refine j_iload_n (pc := 31) (q := 3) d_Model_told_31 rfl rfl ?_
    refine j_aload_n (pc := 32) (q := 0) d_Model_told_32 rfl rfl ?_
    refine j_getI (pc := 33) d_Model_told_33 fl_Model_128 sm_0 (by decide) rfl ?_
    refine j_icmp_ge (pc := 36) (tgt := 76) d_Model_told_36 (by decide) (fun _ => ?_) (fun _ => ?_)
    · refine j_bipush (pc := 76) d_Model_told_76 k_b_m4 ?_
      exact j_ireturn (pc := 78) d_Model_told_78 rfl
    · refine j_aload_n (pc := 39) (q := 0) d_Model_told_39 rfl rfl ?_
      refine j_iconst (pc := 40) d_Model_told_40 k_i_0 ?_
      refine j_aload_n (pc := 41) (q := 0) d_Model_told_41 rfl rfl ?_
      refine j_getA (pc := 42) d_Model_told_42 fl_Model_20 sm_0 (by decide) rfl ?_
      refine j_iload_n (pc := 45) (q := 3) d_Model_told_45 rfl rfl ?_
      refine j_iald (pc := 46) d_Model_told_46 sm_4 (fun _ => ?_)
      refine j_aload_n (pc := 47) (q := 0) d_Model_told_47 rfl rfl ?_
      refine j_callV0 (pc := 48) d_Model_told_48 (C_Model_worn n M) cV_Model_221 cd_Model_worn dn_Model_worn rfl (by decide) (Nat.le_of_ble_eq_true rfl) (Nat.le_of_ble_eq_true rfl) nr_I sm_0 (by decide) rfl (fun r7 M8 => ?_)
      refine j_callV3 (pc := 51) d_Model_told_51 (C_Model_shakes n 0 (M.1 4 v3.toNatClampNeg) r7 M8) cV_Model_282 cd_Model_shakes dn_Model_shakes rfl (by decide) (Nat.le_of_ble_eq_true rfl) (Nat.le_of_ble_eq_true rfl) nr_U sm_0 (by decide) rfl (fun r9 M10 => ?_)
      refine j_aload_n (pc := 54) (q := 0) d_Model_told_54 rfl rfl ?_
      refine j_iconst (pc := 55) d_Model_told_55 k_i_0 ?_
      refine j_iload_n (pc := 56) (q := 1) d_Model_told_56 rfl rfl ?_
      refine j_callV2 (pc := 57) d_Model_told_57 (C_Model_knowsIn n 0 a1 M10) cV_Model_251 cd_Model_knowsIn dn_Model_knowsIn rfl (by decide) (Nat.le_of_ble_eq_true rfl) (Nat.le_of_ble_eq_true rfl) nr_I sm_0 (by decide) rfl (fun r11 M12 => ?_)
      refine j_iload_n (pc := 60) (q := 2) d_Model_told_60 rfl rfl ?_
      refine j_ishr (pc := 61) d_Model_told_61 ?_
      refine j_iconst (pc := 62) d_Model_told_62 k_i_1 ?_
      refine j_iand (pc := 63) d_Model_told_63 ?_
      refine j_iconst (pc := 64) d_Model_told_64 k_i_1 ?_
      refine j_icmp_ne (pc := 65) (tgt := 70) d_Model_told_65 (by decide) (fun _ => ?_) (fun _ => ?_)
      · refine j_iinc (pc := 70) (q := 3) d_Model_told_70 rfl (congrArg (v3 + ·) k_i_1) (by decide) rfl ?_
        refine j_goto (pc := 73) (tgt := 31) d_Model_told_73 (by decide) ?_
        refine j_lv [1, 2, 3, 0] rfl ?_
        exact ih (v3 + 1) M12
      · refine j_iload_n (pc := 68) (q := 3) d_Model_told_68 rfl rfl ?_
        exact j_ireturn (pc := 69) d_Model_told_69 rfl
set_option maxRecDepth 20000 in
set_option maxHeartbeats 4000000 in
theorem C_Model_told (n : Nat)   (p1 : Int32) (p2 : Int32) (M : Mem) : Ct y_Model_told mt_Model_told wI [Value.ref 0, Value.int p1, Value.int p2] M (X_Model_told n p1 p2 M) := by
  refine ct_of (by decide +kernel) rfl (Nat.le_of_ble_eq_true rfl) ?_
  show J _ _ _ [(0, Value.ref 0), (1, Value.int p1), (2, Value.int p2)] _ _ _
  unfold X_Model_told
  refine j_aload_n (pc := 0) (q := 0) d_Model_told_0 rfl rfl ?_
  refine j_iload_n (pc := 1) (q := 1) d_Model_told_1 rfl rfl ?_
  refine j_callV1 (pc := 2) d_Model_told_2 (C_Model_isOne n p1 M) cV_Model_268 cd_Model_isOne dn_Model_isOne rfl (by decide) (Nat.le_of_ble_eq_true rfl) (Nat.le_of_ble_eq_true rfl) nr_I sm_0 (by decide) rfl (fun r1 M2 => ?_)
  refine j_if_eq (pc := 5) (tgt := 15) d_Model_told_5 (by decide) (fun _ => ?_) (fun _ => ?_)
  · refine j_iconst (pc := 15) d_Model_told_15 k_i_m1 ?_
    exact j_ireturn (pc := 16) d_Model_told_16 rfl
  · refine j_iload_n (pc := 8) (q := 2) d_Model_told_8 rfl rfl ?_
    refine j_callS1 (pc := 9) d_Model_told_9 (C_Model_isThing n p2 M2) cS_Model_272 cd_Model_isThing dn_Model_isThing rfl (by decide) (Nat.le_of_ble_eq_true rfl) (Nat.le_of_ble_eq_true rfl) nr_I (fun r3 M4 => ?_)
    refine j_if_ne (pc := 12) (tgt := 17) d_Model_told_12 (by decide) (fun _ => ?_) (fun _ => ?_)
    · refine j_aload_n (pc := 17) (q := 0) d_Model_told_17 rfl rfl ?_
      refine j_iload_n (pc := 18) (q := 1) d_Model_told_18 rfl rfl ?_
      refine j_iload_n (pc := 19) (q := 2) d_Model_told_19 rfl rfl ?_
      refine j_callV2 (pc := 20) d_Model_told_20 (C_Model_knowsIt n p1 p2 M4) cV_Model_278 cd_Model_knowsIt dn_Model_knowsIt rfl (by decide) (Nat.le_of_ble_eq_true rfl) (Nat.le_of_ble_eq_true rfl) nr_I sm_0 (by decide) rfl (fun r5 M6 => ?_)
      refine j_if_eq (pc := 23) (tgt := 29) d_Model_told_23 (by decide) (fun _ => ?_) (fun _ => ?_)
      · refine j_iconst (pc := 29) d_Model_told_29 k_i_0 ?_
        refine j_istore_n (pc := 30) d_Model_told_30 rfl (by decide) rfl ?_
        refine j_lv [1, 2, 3, 0] rfl ?_
        exact X_Model_told_L31_ok   n 0 M6
      · refine j_bipush (pc := 26) d_Model_told_26 k_b_m2 ?_
        exact j_ireturn (pc := 28) d_Model_told_28 rfl
    · refine j_iconst (pc := 15) d_Model_told_15 k_i_m1 ?_
      exact j_ireturn (pc := 16) d_Model_told_16 rfl
-- Model.areOnes (I)Z
def mt_Model_areOnes : Mt := ("ShakeHandsModel", b_Model_areOnes, 2, some .boolean, 3, SHm)
theorem d_Model_areOnes_0 : decode b_Model_areOnes 0 = .ok (.iload_n 1, 1) := by decide +kernel
theorem d_Model_areOnes_1 : decode b_Model_areOnes 1 = .ok (.i2l, 1) := by decide +kernel
theorem d_Model_areOnes_2 : decode b_Model_areOnes 2 = .ok (.lconst 0, 1) := by decide +kernel
theorem d_Model_areOnes_3 : decode b_Model_areOnes 3 = .ok (.iconst 1, 1) := by decide +kernel
theorem d_Model_areOnes_4 : decode b_Model_areOnes 4 = .ok (.aload_n 0, 1) := by decide +kernel
theorem d_Model_areOnes_5 : decode b_Model_areOnes 5 = .ok (.getfield 119, 3) := by decide +kernel
theorem d_Model_areOnes_8 : decode b_Model_areOnes 8 = .ok (.ishl, 1) := by decide +kernel
theorem d_Model_areOnes_9 : decode b_Model_areOnes 9 = .ok (.iconst 1, 1) := by decide +kernel
theorem d_Model_areOnes_10 : decode b_Model_areOnes 10 = .ok (.isub, 1) := by decide +kernel
theorem d_Model_areOnes_11 : decode b_Model_areOnes 11 = .ok (.i2l, 1) := by decide +kernel
theorem d_Model_areOnes_12 : decode b_Model_areOnes 12 = .ok (.invokestatic 143, 3) := by decide +kernel
theorem d_Model_areOnes_15 : decode b_Model_areOnes 15 = .ok (.ireturn, 1) := by decide +kernel
def X_Model_areOnes (n : Nat) (p1 : Int32) (M : Mem) : Option (Int32 × Mem) :=
  bd (X_Model_in n (p1.toInt64) 0 (((((1 : Int32) <<< ((M.1 0 2) &&& 31)) - 1) : Int32).toInt64) M) fun r1 M2 =>
  zr r1 M2
set_option maxRecDepth 20000 in
set_option maxHeartbeats 4000000 in
theorem C_Model_areOnes (n : Nat)   (p1 : Int32) (M : Mem) : Ct y_Model_areOnes mt_Model_areOnes wI [Value.ref 0, Value.int p1] M (X_Model_areOnes n p1 M) := by
  refine ct_of (by decide +kernel) rfl (Nat.le_of_ble_eq_true rfl) ?_
  show J _ _ _ [(0, Value.ref 0), (1, Value.int p1)] _ _ _
  unfold X_Model_areOnes
  refine j_iload_n (pc := 0) (q := 1) d_Model_areOnes_0 rfl rfl ?_
  refine j_i2l (pc := 1) d_Model_areOnes_1 ?_
  refine j_lconst (pc := 2) d_Model_areOnes_2 k_l_0 ?_
  refine j_iconst (pc := 3) d_Model_areOnes_3 k_i_1 ?_
  refine j_aload_n (pc := 4) (q := 0) d_Model_areOnes_4 rfl rfl ?_
  refine j_getI (pc := 5) d_Model_areOnes_5 fl_Model_119 sm_0 (by decide) rfl ?_
  refine j_ishl (pc := 8) d_Model_areOnes_8 ?_
  refine j_iconst (pc := 9) d_Model_areOnes_9 k_i_1 ?_
  refine j_isub (pc := 10) d_Model_areOnes_10 ?_
  refine j_i2l (pc := 11) d_Model_areOnes_11 ?_
  refine j_callS3 (pc := 12) d_Model_areOnes_12 (C_Model_in n (p1.toInt64) 0 (((((1 : Int32) <<< ((M.1 0 2) &&& 31)) - 1) : Int32).toInt64) M) cS_Model_143 cd_Model_in dn_Model_in rfl (by decide) (Nat.le_of_ble_eq_true rfl) (Nat.le_of_ble_eq_true rfl) nr_I (fun r1 M2 => ?_)
  exact j_zr (pc := 15) d_Model_areOnes_15 rfl
-- Model.asks (IIII)V
def mt_Model_asks : Mt := ("ShakeHandsModel", b_Model_asks, 5, none, 2, SHm)
theorem d_Model_asks_0 : decode b_Model_asks 0 = .ok (.aload_n 0, 1) := by decide +kernel
theorem d_Model_asks_1 : decode b_Model_asks 1 = .ok (.iload_n 1, 1) := by decide +kernel
theorem d_Model_asks_2 : decode b_Model_asks 2 = .ok (.putfield 308, 3) := by decide +kernel
theorem d_Model_asks_5 : decode b_Model_asks 5 = .ok (.aload_n 0, 1) := by decide +kernel
theorem d_Model_asks_6 : decode b_Model_asks 6 = .ok (.iload_n 2, 1) := by decide +kernel
theorem d_Model_asks_7 : decode b_Model_asks 7 = .ok (.putfield 311, 3) := by decide +kernel
theorem d_Model_asks_10 : decode b_Model_asks 10 = .ok (.aload_n 0, 1) := by decide +kernel
theorem d_Model_asks_11 : decode b_Model_asks 11 = .ok (.iload_n 3, 1) := by decide +kernel
theorem d_Model_asks_12 : decode b_Model_asks 12 = .ok (.putfield 320, 3) := by decide +kernel
theorem d_Model_asks_15 : decode b_Model_asks 15 = .ok (.aload_n 0, 1) := by decide +kernel
theorem d_Model_asks_16 : decode b_Model_asks 16 = .ok (.iload 4, 2) := by decide +kernel
theorem d_Model_asks_18 : decode b_Model_asks 18 = .ok (.putfield 314, 3) := by decide +kernel
theorem d_Model_asks_21 : decode b_Model_asks 21 = .ok (.return_, 1) := by decide +kernel
def X_Model_asks (n : Nat) (p1 : Int32) (p2 : Int32) (p3 : Int32) (p4 : Int32) (M : Mem) : Option (Unit × Mem) :=
  some ((), si (si (si (si M 0 39 p1) 0 40 p2) 0 41 p3) 0 42 p4)
set_option maxRecDepth 20000 in
set_option maxHeartbeats 4000000 in
theorem C_Model_asks (n : Nat)   (p1 : Int32) (p2 : Int32) (p3 : Int32) (p4 : Int32) (M : Mem) : Ct y_Model_asks mt_Model_asks wU [Value.ref 0, Value.int p1, Value.int p2, Value.int p3, Value.int p4] M (X_Model_asks n p1 p2 p3 p4 M) := by
  refine ct_of (by decide +kernel) rfl (Nat.le_of_ble_eq_true rfl) ?_
  show J _ _ _ [(0, Value.ref 0), (1, Value.int p1), (2, Value.int p2), (3, Value.int p3), (4, Value.int p4)] _ _ _
  unfold X_Model_asks
  refine j_aload_n (pc := 0) (q := 0) d_Model_asks_0 rfl rfl ?_
  refine j_iload_n (pc := 1) (q := 1) d_Model_asks_1 rfl rfl ?_
  refine j_putI (pc := 2) d_Model_asks_2 fl_Model_308 rfl sm_0 (by decide) rfl ?_
  refine j_aload_n (pc := 5) (q := 0) d_Model_asks_5 rfl rfl ?_
  refine j_iload_n (pc := 6) (q := 2) d_Model_asks_6 rfl rfl ?_
  refine j_putI (pc := 7) d_Model_asks_7 fl_Model_311 rfl sm_0 (by decide) rfl ?_
  refine j_aload_n (pc := 10) (q := 0) d_Model_asks_10 rfl rfl ?_
  refine j_iload_n (pc := 11) (q := 3) d_Model_asks_11 rfl rfl ?_
  refine j_putI (pc := 12) d_Model_asks_12 fl_Model_320 rfl sm_0 (by decide) rfl ?_
  refine j_aload_n (pc := 15) (q := 0) d_Model_asks_15 rfl rfl ?_
  refine j_iload (pc := 16) (q := 4) d_Model_asks_16 rfl ?_
  refine j_putI (pc := 18) d_Model_asks_18 fl_Model_314 rfl sm_0 (by decide) rfl ?_
  exact j_return (pc := 21) d_Model_asks_21 rfl
-- Model.aRow (I)V
def mt_Model_aRow : Mt := ("ShakeHandsModel", b_Model_aRow, 4, none, 2, SHm)
theorem d_Model_aRow_0 : decode b_Model_aRow 0 = .ok (.iconst 0, 1) := by decide +kernel
theorem d_Model_aRow_1 : decode b_Model_aRow 1 = .ok (.istore_n 2, 1) := by decide +kernel
theorem d_Model_aRow_2 : decode b_Model_aRow 2 = .ok (.iconst 0, 1) := by decide +kernel
theorem d_Model_aRow_3 : decode b_Model_aRow 3 = .ok (.istore_n 3, 1) := by decide +kernel
theorem d_Model_aRow_4 : decode b_Model_aRow 4 = .ok (.iload_n 3, 1) := by decide +kernel
theorem d_Model_aRow_5 : decode b_Model_aRow 5 = .ok (.iload_n 1, 1) := by decide +kernel
theorem d_Model_aRow_6 : decode b_Model_aRow 6 = .ok (.if_icmp .ge 48, 3) := by decide +kernel
theorem d_Model_aRow_9 : decode b_Model_aRow 9 = .ok (.iload_n 2, 1) := by decide +kernel
theorem d_Model_aRow_10 : decode b_Model_aRow 10 = .ok (.iconst 1, 1) := by decide +kernel
theorem d_Model_aRow_11 : decode b_Model_aRow 11 = .ok (.aload_n 0, 1) := by decide +kernel
theorem d_Model_aRow_12 : decode b_Model_aRow 12 = .ok (.getfield 59, 3) := by decide +kernel
theorem d_Model_aRow_15 : decode b_Model_aRow 15 = .ok (.iload_n 3, 1) := by decide +kernel
theorem d_Model_aRow_16 : decode b_Model_aRow 16 = .ok (.iaload, 1) := by decide +kernel
theorem d_Model_aRow_17 : decode b_Model_aRow 17 = .ok (.ishl, 1) := by decide +kernel
theorem d_Model_aRow_18 : decode b_Model_aRow 18 = .ok (.ior, 1) := by decide +kernel
theorem d_Model_aRow_19 : decode b_Model_aRow 19 = .ok (.istore_n 2, 1) := by decide +kernel
theorem d_Model_aRow_20 : decode b_Model_aRow 20 = .ok (.aload_n 0, 1) := by decide +kernel
theorem d_Model_aRow_21 : decode b_Model_aRow 21 = .ok (.getfield 62, 3) := by decide +kernel
theorem d_Model_aRow_24 : decode b_Model_aRow 24 = .ok (.iload_n 3, 1) := by decide +kernel
theorem d_Model_aRow_25 : decode b_Model_aRow 25 = .ok (.aload_n 0, 1) := by decide +kernel
theorem d_Model_aRow_26 : decode b_Model_aRow 26 = .ok (.getfield 323, 3) := by decide +kernel
theorem d_Model_aRow_29 : decode b_Model_aRow 29 = .ok (.ifCond .ne 12, 3) := by decide +kernel
theorem d_Model_aRow_32 : decode b_Model_aRow 32 = .ok (.aload_n 0, 1) := by decide +kernel
theorem d_Model_aRow_33 : decode b_Model_aRow 33 = .ok (.getfield 59, 3) := by decide +kernel
theorem d_Model_aRow_36 : decode b_Model_aRow 36 = .ok (.iload_n 3, 1) := by decide +kernel
theorem d_Model_aRow_37 : decode b_Model_aRow 37 = .ok (.iaload, 1) := by decide +kernel
theorem d_Model_aRow_38 : decode b_Model_aRow 38 = .ok (.goto 9, 3) := by decide +kernel
theorem d_Model_aRow_41 : decode b_Model_aRow 41 = .ok (.aload_n 0, 1) := by decide +kernel
theorem d_Model_aRow_42 : decode b_Model_aRow 42 = .ok (.getfield 62, 3) := by decide +kernel
theorem d_Model_aRow_45 : decode b_Model_aRow 45 = .ok (.iload_n 3, 1) := by decide +kernel
theorem d_Model_aRow_46 : decode b_Model_aRow 46 = .ok (.iaload, 1) := by decide +kernel
theorem d_Model_aRow_47 : decode b_Model_aRow 47 = .ok (.iastore, 1) := by decide +kernel
theorem d_Model_aRow_48 : decode b_Model_aRow 48 = .ok (.iinc 3 1, 3) := by decide +kernel
theorem d_Model_aRow_51 : decode b_Model_aRow 51 = .ok (.goto (-47), 3) := by decide +kernel
theorem d_Model_aRow_54 : decode b_Model_aRow 54 = .ok (.aload_n 0, 1) := by decide +kernel
theorem d_Model_aRow_55 : decode b_Model_aRow 55 = .ok (.aload_n 0, 1) := by decide +kernel
theorem d_Model_aRow_56 : decode b_Model_aRow 56 = .ok (.getfield 323, 3) := by decide +kernel
theorem d_Model_aRow_59 : decode b_Model_aRow 59 = .ok (.ifCond .ne 7, 3) := by decide +kernel
theorem d_Model_aRow_62 : decode b_Model_aRow 62 = .ok (.iload_n 2, 1) := by decide +kernel
theorem d_Model_aRow_63 : decode b_Model_aRow 63 = .ok (.goto 9, 3) := by decide +kernel
theorem d_Model_aRow_66 : decode b_Model_aRow 66 = .ok (.aload_n 0, 1) := by decide +kernel
theorem d_Model_aRow_67 : decode b_Model_aRow 67 = .ok (.getfield 326, 3) := by decide +kernel
theorem d_Model_aRow_70 : decode b_Model_aRow 70 = .ok (.iload_n 2, 1) := by decide +kernel
theorem d_Model_aRow_71 : decode b_Model_aRow 71 = .ok (.iand, 1) := by decide +kernel
theorem d_Model_aRow_72 : decode b_Model_aRow 72 = .ok (.putfield 326, 3) := by decide +kernel
theorem d_Model_aRow_75 : decode b_Model_aRow 75 = .ok (.aload_n 0, 1) := by decide +kernel
theorem d_Model_aRow_76 : decode b_Model_aRow 76 = .ok (.dup, 1) := by decide +kernel
theorem d_Model_aRow_77 : decode b_Model_aRow 77 = .ok (.getfield 329, 3) := by decide +kernel
theorem d_Model_aRow_80 : decode b_Model_aRow 80 = .ok (.iload_n 2, 1) := by decide +kernel
theorem d_Model_aRow_81 : decode b_Model_aRow 81 = .ok (.ior, 1) := by decide +kernel
theorem d_Model_aRow_82 : decode b_Model_aRow 82 = .ok (.putfield 329, 3) := by decide +kernel
theorem d_Model_aRow_85 : decode b_Model_aRow 85 = .ok (.aload_n 0, 1) := by decide +kernel
theorem d_Model_aRow_86 : decode b_Model_aRow 86 = .ok (.dup, 1) := by decide +kernel
theorem d_Model_aRow_87 : decode b_Model_aRow 87 = .ok (.getfield 323, 3) := by decide +kernel
theorem d_Model_aRow_90 : decode b_Model_aRow 90 = .ok (.iconst 1, 1) := by decide +kernel
theorem d_Model_aRow_91 : decode b_Model_aRow 91 = .ok (.iadd, 1) := by decide +kernel
theorem d_Model_aRow_92 : decode b_Model_aRow 92 = .ok (.putfield 323, 3) := by decide +kernel
theorem d_Model_aRow_95 : decode b_Model_aRow 95 = .ok (.return_, 1) := by decide +kernel
def X_Model_aRow_L4 (n : Nat) (a1 : Int32) (kx54 : Int32 → Mem → Option (Unit × Mem)) : Nat → Int32 → Int32 → Mem → Option (Unit × Mem)
    | 0, _, _, _ => none
    | m + 1, v2, v3, M => (if a1 ≤ v3 then
    kx54 v2 M
    else
    gd v3 4 (
      nm (v2 ||| ((1 : Int32) <<< ((M.1 17 v3.toNatClampNeg) &&& 31))) fun x1 =>
      nm (fun (u2 : Int32) => (gd v3 4 (
            X_Model_aRow_L4 n a1 kx54 m x1 (v3 + 1) (si M 18 (v3.toNatClampNeg) u2)) : Option (Unit × Mem))) fun k47 =>
      (if (M.1 0 43) = 0 then
        gd v3 4 (
          k47 (M.1 17 v3.toNatClampNeg))
        else
        gd v3 4 (
          k47 (M.1 18 v3.toNatClampNeg)))))
def X_Model_aRow (n : Nat) (p1 : Int32) (M : Mem) : Option (Unit × Mem) :=
  X_Model_aRow_L4 n p1 (fun y3 M4 => nm (fun (u5 : Int32) => (nm (si M4 0 44 u5) fun N6 =>
        nm (si N6 0 45 ((N6.1 0 45) ||| y3)) fun N7 =>
        some ((), si N7 0 43 ((N7.1 0 43) + 1)) : Option (Unit × Mem))) fun k72 =>
    (if (M4.1 0 43) = 0 then
      k72 y3
      else
      k72 ((M4.1 0 44) &&& y3))) n 0 0 M
set_option maxRecDepth 20000 in
set_option maxHeartbeats 4000000 in
theorem X_Model_aRow_L4_ok {n : Nat} {a1 : Int32} {kx54 : Int32 → Mem → Option (Unit × Mem)} (hkx54 : ∀ (w2 : Int32) (M : Mem), J (mt_Model_aRow) wU 54 [(0, Value.ref 0), (2, Value.int w2)] [] M (kx54 w2 M)) : ∀ (m : Nat) (v2 : Int32) (v3 : Int32) (M : Mem), J (mt_Model_aRow) wU 4 [(0, Value.ref 0), (1, Value.int a1), (2, Value.int v2), (3, Value.int v3)] [] M (X_Model_aRow_L4 n a1 kx54 m v2 v3 M) := by
  intro m
  induction m with
  | zero => intro _ _ _; exact j_none
  | succ m ih =>
    intro v2 v3 M
    show J _ _ _ _ _ _ ((if a1 ≤ v3 then
kx54 v2 M
else
gd v3 4 (
nm (v2 ||| ((1 : Int32) <<< ((M.1 17 v3.toNatClampNeg) &&& 31))) fun x1 =>
nm (fun (u2 : Int32) => (gd v3 4 (
X_Model_aRow_L4 n a1 kx54 m x1 (v3 + 1) (si M 18 (v3.toNatClampNeg) u2)) : Option (Unit × Mem))) fun k47 =>
(if (M.1 0 43) = 0 then
gd v3 4 (
k47 (M.1 17 v3.toNatClampNeg))
else
gd v3 4 (
k47 (M.1 18 v3.toNatClampNeg))))))
    refine j_iload_n (pc := 4) (q := 3) d_Model_aRow_4 rfl rfl ?_
    refine j_iload_n (pc := 5) (q := 1) d_Model_aRow_5 rfl rfl ?_
    refine j_icmp_ge (pc := 6) (tgt := 54) d_Model_aRow_6 (by decide) (fun _ => ?_) (fun _ => ?_)
    · refine j_lv [0, 2] rfl ?_
      exact hkx54 v2 M
    · refine j_iload_n (pc := 9) (q := 2) d_Model_aRow_9 rfl rfl ?_
      refine j_iconst (pc := 10) d_Model_aRow_10 k_i_1 ?_
      refine j_aload_n (pc := 11) (q := 0) d_Model_aRow_11 rfl rfl ?_
      refine j_getA (pc := 12) d_Model_aRow_12 fl_Model_59 sm_0 (by decide) rfl ?_
      refine j_iload_n (pc := 15) (q := 3) d_Model_aRow_15 rfl rfl ?_
      refine j_iald (pc := 16) d_Model_aRow_16 sm_17 (fun _ => ?_)
      refine j_ishl (pc := 17) d_Model_aRow_17 ?_
      refine j_ior (pc := 18) d_Model_aRow_18 ?_
      refine j_nmi (fun x1 => ?_)
      refine j_istore_n (pc := 19) d_Model_aRow_19 rfl (by decide) rfl ?_
      refine j_aload_n (pc := 20) (q := 1) d_Model_aRow_20 rfl rfl ?_
      refine j_getA (pc := 21) d_Model_aRow_21 fl_Model_62 sm_0 (by decide) rfl ?_
      refine j_iload_n (pc := 24) (q := 3) d_Model_aRow_24 rfl rfl ?_
      refine j_aload_n (pc := 25) (q := 1) d_Model_aRow_25 rfl rfl ?_
      refine j_getI (pc := 26) d_Model_aRow_26 fl_Model_323 sm_0 (by decide) rfl ?_
      refine j_nmk (fun k => ∀ (u2 : Int32), J (mt_Model_aRow) wU 47 [(0, Value.ref 0), (1, Value.int a1), (2, Value.int x1), (3, Value.int v3)] [Value.int u2, Value.int v3, Value.ref 18] M (k u2)) (fun u2 => ?_) (fun k47 hk47 => ?_)
      · refine j_iast (pc := 47) d_Model_aRow_47 sm_18 (fun _ => ?_)
        refine j_iinc (pc := 48) (q := 3) d_Model_aRow_48 rfl (congrArg (v3 + ·) k_i_1) (by decide) rfl ?_
        refine j_goto (pc := 51) (tgt := 4) d_Model_aRow_51 (by decide) ?_
        refine j_lv [1, 2, 3, 0] rfl ?_
        exact ih x1 (v3 + 1) (si M 18 (v3.toNatClampNeg) u2)
      · refine j_if_ne (pc := 29) (tgt := 41) d_Model_aRow_29 (by decide) (fun _ => ?_) (fun _ => ?_)
        · refine j_aload_n (pc := 41) (q := 1) d_Model_aRow_41 rfl rfl ?_
          refine j_getA (pc := 42) d_Model_aRow_42 fl_Model_62 sm_0 (by decide) rfl ?_
          refine j_iload_n (pc := 45) (q := 3) d_Model_aRow_45 rfl rfl ?_
          refine j_iald (pc := 46) d_Model_aRow_46 sm_18 (fun _ => ?_)
          refine j_lv [1, 2, 0, 3] rfl ?_
          exact hk47 (M.1 18 v3.toNatClampNeg)
        · refine j_aload_n (pc := 32) (q := 1) d_Model_aRow_32 rfl rfl ?_
          refine j_getA (pc := 33) d_Model_aRow_33 fl_Model_59 sm_0 (by decide) rfl ?_
          refine j_iload_n (pc := 36) (q := 3) d_Model_aRow_36 rfl rfl ?_
          refine j_iald (pc := 37) d_Model_aRow_37 sm_17 (fun _ => ?_)
          refine j_goto (pc := 38) (tgt := 47) d_Model_aRow_38 (by decide) ?_
          refine j_lv [1, 2, 0, 3] rfl ?_
          exact hk47 (M.1 17 v3.toNatClampNeg)
set_option maxRecDepth 20000 in
set_option maxHeartbeats 4000000 in
theorem C_Model_aRow (n : Nat)   (p1 : Int32) (M : Mem) : Ct y_Model_aRow mt_Model_aRow wU [Value.ref 0, Value.int p1] M (X_Model_aRow n p1 M) := by
  refine ct_of (by decide +kernel) rfl (Nat.le_of_ble_eq_true rfl) ?_
  show J _ _ _ [(0, Value.ref 0), (1, Value.int p1)] _ _ _
  unfold X_Model_aRow
  refine j_iconst (pc := 0) d_Model_aRow_0 k_i_0 ?_
  refine j_istore_n (pc := 1) d_Model_aRow_1 rfl (by decide) rfl ?_
  refine j_iconst (pc := 2) d_Model_aRow_2 k_i_0 ?_
  refine j_istore_n (pc := 3) d_Model_aRow_3 rfl (by decide) rfl ?_
  refine j_lv [2, 3, 1, 0] rfl ?_
  refine X_Model_aRow_L4_ok  (fun y3 M4 => ?_) n 0 0 M
  refine j_aload_n (pc := 54) (q := 0) d_Model_aRow_54 rfl rfl ?_
  refine j_aload_n (pc := 55) (q := 0) d_Model_aRow_55 rfl rfl ?_
  refine j_getI (pc := 56) d_Model_aRow_56 fl_Model_323 sm_0 (by decide) rfl ?_
  refine j_nmk (fun k => ∀ (u5 : Int32), J (mt_Model_aRow) wU 72 [(0, Value.ref 0), (2, Value.int y3)] [Value.int u5, Value.ref 0] M4 (k u5)) (fun u5 => ?_) (fun k72 hk72 => ?_)
  · refine j_putI (pc := 72) d_Model_aRow_72 fl_Model_326 rfl sm_0 (by decide) rfl ?_
    refine j_aload_n (pc := 75) (q := 0) d_Model_aRow_75 rfl rfl ?_
    refine j_dup (pc := 76) d_Model_aRow_76 rfl ?_
    refine j_nmM (fun N6 => ?_)
    refine j_getI (pc := 77) d_Model_aRow_77 fl_Model_329 sm_0 (by decide) rfl ?_
    refine j_iload_n (pc := 80) (q := 1) d_Model_aRow_80 rfl rfl ?_
    refine j_ior (pc := 81) d_Model_aRow_81 ?_
    refine j_putI (pc := 82) d_Model_aRow_82 fl_Model_329 rfl sm_0 (by decide) rfl ?_
    refine j_aload_n (pc := 85) (q := 0) d_Model_aRow_85 rfl rfl ?_
    refine j_dup (pc := 86) d_Model_aRow_86 rfl ?_
    refine j_nmM (fun N7 => ?_)
    refine j_getI (pc := 87) d_Model_aRow_87 fl_Model_323 sm_0 (by decide) rfl ?_
    refine j_iconst (pc := 90) d_Model_aRow_90 k_i_1 ?_
    refine j_iadd (pc := 91) d_Model_aRow_91 ?_
    refine j_putI (pc := 92) d_Model_aRow_92 fl_Model_323 rfl sm_0 (by decide) rfl ?_
    exact j_return (pc := 95) d_Model_aRow_95 rfl
  · refine j_if_ne (pc := 59) (tgt := 66) d_Model_aRow_59 (by decide) (fun _ => ?_) (fun _ => ?_)
    · refine j_aload_n (pc := 66) (q := 0) d_Model_aRow_66 rfl rfl ?_
      refine j_getI (pc := 67) d_Model_aRow_67 fl_Model_326 sm_0 (by decide) rfl ?_
      refine j_iload_n (pc := 70) (q := 1) d_Model_aRow_70 rfl rfl ?_
      refine j_iand (pc := 71) d_Model_aRow_71 ?_
      exact hk72 ((M4.1 0 44) &&& y3)
    · refine j_iload_n (pc := 62) (q := 1) d_Model_aRow_62 rfl rfl ?_
      refine j_goto (pc := 63) (tgt := 72) d_Model_aRow_63 (by decide) ?_
      exact hk72 y3
-- Model.copies (II)V
def mt_Model_copies : Mt := ("ShakeHandsModel", b_Model_copies, 4, none, 2, SHm)
theorem d_Model_copies_0 : decode b_Model_copies 0 = .ok (.iconst 0, 1) := by decide +kernel
theorem d_Model_copies_1 : decode b_Model_copies 1 = .ok (.istore_n 3, 1) := by decide +kernel
theorem d_Model_copies_2 : decode b_Model_copies 2 = .ok (.iload_n 3, 1) := by decide +kernel
theorem d_Model_copies_3 : decode b_Model_copies 3 = .ok (.bipush 60, 2) := by decide +kernel
theorem d_Model_copies_5 : decode b_Model_copies 5 = .ok (.if_icmp .ge 31, 3) := by decide +kernel
theorem d_Model_copies_8 : decode b_Model_copies 8 = .ok (.aload_n 0, 1) := by decide +kernel
theorem d_Model_copies_9 : decode b_Model_copies 9 = .ok (.getfield 53, 3) := by decide +kernel
theorem d_Model_copies_12 : decode b_Model_copies 12 = .ok (.bipush 60, 2) := by decide +kernel
theorem d_Model_copies_14 : decode b_Model_copies 14 = .ok (.iload_n 1, 1) := by decide +kernel
theorem d_Model_copies_15 : decode b_Model_copies 15 = .ok (.imul, 1) := by decide +kernel
theorem d_Model_copies_16 : decode b_Model_copies 16 = .ok (.iload_n 3, 1) := by decide +kernel
theorem d_Model_copies_17 : decode b_Model_copies 17 = .ok (.iadd, 1) := by decide +kernel
theorem d_Model_copies_18 : decode b_Model_copies 18 = .ok (.aload_n 0, 1) := by decide +kernel
theorem d_Model_copies_19 : decode b_Model_copies 19 = .ok (.getfield 53, 3) := by decide +kernel
theorem d_Model_copies_22 : decode b_Model_copies 22 = .ok (.bipush 60, 2) := by decide +kernel
theorem d_Model_copies_24 : decode b_Model_copies 24 = .ok (.iload_n 2, 1) := by decide +kernel
theorem d_Model_copies_25 : decode b_Model_copies 25 = .ok (.imul, 1) := by decide +kernel
theorem d_Model_copies_26 : decode b_Model_copies 26 = .ok (.iload_n 3, 1) := by decide +kernel
theorem d_Model_copies_27 : decode b_Model_copies 27 = .ok (.iadd, 1) := by decide +kernel
theorem d_Model_copies_28 : decode b_Model_copies 28 = .ok (.iaload, 1) := by decide +kernel
theorem d_Model_copies_29 : decode b_Model_copies 29 = .ok (.iastore, 1) := by decide +kernel
theorem d_Model_copies_30 : decode b_Model_copies 30 = .ok (.iinc 3 1, 3) := by decide +kernel
theorem d_Model_copies_33 : decode b_Model_copies 33 = .ok (.goto (-31), 3) := by decide +kernel
theorem d_Model_copies_36 : decode b_Model_copies 36 = .ok (.return_, 1) := by decide +kernel
def X_Model_copies_L2 (n : Nat) (a1 : Int32) (a2 : Int32) : Nat → Int32 → Mem → Option (Unit × Mem)
    | 0, _, _ => none
    | m + 1, v3, M => (if 60 ≤ v3 then
    some ((), M)
    else
    gd (((60 : Int32) * a2) + v3) 600 (
      gd (((60 : Int32) * a1) + v3) 600 (
        X_Model_copies_L2 n a1 a2 m (v3 + 1) (si M 15 ((((60 : Int32) * a1) + v3).toNatClampNeg) (M.1 15 (((60 : Int32) * a2) + v3).toNatClampNeg)))))
def X_Model_copies (n : Nat) (p1 : Int32) (p2 : Int32) (M : Mem) : Option (Unit × Mem) :=
  X_Model_copies_L2 n p1 p2 n 0 M
set_option maxRecDepth 20000 in
set_option maxHeartbeats 4000000 in
theorem X_Model_copies_L2_ok {n : Nat} {a1 : Int32} {a2 : Int32} : ∀ (m : Nat) (v3 : Int32) (M : Mem), J (mt_Model_copies) wU 2 [(0, Value.ref 0), (1, Value.int a1), (2, Value.int a2), (3, Value.int v3)] [] M (X_Model_copies_L2 n a1 a2 m v3 M) := by
  intro m
  induction m with
  | zero => intro _ _; exact j_none
  | succ m ih =>
    intro v3 M
    show J _ _ _ _ _ _ ((if 60 ≤ v3 then
some ((), M)
else
gd (((60 : Int32) * a2) + v3) 600 (
gd (((60 : Int32) * a1) + v3) 600 (
X_Model_copies_L2 n a1 a2 m (v3 + 1) (si M 15 ((((60 : Int32) * a1) + v3).toNatClampNeg) (M.1 15 (((60 : Int32) * a2) + v3).toNatClampNeg))))))
    refine j_iload_n (pc := 2) (q := 3) d_Model_copies_2 rfl rfl ?_
    refine j_bipush (pc := 3) d_Model_copies_3 k_b_60 ?_
    refine j_icmp_ge (pc := 5) (tgt := 36) d_Model_copies_5 (by decide) (fun _ => ?_) (fun _ => ?_)
    · exact j_return (pc := 36) d_Model_copies_36 rfl
    · refine j_aload_n (pc := 8) (q := 0) d_Model_copies_8 rfl rfl ?_
      refine j_getA (pc := 9) d_Model_copies_9 fl_Model_53 sm_0 (by decide) rfl ?_
      refine j_bipush (pc := 12) d_Model_copies_12 k_b_60 ?_
      refine j_iload_n (pc := 14) (q := 1) d_Model_copies_14 rfl rfl ?_
      refine j_imul (pc := 15) d_Model_copies_15 ?_
      refine j_iload_n (pc := 16) (q := 3) d_Model_copies_16 rfl rfl ?_
      refine j_iadd (pc := 17) d_Model_copies_17 ?_
      refine j_aload_n (pc := 18) (q := 0) d_Model_copies_18 rfl rfl ?_
      refine j_getA (pc := 19) d_Model_copies_19 fl_Model_53 sm_0 (by decide) rfl ?_
      refine j_bipush (pc := 22) d_Model_copies_22 k_b_60 ?_
      refine j_iload_n (pc := 24) (q := 2) d_Model_copies_24 rfl rfl ?_
      refine j_imul (pc := 25) d_Model_copies_25 ?_
      refine j_iload_n (pc := 26) (q := 3) d_Model_copies_26 rfl rfl ?_
      refine j_iadd (pc := 27) d_Model_copies_27 ?_
      refine j_iald (pc := 28) d_Model_copies_28 sm_15 (fun _ => ?_)
      refine j_iast (pc := 29) d_Model_copies_29 sm_15 (fun _ => ?_)
      refine j_iinc (pc := 30) (q := 3) d_Model_copies_30 rfl (congrArg (v3 + ·) k_i_1) (by decide) rfl ?_
      refine j_goto (pc := 33) (tgt := 2) d_Model_copies_33 (by decide) ?_
      refine j_lv [1, 2, 3, 0] rfl ?_
      exact ih (v3 + 1) (si M 15 ((((60 : Int32) * a1) + v3).toNatClampNeg) (M.1 15 (((60 : Int32) * a2) + v3).toNatClampNeg))
set_option maxRecDepth 20000 in
set_option maxHeartbeats 4000000 in
theorem C_Model_copies (n : Nat)   (p1 : Int32) (p2 : Int32) (M : Mem) : Ct y_Model_copies mt_Model_copies wU [Value.ref 0, Value.int p1, Value.int p2] M (X_Model_copies n p1 p2 M) := by
  refine ct_of (by decide +kernel) rfl (Nat.le_of_ble_eq_true rfl) ?_
  show J _ _ _ [(0, Value.ref 0), (1, Value.int p1), (2, Value.int p2)] _ _ _
  unfold X_Model_copies
  refine j_iconst (pc := 0) d_Model_copies_0 k_i_0 ?_
  refine j_istore_n (pc := 1) d_Model_copies_1 rfl (by decide) rfl ?_
  refine j_lv [1, 2, 3, 0] rfl ?_
  exact X_Model_copies_L2_ok   n 0 M
-- Model.isFreePair (I)Z
def mt_Model_isFreePair : Mt := ("ShakeHandsModel", b_Model_isFreePair, 2, some .boolean, 2, SHm)
theorem d_Model_isFreePair_0 : decode b_Model_isFreePair 0 = .ok (.aload_n 0, 1) := by decide +kernel
theorem d_Model_isFreePair_1 : decode b_Model_isFreePair 1 = .ok (.getfield 29, 3) := by decide +kernel
theorem d_Model_isFreePair_4 : decode b_Model_isFreePair 4 = .ok (.iload_n 1, 1) := by decide +kernel
theorem d_Model_isFreePair_5 : decode b_Model_isFreePair 5 = .ok (.iaload, 1) := by decide +kernel
theorem d_Model_isFreePair_6 : decode b_Model_isFreePair 6 = .ok (.aload_n 0, 1) := by decide +kernel
theorem d_Model_isFreePair_7 : decode b_Model_isFreePair 7 = .ok (.getfield 119, 3) := by decide +kernel
theorem d_Model_isFreePair_10 : decode b_Model_isFreePair 10 = .ok (.if_icmp .ge 39, 3) := by decide +kernel
theorem d_Model_isFreePair_13 : decode b_Model_isFreePair 13 = .ok (.aload_n 0, 1) := by decide +kernel
theorem d_Model_isFreePair_14 : decode b_Model_isFreePair 14 = .ok (.getfield 302, 3) := by decide +kernel
theorem d_Model_isFreePair_17 : decode b_Model_isFreePair 17 = .ok (.aload_n 0, 1) := by decide +kernel
theorem d_Model_isFreePair_18 : decode b_Model_isFreePair 18 = .ok (.getfield 26, 3) := by decide +kernel
theorem d_Model_isFreePair_21 : decode b_Model_isFreePair 21 = .ok (.iload_n 1, 1) := by decide +kernel
theorem d_Model_isFreePair_22 : decode b_Model_isFreePair 22 = .ok (.iaload, 1) := by decide +kernel
theorem d_Model_isFreePair_23 : decode b_Model_isFreePair 23 = .ok (.ishr, 1) := by decide +kernel
theorem d_Model_isFreePair_24 : decode b_Model_isFreePair 24 = .ok (.iconst 1, 1) := by decide +kernel
theorem d_Model_isFreePair_25 : decode b_Model_isFreePair 25 = .ok (.iand, 1) := by decide +kernel
theorem d_Model_isFreePair_26 : decode b_Model_isFreePair 26 = .ok (.ifCond .ne 23, 3) := by decide +kernel
theorem d_Model_isFreePair_29 : decode b_Model_isFreePair 29 = .ok (.aload_n 0, 1) := by decide +kernel
theorem d_Model_isFreePair_30 : decode b_Model_isFreePair 30 = .ok (.getfield 302, 3) := by decide +kernel
theorem d_Model_isFreePair_33 : decode b_Model_isFreePair 33 = .ok (.aload_n 0, 1) := by decide +kernel
theorem d_Model_isFreePair_34 : decode b_Model_isFreePair 34 = .ok (.getfield 29, 3) := by decide +kernel
theorem d_Model_isFreePair_37 : decode b_Model_isFreePair 37 = .ok (.iload_n 1, 1) := by decide +kernel
theorem d_Model_isFreePair_38 : decode b_Model_isFreePair 38 = .ok (.iaload, 1) := by decide +kernel
theorem d_Model_isFreePair_39 : decode b_Model_isFreePair 39 = .ok (.ishr, 1) := by decide +kernel
theorem d_Model_isFreePair_40 : decode b_Model_isFreePair 40 = .ok (.iconst 1, 1) := by decide +kernel
theorem d_Model_isFreePair_41 : decode b_Model_isFreePair 41 = .ok (.iand, 1) := by decide +kernel
theorem d_Model_isFreePair_42 : decode b_Model_isFreePair 42 = .ok (.ifCond .ne 7, 3) := by decide +kernel
theorem d_Model_isFreePair_45 : decode b_Model_isFreePair 45 = .ok (.iconst 1, 1) := by decide +kernel
theorem d_Model_isFreePair_46 : decode b_Model_isFreePair 46 = .ok (.goto 4, 3) := by decide +kernel
theorem d_Model_isFreePair_49 : decode b_Model_isFreePair 49 = .ok (.iconst 0, 1) := by decide +kernel
theorem d_Model_isFreePair_50 : decode b_Model_isFreePair 50 = .ok (.ireturn, 1) := by decide +kernel
def X_Model_isFreePair (n : Nat) (p1 : Int32) (M : Mem) : Option (Int32 × Mem) :=
  gd p1 15 (
    (if (M.1 0 2) ≤ (M.1 7 p1.toNatClampNeg) then
      some (0, M)
      else
      gd p1 15 (
        (if (((M.1 0 38) >>> ((M.1 6 p1.toNatClampNeg) &&& 31)) &&& 1) = 0 then
          gd p1 15 (
            (if (((M.1 0 38) >>> ((M.1 7 p1.toNatClampNeg) &&& 31)) &&& 1) = 0 then
              some (1, M)
              else
              some (0, M)))
          else
          some (0, M)))))
set_option maxRecDepth 20000 in
set_option maxHeartbeats 4000000 in
theorem C_Model_isFreePair (n : Nat)   (p1 : Int32) (M : Mem) : Ct y_Model_isFreePair mt_Model_isFreePair wI [Value.ref 0, Value.int p1] M (X_Model_isFreePair n p1 M) := by
  refine ct_of (by decide +kernel) rfl (Nat.le_of_ble_eq_true rfl) ?_
  show J _ _ _ [(0, Value.ref 0), (1, Value.int p1)] _ _ _
  unfold X_Model_isFreePair
  refine j_aload_n (pc := 0) (q := 0) d_Model_isFreePair_0 rfl rfl ?_
  refine j_getA (pc := 1) d_Model_isFreePair_1 fl_Model_29 sm_0 (by decide) rfl ?_
  refine j_iload_n (pc := 4) (q := 1) d_Model_isFreePair_4 rfl rfl ?_
  refine j_iald (pc := 5) d_Model_isFreePair_5 sm_7 (fun _ => ?_)
  refine j_aload_n (pc := 6) (q := 0) d_Model_isFreePair_6 rfl rfl ?_
  refine j_getI (pc := 7) d_Model_isFreePair_7 fl_Model_119 sm_0 (by decide) rfl ?_
  refine j_icmp_ge (pc := 10) (tgt := 49) d_Model_isFreePair_10 (by decide) (fun _ => ?_) (fun _ => ?_)
  · refine j_iconst (pc := 49) d_Model_isFreePair_49 k_i_0 ?_
    exact j_zreturn (pc := 50) d_Model_isFreePair_50 rfl rfl
  · refine j_aload_n (pc := 13) (q := 0) d_Model_isFreePair_13 rfl rfl ?_
    refine j_getI (pc := 14) d_Model_isFreePair_14 fl_Model_302 sm_0 (by decide) rfl ?_
    refine j_aload_n (pc := 17) (q := 0) d_Model_isFreePair_17 rfl rfl ?_
    refine j_getA (pc := 18) d_Model_isFreePair_18 fl_Model_26 sm_0 (by decide) rfl ?_
    refine j_iload_n (pc := 21) (q := 1) d_Model_isFreePair_21 rfl rfl ?_
    refine j_iald (pc := 22) d_Model_isFreePair_22 sm_6 (fun _ => ?_)
    refine j_ishr (pc := 23) d_Model_isFreePair_23 ?_
    refine j_iconst (pc := 24) d_Model_isFreePair_24 k_i_1 ?_
    refine j_iand (pc := 25) d_Model_isFreePair_25 ?_
    refine j_if_ne (pc := 26) (tgt := 49) d_Model_isFreePair_26 (by decide) (fun _ => ?_) (fun _ => ?_)
    · refine j_iconst (pc := 49) d_Model_isFreePair_49 k_i_0 ?_
      exact j_zreturn (pc := 50) d_Model_isFreePair_50 rfl rfl
    · refine j_aload_n (pc := 29) (q := 0) d_Model_isFreePair_29 rfl rfl ?_
      refine j_getI (pc := 30) d_Model_isFreePair_30 fl_Model_302 sm_0 (by decide) rfl ?_
      refine j_aload_n (pc := 33) (q := 0) d_Model_isFreePair_33 rfl rfl ?_
      refine j_getA (pc := 34) d_Model_isFreePair_34 fl_Model_29 sm_0 (by decide) rfl ?_
      refine j_iload_n (pc := 37) (q := 1) d_Model_isFreePair_37 rfl rfl ?_
      refine j_iald (pc := 38) d_Model_isFreePair_38 sm_7 (fun _ => ?_)
      refine j_ishr (pc := 39) d_Model_isFreePair_39 ?_
      refine j_iconst (pc := 40) d_Model_isFreePair_40 k_i_1 ?_
      refine j_iand (pc := 41) d_Model_isFreePair_41 ?_
      refine j_if_ne (pc := 42) (tgt := 49) d_Model_isFreePair_42 (by decide) (fun _ => ?_) (fun _ => ?_)
      · refine j_iconst (pc := 49) d_Model_isFreePair_49 k_i_0 ?_
        exact j_zreturn (pc := 50) d_Model_isFreePair_50 rfl rfl
      · refine j_iconst (pc := 45) d_Model_isFreePair_45 k_i_1 ?_
        refine j_goto (pc := 46) (tgt := 50) d_Model_isFreePair_46 (by decide) ?_
        exact j_zreturn (pc := 50) d_Model_isFreePair_50 rfl rfl
-- Model.freeFrom (I)I
def mt_Model_freeFrom : Mt := ("ShakeHandsModel", b_Model_freeFrom, 3, some .int, 3, SHm)
theorem d_Model_freeFrom_0 : decode b_Model_freeFrom 0 = .ok (.iload_n 1, 1) := by decide +kernel
theorem d_Model_freeFrom_1 : decode b_Model_freeFrom 1 = .ok (.istore_n 2, 1) := by decide +kernel
theorem d_Model_freeFrom_2 : decode b_Model_freeFrom 2 = .ok (.iload_n 2, 1) := by decide +kernel
theorem d_Model_freeFrom_3 : decode b_Model_freeFrom 3 = .ok (.bipush 15, 2) := by decide +kernel
theorem d_Model_freeFrom_5 : decode b_Model_freeFrom 5 = .ok (.if_icmp .ge 17, 3) := by decide +kernel
theorem d_Model_freeFrom_8 : decode b_Model_freeFrom 8 = .ok (.aload_n 0, 1) := by decide +kernel
theorem d_Model_freeFrom_9 : decode b_Model_freeFrom 9 = .ok (.iload_n 2, 1) := by decide +kernel
theorem d_Model_freeFrom_10 : decode b_Model_freeFrom 10 = .ok (.invokevirtual 305, 3) := by decide +kernel
theorem d_Model_freeFrom_13 : decode b_Model_freeFrom 13 = .ok (.ifCond .ne 9, 3) := by decide +kernel
theorem d_Model_freeFrom_16 : decode b_Model_freeFrom 16 = .ok (.iinc 2 1, 3) := by decide +kernel
theorem d_Model_freeFrom_19 : decode b_Model_freeFrom 19 = .ok (.goto (-17), 3) := by decide +kernel
theorem d_Model_freeFrom_22 : decode b_Model_freeFrom 22 = .ok (.iload_n 2, 1) := by decide +kernel
theorem d_Model_freeFrom_23 : decode b_Model_freeFrom 23 = .ok (.ireturn, 1) := by decide +kernel
def X_Model_freeFrom_L2 (n : Nat) : Nat → Int32 → Mem → Option (Int32 × Mem)
    | 0, _, _ => none
    | m + 1, v2, M => (if 15 ≤ v2 then
    some (v2, M)
    else
    bd (X_Model_isFreePair n v2 M) fun r1 M2 =>
    (if r1 = 0 then
      X_Model_freeFrom_L2 n m (v2 + 1) M2
      else
      some (v2, M2)))
def X_Model_freeFrom (n : Nat) (p1 : Int32) (M : Mem) : Option (Int32 × Mem) :=
  X_Model_freeFrom_L2 n n p1 M
set_option maxRecDepth 20000 in
set_option maxHeartbeats 4000000 in
theorem X_Model_freeFrom_L2_ok {n : Nat} : ∀ (m : Nat) (v2 : Int32) (M : Mem), J (mt_Model_freeFrom) wI 2 [(0, Value.ref 0), (2, Value.int v2)] [] M (X_Model_freeFrom_L2 n m v2 M) := by
  intro m
  induction m with
  | zero => intro _ _; exact j_none
  | succ m ih =>
    intro v2 M
    show J _ _ _ _ _ _ ((if 15 ≤ v2 then
some (v2, M)
else
bd (X_Model_isFreePair n v2 M) fun r1 M2 =>
(if r1 = 0 then
X_Model_freeFrom_L2 n m (v2 + 1) M2
else
some (v2, M2))))
    refine j_iload_n (pc := 2) (q := 1) d_Model_freeFrom_2 rfl rfl ?_
    refine j_bipush (pc := 3) d_Model_freeFrom_3 k_b_15 ?_
    refine j_icmp_ge (pc := 5) (tgt := 22) d_Model_freeFrom_5 (by decide) (fun _ => ?_) (fun _ => ?_)
    · refine j_iload_n (pc := 22) (q := 1) d_Model_freeFrom_22 rfl rfl ?_
      exact j_ireturn (pc := 23) d_Model_freeFrom_23 rfl
    · refine j_aload_n (pc := 8) (q := 0) d_Model_freeFrom_8 rfl rfl ?_
      refine j_iload_n (pc := 9) (q := 1) d_Model_freeFrom_9 rfl rfl ?_
      refine j_callV1 (pc := 10) d_Model_freeFrom_10 (C_Model_isFreePair n v2 M) cV_Model_305 cd_Model_isFreePair dn_Model_isFreePair rfl (by decide) (Nat.le_of_ble_eq_true rfl) (Nat.le_of_ble_eq_true rfl) nr_I sm_0 (by decide) rfl (fun r1 M2 => ?_)
      refine j_if_ne (pc := 13) (tgt := 22) d_Model_freeFrom_13 (by decide) (fun _ => ?_) (fun _ => ?_)
      · refine j_iload_n (pc := 22) (q := 1) d_Model_freeFrom_22 rfl rfl ?_
        exact j_ireturn (pc := 23) d_Model_freeFrom_23 rfl
      · refine j_iinc (pc := 16) (q := 1) d_Model_freeFrom_16 rfl (congrArg (v2 + ·) k_i_1) (by decide) rfl ?_
        refine j_goto (pc := 19) (tgt := 2) d_Model_freeFrom_19 (by decide) ?_
        refine j_lv [1, 0] rfl ?_
        exact ih (v2 + 1) M2
set_option maxRecDepth 20000 in
set_option maxHeartbeats 4000000 in
theorem C_Model_freeFrom (n : Nat)   (p1 : Int32) (M : Mem) : Ct y_Model_freeFrom mt_Model_freeFrom wI [Value.ref 0, Value.int p1] M (X_Model_freeFrom n p1 M) := by
  refine ct_of (by decide +kernel) rfl (Nat.le_of_ble_eq_true rfl) ?_
  show J _ _ _ [(0, Value.ref 0), (1, Value.int p1)] _ _ _
  unfold X_Model_freeFrom
  refine j_iload_n (pc := 0) (q := 1) d_Model_freeFrom_0 rfl rfl ?_
  refine j_istore_n (pc := 1) d_Model_freeFrom_1 rfl (by decide) rfl ?_
  refine j_lv [1, 0] rfl ?_
  exact X_Model_freeFrom_L2_ok   n p1 M
-- Model.isSeen (I)Z
def mt_Model_isSeen : Mt := ("ShakeHandsModel", b_Model_isSeen, 4, some .boolean, 3, SHm)
theorem d_Model_isSeen_0 : decode b_Model_isSeen 0 = .ok (.iconst 1, 1) := by decide +kernel
theorem d_Model_isSeen_1 : decode b_Model_isSeen 1 = .ok (.istore_n 2, 1) := by decide +kernel
theorem d_Model_isSeen_2 : decode b_Model_isSeen 2 = .ok (.iconst 0, 1) := by decide +kernel
theorem d_Model_isSeen_3 : decode b_Model_isSeen 3 = .ok (.istore_n 3, 1) := by decide +kernel
theorem d_Model_isSeen_4 : decode b_Model_isSeen 4 = .ok (.iload_n 3, 1) := by decide +kernel
theorem d_Model_isSeen_5 : decode b_Model_isSeen 5 = .ok (.aload_n 0, 1) := by decide +kernel
theorem d_Model_isSeen_6 : decode b_Model_isSeen 6 = .ok (.getfield 119, 3) := by decide +kernel
theorem d_Model_isSeen_9 : decode b_Model_isSeen 9 = .ok (.if_icmp .ge 49, 3) := by decide +kernel
theorem d_Model_isSeen_12 : decode b_Model_isSeen 12 = .ok (.iload_n 2, 1) := by decide +kernel
theorem d_Model_isSeen_13 : decode b_Model_isSeen 13 = .ok (.ifCond .eq 37, 3) := by decide +kernel
theorem d_Model_isSeen_16 : decode b_Model_isSeen 16 = .ok (.aload_n 0, 1) := by decide +kernel
theorem d_Model_isSeen_17 : decode b_Model_isSeen 17 = .ok (.getfield 7, 3) := by decide +kernel
theorem d_Model_isSeen_20 : decode b_Model_isSeen 20 = .ok (.bipush 66, 2) := by decide +kernel
theorem d_Model_isSeen_22 : decode b_Model_isSeen 22 = .ok (.iload_n 3, 1) := by decide +kernel
theorem d_Model_isSeen_23 : decode b_Model_isSeen 23 = .ok (.iadd, 1) := by decide +kernel
theorem d_Model_isSeen_24 : decode b_Model_isSeen 24 = .ok (.iaload, 1) := by decide +kernel
theorem d_Model_isSeen_25 : decode b_Model_isSeen 25 = .ok (.ifCond .eq 21, 3) := by decide +kernel
theorem d_Model_isSeen_28 : decode b_Model_isSeen 28 = .ok (.aload_n 0, 1) := by decide +kernel
theorem d_Model_isSeen_29 : decode b_Model_isSeen 29 = .ok (.iload_n 1, 1) := by decide +kernel
theorem d_Model_isSeen_30 : decode b_Model_isSeen 30 = .ok (.iload_n 3, 1) := by decide +kernel
theorem d_Model_isSeen_31 : decode b_Model_isSeen 31 = .ok (.invokevirtual 251, 3) := by decide +kernel
theorem d_Model_isSeen_34 : decode b_Model_isSeen 34 = .ok (.aload_n 0, 1) := by decide +kernel
theorem d_Model_isSeen_35 : decode b_Model_isSeen 35 = .ok (.getfield 7, 3) := by decide +kernel
theorem d_Model_isSeen_38 : decode b_Model_isSeen 38 = .ok (.bipush 72, 2) := by decide +kernel
theorem d_Model_isSeen_40 : decode b_Model_isSeen 40 = .ok (.iload_n 3, 1) := by decide +kernel
theorem d_Model_isSeen_41 : decode b_Model_isSeen 41 = .ok (.iadd, 1) := by decide +kernel
theorem d_Model_isSeen_42 : decode b_Model_isSeen 42 = .ok (.iaload, 1) := by decide +kernel
theorem d_Model_isSeen_43 : decode b_Model_isSeen 43 = .ok (.if_icmp .ne 7, 3) := by decide +kernel
theorem d_Model_isSeen_46 : decode b_Model_isSeen 46 = .ok (.iconst 1, 1) := by decide +kernel
theorem d_Model_isSeen_47 : decode b_Model_isSeen 47 = .ok (.goto 4, 3) := by decide +kernel
theorem d_Model_isSeen_50 : decode b_Model_isSeen 50 = .ok (.iconst 0, 1) := by decide +kernel
theorem d_Model_isSeen_51 : decode b_Model_isSeen 51 = .ok (.istore_n 2, 1) := by decide +kernel
theorem d_Model_isSeen_52 : decode b_Model_isSeen 52 = .ok (.iinc 3 1, 3) := by decide +kernel
theorem d_Model_isSeen_55 : decode b_Model_isSeen 55 = .ok (.goto (-51), 3) := by decide +kernel
theorem d_Model_isSeen_58 : decode b_Model_isSeen 58 = .ok (.iload_n 2, 1) := by decide +kernel
theorem d_Model_isSeen_59 : decode b_Model_isSeen 59 = .ok (.ireturn, 1) := by decide +kernel
def X_Model_isSeen_L4 (n : Nat) (a1 : Int32) : Nat → Int32 → Int32 → Mem → Option (Int32 × Mem)
    | 0, _, _, _ => none
    | m + 1, v2, v3, M => (if (M.1 0 2) ≤ v3 then
    zr v2 M
    else
    nm (fun (u1 : Int32) (M2 : Mem) => (X_Model_isSeen_L4 n a1 m u1 (v3 + 1) M2 : Option (Int32 × Mem))) fun k51 =>
    (if v2 = 0 then
      k51 0 M
      else
      gd ((66 : Int32) + v3) 234 (
        (if (M.1 1 ((66 : Int32) + v3).toNatClampNeg) = 0 then
          k51 1 M
          else
          bd (X_Model_knowsIn n a1 v3 M) fun r3 M4 =>
          gd ((72 : Int32) + v3) 234 (
            (if r3 = (M4.1 1 ((72 : Int32) + v3).toNatClampNeg) then
              k51 1 M4
              else
              k51 0 M4))))))
def X_Model_isSeen (n : Nat) (p1 : Int32) (M : Mem) : Option (Int32 × Mem) :=
  X_Model_isSeen_L4 n p1 n 1 0 M
set_option maxRecDepth 20000 in
set_option maxHeartbeats 4000000 in
theorem X_Model_isSeen_L4_ok {n : Nat} {a1 : Int32} : ∀ (m : Nat) (v2 : Int32) (v3 : Int32) (M : Mem), J (mt_Model_isSeen) wI 4 [(0, Value.ref 0), (1, Value.int a1), (2, Value.int v2), (3, Value.int v3)] [] M (X_Model_isSeen_L4 n a1 m v2 v3 M) := by
  intro m
  induction m with
  | zero => intro _ _ _; exact j_none
  | succ m ih =>
    intro v2 v3 M
    show J _ _ _ _ _ _ ((if (M.1 0 2) ≤ v3 then
zr v2 M
else
nm (fun (u1 : Int32) (M2 : Mem) => (X_Model_isSeen_L4 n a1 m u1 (v3 + 1) M2 : Option (Int32 × Mem))) fun k51 =>
(if v2 = 0 then
k51 0 M
else
gd ((66 : Int32) + v3) 234 (
(if (M.1 1 ((66 : Int32) + v3).toNatClampNeg) = 0 then
k51 1 M
else
bd (X_Model_knowsIn n a1 v3 M) fun r3 M4 =>
gd ((72 : Int32) + v3) 234 (
(if r3 = (M4.1 1 ((72 : Int32) + v3).toNatClampNeg) then
k51 1 M4
else
k51 0 M4)))))))
    refine j_iload_n (pc := 4) (q := 3) d_Model_isSeen_4 rfl rfl ?_
    refine j_aload_n (pc := 5) (q := 0) d_Model_isSeen_5 rfl rfl ?_
    refine j_getI (pc := 6) d_Model_isSeen_6 fl_Model_119 sm_0 (by decide) rfl ?_
    refine j_icmp_ge (pc := 9) (tgt := 58) d_Model_isSeen_9 (by decide) (fun _ => ?_) (fun _ => ?_)
    · refine j_iload_n (pc := 58) (q := 2) d_Model_isSeen_58 rfl rfl ?_
      exact j_zr (pc := 59) d_Model_isSeen_59 rfl
    · refine j_iload_n (pc := 12) (q := 2) d_Model_isSeen_12 rfl rfl ?_
      refine j_nmk (fun k => ∀ (u1 : Int32) (M2 : Mem), J (mt_Model_isSeen) wI 51 [(0, Value.ref 0), (1, Value.int a1), (3, Value.int v3)] [Value.int u1] M2 (k u1 M2)) (fun u1 M2 => ?_) (fun k51 hk51 => ?_)
      · refine j_istore_n (pc := 51) d_Model_isSeen_51 rfl (by decide) rfl ?_
        refine j_iinc (pc := 52) (q := 3) d_Model_isSeen_52 rfl (congrArg (v3 + ·) k_i_1) (by decide) rfl ?_
        refine j_goto (pc := 55) (tgt := 4) d_Model_isSeen_55 (by decide) ?_
        refine j_lv [2, 3, 1, 0] rfl ?_
        exact ih u1 (v3 + 1) M2
      · refine j_if_eq (pc := 13) (tgt := 50) d_Model_isSeen_13 (by decide) (fun _ => ?_) (fun _ => ?_)
        · refine j_iconst (pc := 50) d_Model_isSeen_50 k_i_0 ?_
          refine j_lv [0, 1, 3] rfl ?_
          exact hk51 0 M
        · refine j_aload_n (pc := 16) (q := 0) d_Model_isSeen_16 rfl rfl ?_
          refine j_getA (pc := 17) d_Model_isSeen_17 fl_Model_7 sm_0 (by decide) rfl ?_
          refine j_bipush (pc := 20) d_Model_isSeen_20 k_b_66 ?_
          refine j_iload_n (pc := 22) (q := 3) d_Model_isSeen_22 rfl rfl ?_
          refine j_iadd (pc := 23) d_Model_isSeen_23 ?_
          refine j_iald (pc := 24) d_Model_isSeen_24 sm_1 (fun _ => ?_)
          refine j_if_eq (pc := 25) (tgt := 46) d_Model_isSeen_25 (by decide) (fun _ => ?_) (fun _ => ?_)
          · refine j_iconst (pc := 46) d_Model_isSeen_46 k_i_1 ?_
            refine j_goto (pc := 47) (tgt := 51) d_Model_isSeen_47 (by decide) ?_
            refine j_lv [0, 1, 3] rfl ?_
            exact hk51 1 M
          · refine j_aload_n (pc := 28) (q := 0) d_Model_isSeen_28 rfl rfl ?_
            refine j_iload_n (pc := 29) (q := 1) d_Model_isSeen_29 rfl rfl ?_
            refine j_iload_n (pc := 30) (q := 3) d_Model_isSeen_30 rfl rfl ?_
            refine j_callV2 (pc := 31) d_Model_isSeen_31 (C_Model_knowsIn n a1 v3 M) cV_Model_251 cd_Model_knowsIn dn_Model_knowsIn rfl (by decide) (Nat.le_of_ble_eq_true rfl) (Nat.le_of_ble_eq_true rfl) nr_I sm_0 (by decide) rfl (fun r3 M4 => ?_)
            refine j_aload_n (pc := 34) (q := 0) d_Model_isSeen_34 rfl rfl ?_
            refine j_getA (pc := 35) d_Model_isSeen_35 fl_Model_7 sm_0 (by decide) rfl ?_
            refine j_bipush (pc := 38) d_Model_isSeen_38 k_b_72 ?_
            refine j_iload_n (pc := 40) (q := 3) d_Model_isSeen_40 rfl rfl ?_
            refine j_iadd (pc := 41) d_Model_isSeen_41 ?_
            refine j_iald (pc := 42) d_Model_isSeen_42 sm_1 (fun _ => ?_)
            refine j_icmp_ne (pc := 43) (tgt := 50) d_Model_isSeen_43 (by decide) (fun _ => ?_) (fun _ => ?_)
            · refine j_iconst (pc := 50) d_Model_isSeen_50 k_i_0 ?_
              refine j_lv [0, 1, 3] rfl ?_
              exact hk51 0 M4
            · refine j_iconst (pc := 46) d_Model_isSeen_46 k_i_1 ?_
              refine j_goto (pc := 47) (tgt := 51) d_Model_isSeen_47 (by decide) ?_
              refine j_lv [0, 1, 3] rfl ?_
              exact hk51 1 M4
set_option maxRecDepth 20000 in
set_option maxHeartbeats 4000000 in
theorem C_Model_isSeen (n : Nat)   (p1 : Int32) (M : Mem) : Ct y_Model_isSeen mt_Model_isSeen wI [Value.ref 0, Value.int p1] M (X_Model_isSeen n p1 M) := by
  refine ct_of (by decide +kernel) rfl (Nat.le_of_ble_eq_true rfl) ?_
  show J _ _ _ [(0, Value.ref 0), (1, Value.int p1)] _ _ _
  unfold X_Model_isSeen
  refine j_iconst (pc := 0) d_Model_isSeen_0 k_i_1 ?_
  refine j_istore_n (pc := 1) d_Model_isSeen_1 rfl (by decide) rfl ?_
  refine j_iconst (pc := 2) d_Model_isSeen_2 k_i_0 ?_
  refine j_istore_n (pc := 3) d_Model_isSeen_3 rfl (by decide) rfl ?_
  refine j_lv [2, 3, 1, 0] rfl ?_
  exact X_Model_isSeen_L4_ok   n 1 0 M
-- Model.isGood (I)Z
def mt_Model_isGood : Mt := ("ShakeHandsModel", b_Model_isGood, 3, some .boolean, 4, SHm)
theorem d_Model_isGood_0 : decode b_Model_isGood 0 = .ok (.aload_n 0, 1) := by decide +kernel
theorem d_Model_isGood_1 : decode b_Model_isGood 1 = .ok (.getfield 308, 3) := by decide +kernel
theorem d_Model_isGood_4 : decode b_Model_isGood 4 = .ok (.iconst 2, 1) := by decide +kernel
theorem d_Model_isGood_5 : decode b_Model_isGood 5 = .ok (.if_icmp .ne 9, 3) := by decide +kernel
theorem d_Model_isGood_8 : decode b_Model_isGood 8 = .ok (.aload_n 0, 1) := by decide +kernel
theorem d_Model_isGood_9 : decode b_Model_isGood 9 = .ok (.iload_n 1, 1) := by decide +kernel
theorem d_Model_isGood_10 : decode b_Model_isGood 10 = .ok (.invokevirtual 317, 3) := by decide +kernel
theorem d_Model_isGood_13 : decode b_Model_isGood 13 = .ok (.ireturn, 1) := by decide +kernel
theorem d_Model_isGood_14 : decode b_Model_isGood 14 = .ok (.aload_n 0, 1) := by decide +kernel
theorem d_Model_isGood_15 : decode b_Model_isGood 15 = .ok (.iload_n 1, 1) := by decide +kernel
theorem d_Model_isGood_16 : decode b_Model_isGood 16 = .ok (.aload_n 0, 1) := by decide +kernel
theorem d_Model_isGood_17 : decode b_Model_isGood 17 = .ok (.getfield 311, 3) := by decide +kernel
theorem d_Model_isGood_20 : decode b_Model_isGood 20 = .ok (.invokevirtual 262, 3) := by decide +kernel
theorem d_Model_isGood_23 : decode b_Model_isGood 23 = .ok (.istore_n 2, 1) := by decide +kernel
theorem d_Model_isGood_24 : decode b_Model_isGood 24 = .ok (.aload_n 0, 1) := by decide +kernel
theorem d_Model_isGood_25 : decode b_Model_isGood 25 = .ok (.getfield 308, 3) := by decide +kernel
theorem d_Model_isGood_28 : decode b_Model_isGood 28 = .ok (.iconst 1, 1) := by decide +kernel
theorem d_Model_isGood_29 : decode b_Model_isGood 29 = .ok (.if_icmp .ne 15, 3) := by decide +kernel
theorem d_Model_isGood_32 : decode b_Model_isGood 32 = .ok (.iload_n 2, 1) := by decide +kernel
theorem d_Model_isGood_33 : decode b_Model_isGood 33 = .ok (.ifCond .ne 7, 3) := by decide +kernel
theorem d_Model_isGood_36 : decode b_Model_isGood 36 = .ok (.iconst 1, 1) := by decide +kernel
theorem d_Model_isGood_37 : decode b_Model_isGood 37 = .ok (.goto 25, 3) := by decide +kernel
theorem d_Model_isGood_40 : decode b_Model_isGood 40 = .ok (.iconst 0, 1) := by decide +kernel
theorem d_Model_isGood_41 : decode b_Model_isGood 41 = .ok (.goto 21, 3) := by decide +kernel
theorem d_Model_isGood_44 : decode b_Model_isGood 44 = .ok (.iload_n 2, 1) := by decide +kernel
theorem d_Model_isGood_45 : decode b_Model_isGood 45 = .ok (.aload_n 0, 1) := by decide +kernel
theorem d_Model_isGood_46 : decode b_Model_isGood 46 = .ok (.getfield 320, 3) := by decide +kernel
theorem d_Model_isGood_49 : decode b_Model_isGood 49 = .ok (.iand, 1) := by decide +kernel
theorem d_Model_isGood_50 : decode b_Model_isGood 50 = .ok (.aload_n 0, 1) := by decide +kernel
theorem d_Model_isGood_51 : decode b_Model_isGood 51 = .ok (.getfield 320, 3) := by decide +kernel
theorem d_Model_isGood_54 : decode b_Model_isGood 54 = .ok (.if_icmp .ne 7, 3) := by decide +kernel
theorem d_Model_isGood_57 : decode b_Model_isGood 57 = .ok (.iconst 1, 1) := by decide +kernel
theorem d_Model_isGood_58 : decode b_Model_isGood 58 = .ok (.goto 4, 3) := by decide +kernel
theorem d_Model_isGood_61 : decode b_Model_isGood 61 = .ok (.iconst 0, 1) := by decide +kernel
theorem d_Model_isGood_62 : decode b_Model_isGood 62 = .ok (.ireturn, 1) := by decide +kernel
def X_Model_isGood (n : Nat) (p1 : Int32) (M : Mem) : Option (Int32 × Mem) :=
  (if (M.1 0 39) = 2 then
    bd (X_Model_isSeen n p1 M) fun r3 M4 =>
    zr r3 M4
    else
    bd (X_Model_whoIn n p1 (M.1 0 40) M) fun r1 M2 =>
    (if (M2.1 0 39) = 1 then
      (if r1 = 0 then
        some (1, M2)
        else
        some (0, M2))
      else
      (if (r1 &&& (M2.1 0 41)) = (M2.1 0 41) then
        some (1, M2)
        else
        some (0, M2))))
set_option maxRecDepth 20000 in
set_option maxHeartbeats 4000000 in
theorem C_Model_isGood (n : Nat)   (p1 : Int32) (M : Mem) : Ct y_Model_isGood mt_Model_isGood wI [Value.ref 0, Value.int p1] M (X_Model_isGood n p1 M) := by
  refine ct_of (by decide +kernel) rfl (Nat.le_of_ble_eq_true rfl) ?_
  show J _ _ _ [(0, Value.ref 0), (1, Value.int p1)] _ _ _
  unfold X_Model_isGood
  refine j_aload_n (pc := 0) (q := 0) d_Model_isGood_0 rfl rfl ?_
  refine j_getI (pc := 1) d_Model_isGood_1 fl_Model_308 sm_0 (by decide) rfl ?_
  refine j_iconst (pc := 4) d_Model_isGood_4 k_i_2 ?_
  refine j_icmp_ne (pc := 5) (tgt := 14) d_Model_isGood_5 (by decide) (fun _ => ?_) (fun _ => ?_)
  · refine j_aload_n (pc := 14) (q := 0) d_Model_isGood_14 rfl rfl ?_
    refine j_iload_n (pc := 15) (q := 1) d_Model_isGood_15 rfl rfl ?_
    refine j_aload_n (pc := 16) (q := 0) d_Model_isGood_16 rfl rfl ?_
    refine j_getI (pc := 17) d_Model_isGood_17 fl_Model_311 sm_0 (by decide) rfl ?_
    refine j_callV2 (pc := 20) d_Model_isGood_20 (C_Model_whoIn n p1 (M.1 0 40) M) cV_Model_262 cd_Model_whoIn dn_Model_whoIn rfl (by decide) (Nat.le_of_ble_eq_true rfl) (Nat.le_of_ble_eq_true rfl) nr_I sm_0 (by decide) rfl (fun r1 M2 => ?_)
    refine j_istore_n (pc := 23) d_Model_isGood_23 rfl (by decide) rfl ?_
    refine j_aload_n (pc := 24) (q := 1) d_Model_isGood_24 rfl rfl ?_
    refine j_getI (pc := 25) d_Model_isGood_25 fl_Model_308 sm_0 (by decide) rfl ?_
    refine j_iconst (pc := 28) d_Model_isGood_28 k_i_1 ?_
    refine j_icmp_ne (pc := 29) (tgt := 44) d_Model_isGood_29 (by decide) (fun _ => ?_) (fun _ => ?_)
    · refine j_iload_n (pc := 44) (q := 0) d_Model_isGood_44 rfl rfl ?_
      refine j_aload_n (pc := 45) (q := 1) d_Model_isGood_45 rfl rfl ?_
      refine j_getI (pc := 46) d_Model_isGood_46 fl_Model_320 sm_0 (by decide) rfl ?_
      refine j_iand (pc := 49) d_Model_isGood_49 ?_
      refine j_aload_n (pc := 50) (q := 1) d_Model_isGood_50 rfl rfl ?_
      refine j_getI (pc := 51) d_Model_isGood_51 fl_Model_320 sm_0 (by decide) rfl ?_
      refine j_icmp_ne (pc := 54) (tgt := 61) d_Model_isGood_54 (by decide) (fun _ => ?_) (fun _ => ?_)
      · refine j_iconst (pc := 61) d_Model_isGood_61 k_i_0 ?_
        exact j_zreturn (pc := 62) d_Model_isGood_62 rfl rfl
      · refine j_iconst (pc := 57) d_Model_isGood_57 k_i_1 ?_
        refine j_goto (pc := 58) (tgt := 62) d_Model_isGood_58 (by decide) ?_
        exact j_zreturn (pc := 62) d_Model_isGood_62 rfl rfl
    · refine j_iload_n (pc := 32) (q := 0) d_Model_isGood_32 rfl rfl ?_
      refine j_if_ne (pc := 33) (tgt := 40) d_Model_isGood_33 (by decide) (fun _ => ?_) (fun _ => ?_)
      · refine j_iconst (pc := 40) d_Model_isGood_40 k_i_0 ?_
        refine j_goto (pc := 41) (tgt := 62) d_Model_isGood_41 (by decide) ?_
        exact j_zreturn (pc := 62) d_Model_isGood_62 rfl rfl
      · refine j_iconst (pc := 36) d_Model_isGood_36 k_i_1 ?_
        refine j_goto (pc := 37) (tgt := 62) d_Model_isGood_37 (by decide) ?_
        exact j_zreturn (pc := 62) d_Model_isGood_62 rfl rfl
  · refine j_aload_n (pc := 8) (q := 0) d_Model_isGood_8 rfl rfl ?_
    refine j_iload_n (pc := 9) (q := 1) d_Model_isGood_9 rfl rfl ?_
    refine j_callV1 (pc := 10) d_Model_isGood_10 (C_Model_isSeen n p1 M) cV_Model_317 cd_Model_isSeen dn_Model_isSeen rfl (by decide) (Nat.le_of_ble_eq_true rfl) (Nat.le_of_ble_eq_true rfl) nr_I sm_0 (by decide) rfl (fun r3 M4 => ?_)
    exact j_zr (pc := 13) d_Model_isGood_13 rfl
-- Model.isStill (I)Z
def mt_Model_isStill : Mt := ("ShakeHandsModel", b_Model_isStill, 2, some .boolean, 4, SHm)
theorem d_Model_isStill_0 : decode b_Model_isStill 0 = .ok (.aload_n 0, 1) := by decide +kernel
theorem d_Model_isStill_1 : decode b_Model_isStill 1 = .ok (.getfield 308, 3) := by decide +kernel
theorem d_Model_isStill_4 : decode b_Model_isStill 4 = .ok (.ifCond .ne 20, 3) := by decide +kernel
theorem d_Model_isStill_7 : decode b_Model_isStill 7 = .ok (.aload_n 0, 1) := by decide +kernel
theorem d_Model_isStill_8 : decode b_Model_isStill 8 = .ok (.iload_n 1, 1) := by decide +kernel
theorem d_Model_isStill_9 : decode b_Model_isStill 9 = .ok (.aload_n 0, 1) := by decide +kernel
theorem d_Model_isStill_10 : decode b_Model_isStill 10 = .ok (.getfield 311, 3) := by decide +kernel
theorem d_Model_isStill_13 : decode b_Model_isStill 13 = .ok (.invokevirtual 262, 3) := by decide +kernel
theorem d_Model_isStill_16 : decode b_Model_isStill 16 = .ok (.aload_n 0, 1) := by decide +kernel
theorem d_Model_isStill_17 : decode b_Model_isStill 17 = .ok (.getfield 314, 3) := by decide +kernel
theorem d_Model_isStill_20 : decode b_Model_isStill 20 = .ok (.iand, 1) := by decide +kernel
theorem d_Model_isStill_21 : decode b_Model_isStill 21 = .ok (.ifCond .ne 7, 3) := by decide +kernel
theorem d_Model_isStill_24 : decode b_Model_isStill 24 = .ok (.iconst 1, 1) := by decide +kernel
theorem d_Model_isStill_25 : decode b_Model_isStill 25 = .ok (.goto 4, 3) := by decide +kernel
theorem d_Model_isStill_28 : decode b_Model_isStill 28 = .ok (.iconst 0, 1) := by decide +kernel
theorem d_Model_isStill_29 : decode b_Model_isStill 29 = .ok (.ireturn, 1) := by decide +kernel
def X_Model_isStill (n : Nat) (p1 : Int32) (M : Mem) : Option (Int32 × Mem) :=
  (if (M.1 0 39) = 0 then
    bd (X_Model_whoIn n p1 (M.1 0 40) M) fun r1 M2 =>
    (if (r1 &&& (M2.1 0 42)) = 0 then
      some (1, M2)
      else
      some (0, M2))
    else
    some (1, M))
set_option maxRecDepth 20000 in
set_option maxHeartbeats 4000000 in
theorem C_Model_isStill (n : Nat)   (p1 : Int32) (M : Mem) : Ct y_Model_isStill mt_Model_isStill wI [Value.ref 0, Value.int p1] M (X_Model_isStill n p1 M) := by
  refine ct_of (by decide +kernel) rfl (Nat.le_of_ble_eq_true rfl) ?_
  show J _ _ _ [(0, Value.ref 0), (1, Value.int p1)] _ _ _
  unfold X_Model_isStill
  refine j_aload_n (pc := 0) (q := 0) d_Model_isStill_0 rfl rfl ?_
  refine j_getI (pc := 1) d_Model_isStill_1 fl_Model_308 sm_0 (by decide) rfl ?_
  refine j_if_ne (pc := 4) (tgt := 24) d_Model_isStill_4 (by decide) (fun _ => ?_) (fun _ => ?_)
  · refine j_iconst (pc := 24) d_Model_isStill_24 k_i_1 ?_
    refine j_goto (pc := 25) (tgt := 29) d_Model_isStill_25 (by decide) ?_
    exact j_zreturn (pc := 29) d_Model_isStill_29 rfl rfl
  · refine j_aload_n (pc := 7) (q := 0) d_Model_isStill_7 rfl rfl ?_
    refine j_iload_n (pc := 8) (q := 1) d_Model_isStill_8 rfl rfl ?_
    refine j_aload_n (pc := 9) (q := 0) d_Model_isStill_9 rfl rfl ?_
    refine j_getI (pc := 10) d_Model_isStill_10 fl_Model_311 sm_0 (by decide) rfl ?_
    refine j_callV2 (pc := 13) d_Model_isStill_13 (C_Model_whoIn n p1 (M.1 0 40) M) cV_Model_262 cd_Model_whoIn dn_Model_whoIn rfl (by decide) (Nat.le_of_ble_eq_true rfl) (Nat.le_of_ble_eq_true rfl) nr_I sm_0 (by decide) rfl (fun r1 M2 => ?_)
    refine j_aload_n (pc := 16) (q := 0) d_Model_isStill_16 rfl rfl ?_
    refine j_getI (pc := 17) d_Model_isStill_17 fl_Model_314 sm_0 (by decide) rfl ?_
    refine j_iand (pc := 20) d_Model_isStill_20 ?_
    refine j_if_ne (pc := 21) (tgt := 28) d_Model_isStill_21 (by decide) (fun _ => ?_) (fun _ => ?_)
    · refine j_iconst (pc := 28) d_Model_isStill_28 k_i_0 ?_
      exact j_zreturn (pc := 29) d_Model_isStill_29 rfl rfl
    · refine j_iconst (pc := 24) d_Model_isStill_24 k_i_1 ?_
      refine j_goto (pc := 25) (tgt := 29) d_Model_isStill_25 (by decide) ?_
      exact j_zreturn (pc := 29) d_Model_isStill_29 rfl rfl
-- Model.layRows (IZ)I
def mt_Model_layRows : Mt := ("ShakeHandsModel", b_Model_layRows, 5, some .int, 6, SHm)
theorem d_Model_layRows_0 : decode b_Model_layRows 0 = .ok (.aload_n 0, 1) := by decide +kernel
theorem d_Model_layRows_1 : decode b_Model_layRows 1 = .ok (.iconst 0, 1) := by decide +kernel
theorem d_Model_layRows_2 : decode b_Model_layRows 2 = .ok (.putfield 323, 3) := by decide +kernel
theorem d_Model_layRows_5 : decode b_Model_layRows 5 = .ok (.aload_n 0, 1) := by decide +kernel
theorem d_Model_layRows_6 : decode b_Model_layRows 6 = .ok (.iconst 0, 1) := by decide +kernel
theorem d_Model_layRows_7 : decode b_Model_layRows 7 = .ok (.putfield 326, 3) := by decide +kernel
theorem d_Model_layRows_10 : decode b_Model_layRows 10 = .ok (.aload_n 0, 1) := by decide +kernel
theorem d_Model_layRows_11 : decode b_Model_layRows 11 = .ok (.iconst 0, 1) := by decide +kernel
theorem d_Model_layRows_12 : decode b_Model_layRows 12 = .ok (.putfield 329, 3) := by decide +kernel
theorem d_Model_layRows_15 : decode b_Model_layRows 15 = .ok (.aload_n 0, 1) := by decide +kernel
theorem d_Model_layRows_16 : decode b_Model_layRows 16 = .ok (.aload_n 0, 1) := by decide +kernel
theorem d_Model_layRows_17 : decode b_Model_layRows 17 = .ok (.invokevirtual 221, 3) := by decide +kernel
theorem d_Model_layRows_20 : decode b_Model_layRows 20 = .ok (.putfield 302, 3) := by decide +kernel
theorem d_Model_layRows_23 : decode b_Model_layRows 23 = .ok (.aload_n 0, 1) := by decide +kernel
theorem d_Model_layRows_24 : decode b_Model_layRows 24 = .ok (.iconst 0, 1) := by decide +kernel
theorem d_Model_layRows_25 : decode b_Model_layRows 25 = .ok (.invokevirtual 256, 3) := by decide +kernel
theorem d_Model_layRows_28 : decode b_Model_layRows 28 = .ok (.aload_n 0, 1) := by decide +kernel
theorem d_Model_layRows_29 : decode b_Model_layRows 29 = .ok (.iconst 0, 1) := by decide +kernel
theorem d_Model_layRows_30 : decode b_Model_layRows 30 = .ok (.invokevirtual 332, 3) := by decide +kernel
theorem d_Model_layRows_33 : decode b_Model_layRows 33 = .ok (.ifCond .ne 5, 3) := by decide +kernel
theorem d_Model_layRows_36 : decode b_Model_layRows 36 = .ok (.iconst 0, 1) := by decide +kernel
theorem d_Model_layRows_37 : decode b_Model_layRows 37 = .ok (.ireturn, 1) := by decide +kernel
theorem d_Model_layRows_38 : decode b_Model_layRows 38 = .ok (.iload_n 1, 1) := by decide +kernel
theorem d_Model_layRows_39 : decode b_Model_layRows 39 = .ok (.ifCond .ne 21, 3) := by decide +kernel
theorem d_Model_layRows_42 : decode b_Model_layRows 42 = .ok (.aload_n 0, 1) := by decide +kernel
theorem d_Model_layRows_43 : decode b_Model_layRows 43 = .ok (.iconst 0, 1) := by decide +kernel
theorem d_Model_layRows_44 : decode b_Model_layRows 44 = .ok (.invokevirtual 335, 3) := by decide +kernel
theorem d_Model_layRows_47 : decode b_Model_layRows 47 = .ok (.ifCond .eq 8, 3) := by decide +kernel
theorem d_Model_layRows_50 : decode b_Model_layRows 50 = .ok (.aload_n 0, 1) := by decide +kernel
theorem d_Model_layRows_51 : decode b_Model_layRows 51 = .ok (.iconst 0, 1) := by decide +kernel
theorem d_Model_layRows_52 : decode b_Model_layRows 52 = .ok (.invokevirtual 338, 3) := by decide +kernel
theorem d_Model_layRows_55 : decode b_Model_layRows 55 = .ok (.aload_n 0, 1) := by decide +kernel
theorem d_Model_layRows_56 : decode b_Model_layRows 56 = .ok (.getfield 323, 3) := by decide +kernel
theorem d_Model_layRows_59 : decode b_Model_layRows 59 = .ok (.ireturn, 1) := by decide +kernel
theorem d_Model_layRows_60 : decode b_Model_layRows 60 = .ok (.iconst 0, 1) := by decide +kernel
theorem d_Model_layRows_61 : decode b_Model_layRows 61 = .ok (.istore_n 3, 1) := by decide +kernel
theorem d_Model_layRows_62 : decode b_Model_layRows 62 = .ok (.aload_n 0, 1) := by decide +kernel
theorem d_Model_layRows_63 : decode b_Model_layRows 63 = .ok (.getfield 59, 3) := by decide +kernel
theorem d_Model_layRows_66 : decode b_Model_layRows 66 = .ok (.iconst 0, 1) := by decide +kernel
theorem d_Model_layRows_67 : decode b_Model_layRows 67 = .ok (.aload_n 0, 1) := by decide +kernel
theorem d_Model_layRows_68 : decode b_Model_layRows 68 = .ok (.iconst 0, 1) := by decide +kernel
theorem d_Model_layRows_69 : decode b_Model_layRows 69 = .ok (.invokevirtual 341, 3) := by decide +kernel
theorem d_Model_layRows_72 : decode b_Model_layRows 72 = .ok (.iastore, 1) := by decide +kernel
theorem d_Model_layRows_73 : decode b_Model_layRows 73 = .ok (.iload_n 3, 1) := by decide +kernel
theorem d_Model_layRows_74 : decode b_Model_layRows 74 = .ok (.ifCond .lt 154, 3) := by decide +kernel
theorem d_Model_layRows_77 : decode b_Model_layRows 77 = .ok (.iload_n 2, 1) := by decide +kernel
theorem d_Model_layRows_78 : decode b_Model_layRows 78 = .ok (.ifCond .eq 10, 3) := by decide +kernel
theorem d_Model_layRows_81 : decode b_Model_layRows 81 = .ok (.aload_n 0, 1) := by decide +kernel
theorem d_Model_layRows_82 : decode b_Model_layRows 82 = .ok (.getfield 323, 3) := by decide +kernel
theorem d_Model_layRows_85 : decode b_Model_layRows 85 = .ok (.ifCond .gt 143, 3) := by decide +kernel
theorem d_Model_layRows_88 : decode b_Model_layRows 88 = .ok (.aload_n 0, 1) := by decide +kernel
theorem d_Model_layRows_89 : decode b_Model_layRows 89 = .ok (.getfield 59, 3) := by decide +kernel
theorem d_Model_layRows_92 : decode b_Model_layRows 92 = .ok (.iload_n 3, 1) := by decide +kernel
theorem d_Model_layRows_93 : decode b_Model_layRows 93 = .ok (.iaload, 1) := by decide +kernel
theorem d_Model_layRows_94 : decode b_Model_layRows 94 = .ok (.bipush 15, 2) := by decide +kernel
theorem d_Model_layRows_96 : decode b_Model_layRows 96 = .ok (.if_icmp .ne 31, 3) := by decide +kernel
theorem d_Model_layRows_99 : decode b_Model_layRows 99 = .ok (.iinc 3 (-1), 3) := by decide +kernel
theorem d_Model_layRows_102 : decode b_Model_layRows 102 = .ok (.iload_n 3, 1) := by decide +kernel
theorem d_Model_layRows_103 : decode b_Model_layRows 103 = .ok (.ifCond .lt (-30), 3) := by decide +kernel
theorem d_Model_layRows_106 : decode b_Model_layRows 106 = .ok (.aload_n 0, 1) := by decide +kernel
theorem d_Model_layRows_107 : decode b_Model_layRows 107 = .ok (.getfield 59, 3) := by decide +kernel
theorem d_Model_layRows_110 : decode b_Model_layRows 110 = .ok (.iload_n 3, 1) := by decide +kernel
theorem d_Model_layRows_111 : decode b_Model_layRows 111 = .ok (.aload_n 0, 1) := by decide +kernel
theorem d_Model_layRows_112 : decode b_Model_layRows 112 = .ok (.aload_n 0, 1) := by decide +kernel
theorem d_Model_layRows_113 : decode b_Model_layRows 113 = .ok (.getfield 59, 3) := by decide +kernel
theorem d_Model_layRows_116 : decode b_Model_layRows 116 = .ok (.iload_n 3, 1) := by decide +kernel
theorem d_Model_layRows_117 : decode b_Model_layRows 117 = .ok (.iaload, 1) := by decide +kernel
theorem d_Model_layRows_118 : decode b_Model_layRows 118 = .ok (.iconst 1, 1) := by decide +kernel
theorem d_Model_layRows_119 : decode b_Model_layRows 119 = .ok (.iadd, 1) := by decide +kernel
theorem d_Model_layRows_120 : decode b_Model_layRows 120 = .ok (.invokevirtual 341, 3) := by decide +kernel
theorem d_Model_layRows_123 : decode b_Model_layRows 123 = .ok (.iastore, 1) := by decide +kernel
theorem d_Model_layRows_124 : decode b_Model_layRows 124 = .ok (.goto (-51), 3) := by decide +kernel
theorem d_Model_layRows_127 : decode b_Model_layRows 127 = .ok (.aload_n 0, 1) := by decide +kernel
theorem d_Model_layRows_128 : decode b_Model_layRows 128 = .ok (.iload_n 3, 1) := by decide +kernel
theorem d_Model_layRows_129 : decode b_Model_layRows 129 = .ok (.iconst 1, 1) := by decide +kernel
theorem d_Model_layRows_130 : decode b_Model_layRows 130 = .ok (.iadd, 1) := by decide +kernel
theorem d_Model_layRows_131 : decode b_Model_layRows 131 = .ok (.iload_n 3, 1) := by decide +kernel
theorem d_Model_layRows_132 : decode b_Model_layRows 132 = .ok (.invokevirtual 344, 3) := by decide +kernel
theorem d_Model_layRows_135 : decode b_Model_layRows 135 = .ok (.aload_n 0, 1) := by decide +kernel
theorem d_Model_layRows_136 : decode b_Model_layRows 136 = .ok (.iload_n 3, 1) := by decide +kernel
theorem d_Model_layRows_137 : decode b_Model_layRows 137 = .ok (.iconst 1, 1) := by decide +kernel
theorem d_Model_layRows_138 : decode b_Model_layRows 138 = .ok (.iadd, 1) := by decide +kernel
theorem d_Model_layRows_139 : decode b_Model_layRows 139 = .ok (.aload_n 0, 1) := by decide +kernel
theorem d_Model_layRows_140 : decode b_Model_layRows 140 = .ok (.getfield 59, 3) := by decide +kernel
theorem d_Model_layRows_143 : decode b_Model_layRows 143 = .ok (.iload_n 3, 1) := by decide +kernel
theorem d_Model_layRows_144 : decode b_Model_layRows 144 = .ok (.iaload, 1) := by decide +kernel
theorem d_Model_layRows_145 : decode b_Model_layRows 145 = .ok (.iconst 0, 1) := by decide +kernel
theorem d_Model_layRows_146 : decode b_Model_layRows 146 = .ok (.invokevirtual 282, 3) := by decide +kernel
theorem d_Model_layRows_149 : decode b_Model_layRows 149 = .ok (.aload_n 0, 1) := by decide +kernel
theorem d_Model_layRows_150 : decode b_Model_layRows 150 = .ok (.iload_n 3, 1) := by decide +kernel
theorem d_Model_layRows_151 : decode b_Model_layRows 151 = .ok (.iconst 1, 1) := by decide +kernel
theorem d_Model_layRows_152 : decode b_Model_layRows 152 = .ok (.iadd, 1) := by decide +kernel
theorem d_Model_layRows_153 : decode b_Model_layRows 153 = .ok (.invokevirtual 332, 3) := by decide +kernel
theorem d_Model_layRows_156 : decode b_Model_layRows 156 = .ok (.istore 4, 2) := by decide +kernel
theorem d_Model_layRows_158 : decode b_Model_layRows 158 = .ok (.iload 4, 2) := by decide +kernel
theorem d_Model_layRows_160 : decode b_Model_layRows 160 = .ok (.ifCond .eq 27, 3) := by decide +kernel
theorem d_Model_layRows_163 : decode b_Model_layRows 163 = .ok (.iload_n 3, 1) := by decide +kernel
theorem d_Model_layRows_164 : decode b_Model_layRows 164 = .ok (.iconst 1, 1) := by decide +kernel
theorem d_Model_layRows_165 : decode b_Model_layRows 165 = .ok (.iadd, 1) := by decide +kernel
theorem d_Model_layRows_166 : decode b_Model_layRows 166 = .ok (.iload_n 1, 1) := by decide +kernel
theorem d_Model_layRows_167 : decode b_Model_layRows 167 = .ok (.if_icmp .ge 20, 3) := by decide +kernel
theorem d_Model_layRows_170 : decode b_Model_layRows 170 = .ok (.iinc 3 1, 3) := by decide +kernel
theorem d_Model_layRows_173 : decode b_Model_layRows 173 = .ok (.aload_n 0, 1) := by decide +kernel
theorem d_Model_layRows_174 : decode b_Model_layRows 174 = .ok (.getfield 59, 3) := by decide +kernel
theorem d_Model_layRows_177 : decode b_Model_layRows 177 = .ok (.iload_n 3, 1) := by decide +kernel
theorem d_Model_layRows_178 : decode b_Model_layRows 178 = .ok (.aload_n 0, 1) := by decide +kernel
theorem d_Model_layRows_179 : decode b_Model_layRows 179 = .ok (.iconst 0, 1) := by decide +kernel
theorem d_Model_layRows_180 : decode b_Model_layRows 180 = .ok (.invokevirtual 341, 3) := by decide +kernel
theorem d_Model_layRows_183 : decode b_Model_layRows 183 = .ok (.iastore, 1) := by decide +kernel
theorem d_Model_layRows_184 : decode b_Model_layRows 184 = .ok (.goto 41, 3) := by decide +kernel
theorem d_Model_layRows_187 : decode b_Model_layRows 187 = .ok (.iload 4, 2) := by decide +kernel
theorem d_Model_layRows_189 : decode b_Model_layRows 189 = .ok (.ifCond .eq 18, 3) := by decide +kernel
theorem d_Model_layRows_192 : decode b_Model_layRows 192 = .ok (.aload_n 0, 1) := by decide +kernel
theorem d_Model_layRows_193 : decode b_Model_layRows 193 = .ok (.iload_n 3, 1) := by decide +kernel
theorem d_Model_layRows_194 : decode b_Model_layRows 194 = .ok (.iconst 1, 1) := by decide +kernel
theorem d_Model_layRows_195 : decode b_Model_layRows 195 = .ok (.iadd, 1) := by decide +kernel
theorem d_Model_layRows_196 : decode b_Model_layRows 196 = .ok (.invokevirtual 335, 3) := by decide +kernel
theorem d_Model_layRows_199 : decode b_Model_layRows 199 = .ok (.ifCond .eq 8, 3) := by decide +kernel
theorem d_Model_layRows_202 : decode b_Model_layRows 202 = .ok (.aload_n 0, 1) := by decide +kernel
theorem d_Model_layRows_203 : decode b_Model_layRows 203 = .ok (.iload_n 1, 1) := by decide +kernel
theorem d_Model_layRows_204 : decode b_Model_layRows 204 = .ok (.invokevirtual 338, 3) := by decide +kernel
theorem d_Model_layRows_207 : decode b_Model_layRows 207 = .ok (.aload_n 0, 1) := by decide +kernel
theorem d_Model_layRows_208 : decode b_Model_layRows 208 = .ok (.getfield 59, 3) := by decide +kernel
theorem d_Model_layRows_211 : decode b_Model_layRows 211 = .ok (.iload_n 3, 1) := by decide +kernel
theorem d_Model_layRows_212 : decode b_Model_layRows 212 = .ok (.aload_n 0, 1) := by decide +kernel
theorem d_Model_layRows_213 : decode b_Model_layRows 213 = .ok (.aload_n 0, 1) := by decide +kernel
theorem d_Model_layRows_214 : decode b_Model_layRows 214 = .ok (.getfield 59, 3) := by decide +kernel
theorem d_Model_layRows_217 : decode b_Model_layRows 217 = .ok (.iload_n 3, 1) := by decide +kernel
theorem d_Model_layRows_218 : decode b_Model_layRows 218 = .ok (.iaload, 1) := by decide +kernel
theorem d_Model_layRows_219 : decode b_Model_layRows 219 = .ok (.iconst 1, 1) := by decide +kernel
theorem d_Model_layRows_220 : decode b_Model_layRows 220 = .ok (.iadd, 1) := by decide +kernel
theorem d_Model_layRows_221 : decode b_Model_layRows 221 = .ok (.invokevirtual 341, 3) := by decide +kernel
theorem d_Model_layRows_224 : decode b_Model_layRows 224 = .ok (.iastore, 1) := by decide +kernel
theorem d_Model_layRows_225 : decode b_Model_layRows 225 = .ok (.goto (-152), 3) := by decide +kernel
theorem d_Model_layRows_228 : decode b_Model_layRows 228 = .ok (.aload_n 0, 1) := by decide +kernel
theorem d_Model_layRows_229 : decode b_Model_layRows 229 = .ok (.getfield 323, 3) := by decide +kernel
theorem d_Model_layRows_232 : decode b_Model_layRows 232 = .ok (.ireturn, 1) := by decide +kernel
def X_Model_layRows_L73 (n : Nat) (a1 : Int32) (a2 : Int32) : Nat → Int32 → Mem → Option (Int32 × Mem)
    | 0, _, _ => none
    | m + 1, v3, M => (if v3 < 0 then
    some ((M.1 0 43), M)
    else
    nm (gd v3 4 (
        (if (M.1 17 v3.toNatClampNeg) = 15 then
          (if (v3 + (-1)) < 0 then
            X_Model_layRows_L73 n a1 a2 m (v3 + (-1)) M
            else
            gd (v3 + (-1)) 4 (
              bd (X_Model_freeFrom n ((M.1 17 (v3 + (-1)).toNatClampNeg) + 1) M) fun r28 M29 =>
              gd (v3 + (-1)) 4 (
                X_Model_layRows_L73 n a1 a2 m (v3 + (-1)) (si M29 17 ((v3 + (-1)).toNatClampNeg) r28))))
          else
          bd (X_Model_copies n (v3 + 1) v3 M) fun _ M12 =>
          gd v3 4 (
            bd (X_Model_shakes n (v3 + 1) (M12.1 17 v3.toNatClampNeg) 0 M12) fun _ M14 =>
            bd (X_Model_isStill n (v3 + 1) M14) fun r15 M16 =>
            nm (fun (z17 : Int32) (M18 : Mem) => (X_Model_layRows_L73 n a1 a2 m z17 M18 : Option (Int32 × Mem))) fun k225 =>
            nm (nm (fun (M19 : Mem) => (gd v3 4 (
                    bd (X_Model_freeFrom n ((M19.1 17 v3.toNatClampNeg) + 1) M19) fun r20 M21 =>
                    gd v3 4 (
                      k225 v3 (si M21 17 (v3.toNatClampNeg) r20))) : Option (Int32 × Mem))) fun k207 =>
              (if r15 = 0 then
                k207 M16
                else
                bd (X_Model_isGood n (v3 + 1) M16) fun r22 M23 =>
                (if r22 = 0 then
                  k207 M23
                  else
                  bd (X_Model_aRow n a1 M23) fun _ M25 =>
                  k207 M25)) : Option (Int32 × Mem)) fun k187 =>
            (if r15 = 0 then
              k187
              else
              (if a1 ≤ (v3 + 1) then
                k187
                else
                bd (X_Model_freeFrom n 0 M16) fun r26 M27 =>
                gd (v3 + 1) 4 (
                  k225 (v3 + 1) (si M27 17 ((v3 + 1).toNatClampNeg) r26))))))) : Option (Int32 × Mem)) fun k88 =>
    (if a2 = 0 then
      k88
      else
      (if 0 < (M.1 0 43) then
        some ((M.1 0 43), M)
        else
        k88)))
def X_Model_layRows (n : Nat) (p1 : Int32) (p2 : Int32) (M : Mem) : Option (Int32 × Mem) :=
  nm (si (si (si M 0 43 0) 0 44 0) 0 45 0) fun N1 =>
  bd (X_Model_worn n N1) fun r2 M3 =>
  nm (si M3 0 38 r2) fun N4 =>
  bd (X_Model_begins n 0 N4) fun _ M6 =>
  bd (X_Model_isStill n 0 M6) fun r7 M8 =>
  (if r7 = 0 then
    some (0, M8)
    else
    (if p1 = 0 then
      bd (X_Model_isGood n 0 M8) fun r30 M31 =>
      (if r30 = 0 then
        some ((M31.1 0 43), M31)
        else
        bd (X_Model_aRow n 0 M31) fun _ M33 =>
        some ((M33.1 0 43), M33))
      else
      bd (X_Model_freeFrom n 0 M8) fun r9 M10 =>
      gd (0 : Int32) 4 (
        X_Model_layRows_L73 n p1 p2 n 0 (si M10 17 ((0 : Int32).toNatClampNeg) r9))))
set_option maxRecDepth 20000 in
set_option maxHeartbeats 4000000 in
theorem X_Model_layRows_L73_ok {n : Nat} {a1 : Int32} {a2 : Int32} : ∀ (m : Nat) (v3 : Int32) (M : Mem), J (mt_Model_layRows) wI 73 [(0, Value.ref 0), (1, Value.int a1), (2, Value.int a2), (3, Value.int v3)] [] M (X_Model_layRows_L73 n a1 a2 m v3 M) := by
  intro m
  induction m with
  | zero => intro _ _; exact j_none
  | succ m ih =>
    intro v3 M
    show J _ _ _ _ _ _ ((if v3 < 0 then
some ((M.1 0 43), M)
else
nm (gd v3 4 (
(if (M.1 17 v3.toNatClampNeg) = 15 then
(if (v3 + (-1)) < 0 then
X_Model_layRows_L73 n a1 a2 m (v3 + (-1)) M
else
gd (v3 + (-1)) 4 (
bd (X_Model_freeFrom n ((M.1 17 (v3 + (-1)).toNatClampNeg) + 1) M) fun r28 M29 =>
gd (v3 + (-1)) 4 (
X_Model_layRows_L73 n a1 a2 m (v3 + (-1)) (si M29 17 ((v3 + (-1)).toNatClampNeg) r28))))
else
bd (X_Model_copies n (v3 + 1) v3 M) fun _ M12 =>
gd v3 4 (
bd (X_Model_shakes n (v3 + 1) (M12.1 17 v3.toNatClampNeg) 0 M12) fun _ M14 =>
bd (X_Model_isStill n (v3 + 1) M14) fun r15 M16 =>
nm (fun (z17 : Int32) (M18 : Mem) => (X_Model_layRows_L73 n a1 a2 m z17 M18 : Option (Int32 × Mem))) fun k225 =>
nm (nm (fun (M19 : Mem) => (gd v3 4 (
bd (X_Model_freeFrom n ((M19.1 17 v3.toNatClampNeg) + 1) M19) fun r20 M21 =>
gd v3 4 (
k225 v3 (si M21 17 (v3.toNatClampNeg) r20))) : Option (Int32 × Mem))) fun k207 =>
(if r15 = 0 then
k207 M16
else
bd (X_Model_isGood n (v3 + 1) M16) fun r22 M23 =>
(if r22 = 0 then
k207 M23
else
bd (X_Model_aRow n a1 M23) fun _ M25 =>
k207 M25)) : Option (Int32 × Mem)) fun k187 =>
(if r15 = 0 then
k187
else
(if a1 ≤ (v3 + 1) then
k187
else
bd (X_Model_freeFrom n 0 M16) fun r26 M27 =>
gd (v3 + 1) 4 (
k225 (v3 + 1) (si M27 17 ((v3 + 1).toNatClampNeg) r26))))))) : Option (Int32 × Mem)) fun k88 =>
(if a2 = 0 then
k88
else
(if 0 < (M.1 0 43) then
some ((M.1 0 43), M)
else
k88))))
    refine j_iload_n (pc := 73) (q := 3) d_Model_layRows_73 rfl rfl ?_
    refine j_if_lt (pc := 74) (tgt := 228) d_Model_layRows_74 (by decide) (fun _ => ?_) (fun _ => ?_)
    · refine j_aload_n (pc := 228) (q := 0) d_Model_layRows_228 rfl rfl ?_
      refine j_getI (pc := 229) d_Model_layRows_229 fl_Model_323 sm_0 (by decide) rfl ?_
      exact j_ireturn (pc := 232) d_Model_layRows_232 rfl
    · refine j_iload_n (pc := 77) (q := 2) d_Model_layRows_77 rfl rfl ?_
      refine j_nmk (fun k => J (mt_Model_layRows) wI 88 [(0, Value.ref 0), (1, Value.int a1), (2, Value.int a2), (3, Value.int v3)] [] M k) (?_) (fun k88 hk88 => ?_)
      · refine j_aload_n (pc := 88) (q := 0) d_Model_layRows_88 rfl rfl ?_
        refine j_getA (pc := 89) d_Model_layRows_89 fl_Model_59 sm_0 (by decide) rfl ?_
        refine j_iload_n (pc := 92) (q := 3) d_Model_layRows_92 rfl rfl ?_
        refine j_iald (pc := 93) d_Model_layRows_93 sm_17 (fun _ => ?_)
        refine j_bipush (pc := 94) d_Model_layRows_94 k_b_15 ?_
        refine j_icmp_ne (pc := 96) (tgt := 127) d_Model_layRows_96 (by decide) (fun _ => ?_) (fun _ => ?_)
        · refine j_aload_n (pc := 127) (q := 0) d_Model_layRows_127 rfl rfl ?_
          refine j_iload_n (pc := 128) (q := 3) d_Model_layRows_128 rfl rfl ?_
          refine j_iconst (pc := 129) d_Model_layRows_129 k_i_1 ?_
          refine j_iadd (pc := 130) d_Model_layRows_130 ?_
          refine j_iload_n (pc := 131) (q := 3) d_Model_layRows_131 rfl rfl ?_
          refine j_callV2 (pc := 132) d_Model_layRows_132 (C_Model_copies n (v3 + 1) v3 M) cV_Model_344 cd_Model_copies dn_Model_copies rfl (by decide) (Nat.le_of_ble_eq_true rfl) (Nat.le_of_ble_eq_true rfl) nr_U sm_0 (by decide) rfl (fun r11 M12 => ?_)
          refine j_aload_n (pc := 135) (q := 0) d_Model_layRows_135 rfl rfl ?_
          refine j_iload_n (pc := 136) (q := 3) d_Model_layRows_136 rfl rfl ?_
          refine j_iconst (pc := 137) d_Model_layRows_137 k_i_1 ?_
          refine j_iadd (pc := 138) d_Model_layRows_138 ?_
          refine j_aload_n (pc := 139) (q := 0) d_Model_layRows_139 rfl rfl ?_
          refine j_getA (pc := 140) d_Model_layRows_140 fl_Model_59 sm_0 (by decide) rfl ?_
          refine j_iload_n (pc := 143) (q := 3) d_Model_layRows_143 rfl rfl ?_
          refine j_iald (pc := 144) d_Model_layRows_144 sm_17 (fun _ => ?_)
          refine j_iconst (pc := 145) d_Model_layRows_145 k_i_0 ?_
          refine j_callV3 (pc := 146) d_Model_layRows_146 (C_Model_shakes n (v3 + 1) (M12.1 17 v3.toNatClampNeg) 0 M12) cV_Model_282 cd_Model_shakes dn_Model_shakes rfl (by decide) (Nat.le_of_ble_eq_true rfl) (Nat.le_of_ble_eq_true rfl) nr_U sm_0 (by decide) rfl (fun r13 M14 => ?_)
          refine j_aload_n (pc := 149) (q := 0) d_Model_layRows_149 rfl rfl ?_
          refine j_iload_n (pc := 150) (q := 3) d_Model_layRows_150 rfl rfl ?_
          refine j_iconst (pc := 151) d_Model_layRows_151 k_i_1 ?_
          refine j_iadd (pc := 152) d_Model_layRows_152 ?_
          refine j_callV1 (pc := 153) d_Model_layRows_153 (C_Model_isStill n (v3 + 1) M14) cV_Model_332 cd_Model_isStill dn_Model_isStill rfl (by decide) (Nat.le_of_ble_eq_true rfl) (Nat.le_of_ble_eq_true rfl) nr_I sm_0 (by decide) rfl (fun r15 M16 => ?_)
          refine j_istore (pc := 156) d_Model_layRows_156 (by decide) rfl ?_
          refine j_iload (pc := 158) (q := 0) d_Model_layRows_158 rfl ?_
          refine j_nmk (fun k => ∀ (z17 : Int32) (M18 : Mem), J (mt_Model_layRows) wI 225 [(0, Value.ref 0), (1, Value.int a1), (2, Value.int a2), (3, Value.int z17)] [] M18 (k z17 M18)) (fun z17 M18 => ?_) (fun k225 hk225 => ?_)
          · refine j_goto (pc := 225) (tgt := 73) d_Model_layRows_225 (by decide) ?_
            exact ih z17 M18
          · refine j_nmk (fun k => J (mt_Model_layRows) wI 187 [(0, Value.ref 0), (1, Value.int a1), (2, Value.int a2), (3, Value.int v3), (4, Value.int r15)] [] M16 k) (?_) (fun k187 hk187 => ?_)
            · refine j_iload (pc := 187) (q := 4) d_Model_layRows_187 rfl ?_
              refine j_nmk (fun k => ∀ (M19 : Mem), J (mt_Model_layRows) wI 207 [(0, Value.ref 0), (1, Value.int a1), (2, Value.int a2), (3, Value.int v3)] [] M19 (k M19)) (fun M19 => ?_) (fun k207 hk207 => ?_)
              · refine j_aload_n (pc := 207) (q := 0) d_Model_layRows_207 rfl rfl ?_
                refine j_getA (pc := 208) d_Model_layRows_208 fl_Model_59 sm_0 (by decide) rfl ?_
                refine j_iload_n (pc := 211) (q := 3) d_Model_layRows_211 rfl rfl ?_
                refine j_aload_n (pc := 212) (q := 0) d_Model_layRows_212 rfl rfl ?_
                refine j_aload_n (pc := 213) (q := 0) d_Model_layRows_213 rfl rfl ?_
                refine j_getA (pc := 214) d_Model_layRows_214 fl_Model_59 sm_0 (by decide) rfl ?_
                refine j_iload_n (pc := 217) (q := 3) d_Model_layRows_217 rfl rfl ?_
                refine j_iald (pc := 218) d_Model_layRows_218 sm_17 (fun _ => ?_)
                refine j_iconst (pc := 219) d_Model_layRows_219 k_i_1 ?_
                refine j_iadd (pc := 220) d_Model_layRows_220 ?_
                refine j_callV1 (pc := 221) d_Model_layRows_221 (C_Model_freeFrom n ((M19.1 17 v3.toNatClampNeg) + 1) M19) cV_Model_341 cd_Model_freeFrom dn_Model_freeFrom rfl (by decide) (Nat.le_of_ble_eq_true rfl) (Nat.le_of_ble_eq_true rfl) nr_I sm_0 (by decide) rfl (fun r20 M21 => ?_)
                refine j_iast (pc := 224) d_Model_layRows_224 sm_17 (fun _ => ?_)
                exact hk225 v3 (si M21 17 (v3.toNatClampNeg) r20)
              · refine j_if_eq (pc := 189) (tgt := 207) d_Model_layRows_189 (by decide) (fun _ => ?_) (fun _ => ?_)
                · refine j_lv [0, 1, 2, 3] rfl ?_
                  exact hk207 M16
                · refine j_aload_n (pc := 192) (q := 0) d_Model_layRows_192 rfl rfl ?_
                  refine j_iload_n (pc := 193) (q := 3) d_Model_layRows_193 rfl rfl ?_
                  refine j_iconst (pc := 194) d_Model_layRows_194 k_i_1 ?_
                  refine j_iadd (pc := 195) d_Model_layRows_195 ?_
                  refine j_callV1 (pc := 196) d_Model_layRows_196 (C_Model_isGood n (v3 + 1) M16) cV_Model_335 cd_Model_isGood dn_Model_isGood rfl (by decide) (Nat.le_of_ble_eq_true rfl) (Nat.le_of_ble_eq_true rfl) nr_I sm_0 (by decide) rfl (fun r22 M23 => ?_)
                  refine j_if_eq (pc := 199) (tgt := 207) d_Model_layRows_199 (by decide) (fun _ => ?_) (fun _ => ?_)
                  · refine j_lv [0, 1, 2, 3] rfl ?_
                    exact hk207 M23
                  · refine j_aload_n (pc := 202) (q := 0) d_Model_layRows_202 rfl rfl ?_
                    refine j_iload_n (pc := 203) (q := 1) d_Model_layRows_203 rfl rfl ?_
                    refine j_callV1 (pc := 204) d_Model_layRows_204 (C_Model_aRow n a1 M23) cV_Model_338 cd_Model_aRow dn_Model_aRow rfl (by decide) (Nat.le_of_ble_eq_true rfl) (Nat.le_of_ble_eq_true rfl) nr_U sm_0 (by decide) rfl (fun r24 M25 => ?_)
                    refine j_lv [0, 1, 2, 3] rfl ?_
                    exact hk207 M25
            · refine j_if_eq (pc := 160) (tgt := 187) d_Model_layRows_160 (by decide) (fun _ => ?_) (fun _ => ?_)
              · refine j_lv [1, 2, 3, 4, 0] rfl ?_
                exact hk187
              · refine j_iload_n (pc := 163) (q := 4) d_Model_layRows_163 rfl rfl ?_
                refine j_iconst (pc := 164) d_Model_layRows_164 k_i_1 ?_
                refine j_iadd (pc := 165) d_Model_layRows_165 ?_
                refine j_iload_n (pc := 166) (q := 2) d_Model_layRows_166 rfl rfl ?_
                refine j_icmp_ge (pc := 167) (tgt := 187) d_Model_layRows_167 (by decide) (fun _ => ?_) (fun _ => ?_)
                · refine j_lv [1, 2, 3, 4, 0] rfl ?_
                  exact hk187
                · refine j_iinc (pc := 170) (q := 4) d_Model_layRows_170 rfl (congrArg (v3 + ·) k_i_1) (by decide) rfl ?_
                  refine j_aload_n (pc := 173) (q := 2) d_Model_layRows_173 rfl rfl ?_
                  refine j_getA (pc := 174) d_Model_layRows_174 fl_Model_59 sm_0 (by decide) rfl ?_
                  refine j_iload_n (pc := 177) (q := 0) d_Model_layRows_177 rfl rfl ?_
                  refine j_aload_n (pc := 178) (q := 2) d_Model_layRows_178 rfl rfl ?_
                  refine j_iconst (pc := 179) d_Model_layRows_179 k_i_0 ?_
                  refine j_callV1 (pc := 180) d_Model_layRows_180 (C_Model_freeFrom n 0 M16) cV_Model_341 cd_Model_freeFrom dn_Model_freeFrom rfl (by decide) (Nat.le_of_ble_eq_true rfl) (Nat.le_of_ble_eq_true rfl) nr_I sm_0 (by decide) rfl (fun r26 M27 => ?_)
                  refine j_iast (pc := 183) d_Model_layRows_183 sm_17 (fun _ => ?_)
                  refine j_goto (pc := 184) (tgt := 225) d_Model_layRows_184 (by decide) ?_
                  refine j_lv [2, 3, 4, 0] rfl ?_
                  exact hk225 (v3 + 1) (si M27 17 ((v3 + 1).toNatClampNeg) r26)
        · refine j_iinc (pc := 99) (q := 3) d_Model_layRows_99 rfl (congrArg (v3 + ·) k_i_m1) (by decide) rfl ?_
          refine j_iload_n (pc := 102) (q := 0) d_Model_layRows_102 rfl rfl ?_
          refine j_if_lt (pc := 103) (tgt := 73) d_Model_layRows_103 (by decide) (fun _ => ?_) (fun _ => ?_)
          · refine j_lv [1, 2, 3, 0] rfl ?_
            exact ih (v3 + (-1)) M
          · refine j_aload_n (pc := 106) (q := 1) d_Model_layRows_106 rfl rfl ?_
            refine j_getA (pc := 107) d_Model_layRows_107 fl_Model_59 sm_0 (by decide) rfl ?_
            refine j_iload_n (pc := 110) (q := 0) d_Model_layRows_110 rfl rfl ?_
            refine j_aload_n (pc := 111) (q := 1) d_Model_layRows_111 rfl rfl ?_
            refine j_aload_n (pc := 112) (q := 1) d_Model_layRows_112 rfl rfl ?_
            refine j_getA (pc := 113) d_Model_layRows_113 fl_Model_59 sm_0 (by decide) rfl ?_
            refine j_iload_n (pc := 116) (q := 0) d_Model_layRows_116 rfl rfl ?_
            refine j_iald (pc := 117) d_Model_layRows_117 sm_17 (fun _ => ?_)
            refine j_iconst (pc := 118) d_Model_layRows_118 k_i_1 ?_
            refine j_iadd (pc := 119) d_Model_layRows_119 ?_
            refine j_callV1 (pc := 120) d_Model_layRows_120 (C_Model_freeFrom n ((M.1 17 (v3 + (-1)).toNatClampNeg) + 1) M) cV_Model_341 cd_Model_freeFrom dn_Model_freeFrom rfl (by decide) (Nat.le_of_ble_eq_true rfl) (Nat.le_of_ble_eq_true rfl) nr_I sm_0 (by decide) rfl (fun r28 M29 => ?_)
            refine j_iast (pc := 123) d_Model_layRows_123 sm_17 (fun _ => ?_)
            refine j_goto (pc := 124) (tgt := 73) d_Model_layRows_124 (by decide) ?_
            refine j_lv [1, 2, 3, 0] rfl ?_
            exact ih (v3 + (-1)) (si M29 17 ((v3 + (-1)).toNatClampNeg) r28)
      · refine j_if_eq (pc := 78) (tgt := 88) d_Model_layRows_78 (by decide) (fun _ => ?_) (fun _ => ?_)
        · exact hk88
        · refine j_aload_n (pc := 81) (q := 0) d_Model_layRows_81 rfl rfl ?_
          refine j_getI (pc := 82) d_Model_layRows_82 fl_Model_323 sm_0 (by decide) rfl ?_
          refine j_if_gt (pc := 85) (tgt := 228) d_Model_layRows_85 (by decide) (fun _ => ?_) (fun _ => ?_)
          · refine j_aload_n (pc := 228) (q := 0) d_Model_layRows_228 rfl rfl ?_
            refine j_getI (pc := 229) d_Model_layRows_229 fl_Model_323 sm_0 (by decide) rfl ?_
            exact j_ireturn (pc := 232) d_Model_layRows_232 rfl
          · exact hk88
set_option maxRecDepth 20000 in
set_option maxHeartbeats 4000000 in
theorem C_Model_layRows (n : Nat)   (p1 : Int32) (p2 : Int32) (M : Mem) : Ct y_Model_layRows mt_Model_layRows wI [Value.ref 0, Value.int p1, Value.int p2] M (X_Model_layRows n p1 p2 M) := by
  refine ct_of (by decide +kernel) rfl (Nat.le_of_ble_eq_true rfl) ?_
  show J _ _ _ [(0, Value.ref 0), (1, Value.int p1), (2, Value.int p2)] _ _ _
  unfold X_Model_layRows
  refine j_aload_n (pc := 0) (q := 0) d_Model_layRows_0 rfl rfl ?_
  refine j_iconst (pc := 1) d_Model_layRows_1 k_i_0 ?_
  refine j_putI (pc := 2) d_Model_layRows_2 fl_Model_323 rfl sm_0 (by decide) rfl ?_
  refine j_aload_n (pc := 5) (q := 0) d_Model_layRows_5 rfl rfl ?_
  refine j_iconst (pc := 6) d_Model_layRows_6 k_i_0 ?_
  refine j_putI (pc := 7) d_Model_layRows_7 fl_Model_326 rfl sm_0 (by decide) rfl ?_
  refine j_aload_n (pc := 10) (q := 0) d_Model_layRows_10 rfl rfl ?_
  refine j_iconst (pc := 11) d_Model_layRows_11 k_i_0 ?_
  refine j_putI (pc := 12) d_Model_layRows_12 fl_Model_329 rfl sm_0 (by decide) rfl ?_
  refine j_aload_n (pc := 15) (q := 0) d_Model_layRows_15 rfl rfl ?_
  refine j_aload_n (pc := 16) (q := 0) d_Model_layRows_16 rfl rfl ?_
  refine j_nmM (fun N1 => ?_)
  refine j_callV0 (pc := 17) d_Model_layRows_17 (C_Model_worn n N1) cV_Model_221 cd_Model_worn dn_Model_worn rfl (by decide) (Nat.le_of_ble_eq_true rfl) (Nat.le_of_ble_eq_true rfl) nr_I sm_0 (by decide) rfl (fun r2 M3 => ?_)
  refine j_putI (pc := 20) d_Model_layRows_20 fl_Model_302 rfl sm_0 (by decide) rfl ?_
  refine j_aload_n (pc := 23) (q := 0) d_Model_layRows_23 rfl rfl ?_
  refine j_iconst (pc := 24) d_Model_layRows_24 k_i_0 ?_
  refine j_nmM (fun N4 => ?_)
  refine j_callV1 (pc := 25) d_Model_layRows_25 (C_Model_begins n 0 N4) cV_Model_256 cd_Model_begins dn_Model_begins rfl (by decide) (Nat.le_of_ble_eq_true rfl) (Nat.le_of_ble_eq_true rfl) nr_U sm_0 (by decide) rfl (fun r5 M6 => ?_)
  refine j_aload_n (pc := 28) (q := 0) d_Model_layRows_28 rfl rfl ?_
  refine j_iconst (pc := 29) d_Model_layRows_29 k_i_0 ?_
  refine j_callV1 (pc := 30) d_Model_layRows_30 (C_Model_isStill n 0 M6) cV_Model_332 cd_Model_isStill dn_Model_isStill rfl (by decide) (Nat.le_of_ble_eq_true rfl) (Nat.le_of_ble_eq_true rfl) nr_I sm_0 (by decide) rfl (fun r7 M8 => ?_)
  refine j_if_ne (pc := 33) (tgt := 38) d_Model_layRows_33 (by decide) (fun _ => ?_) (fun _ => ?_)
  · refine j_iload_n (pc := 38) (q := 1) d_Model_layRows_38 rfl rfl ?_
    refine j_if_ne (pc := 39) (tgt := 60) d_Model_layRows_39 (by decide) (fun _ => ?_) (fun _ => ?_)
    · refine j_iconst (pc := 60) d_Model_layRows_60 k_i_0 ?_
      refine j_istore_n (pc := 61) d_Model_layRows_61 rfl (by decide) rfl ?_
      refine j_aload_n (pc := 62) (q := 1) d_Model_layRows_62 rfl rfl ?_
      refine j_getA (pc := 63) d_Model_layRows_63 fl_Model_59 sm_0 (by decide) rfl ?_
      refine j_iconst (pc := 66) d_Model_layRows_66 k_i_0 ?_
      refine j_aload_n (pc := 67) (q := 1) d_Model_layRows_67 rfl rfl ?_
      refine j_iconst (pc := 68) d_Model_layRows_68 k_i_0 ?_
      refine j_callV1 (pc := 69) d_Model_layRows_69 (C_Model_freeFrom n 0 M8) cV_Model_341 cd_Model_freeFrom dn_Model_freeFrom rfl (by decide) (Nat.le_of_ble_eq_true rfl) (Nat.le_of_ble_eq_true rfl) nr_I sm_0 (by decide) rfl (fun r9 M10 => ?_)
      refine j_iast (pc := 72) d_Model_layRows_72 sm_17 (fun _ => ?_)
      refine j_lv [1, 2, 3, 0] rfl ?_
      exact X_Model_layRows_L73_ok   n 0 (si M10 17 ((0 : Int32).toNatClampNeg) r9)
    · refine j_aload_n (pc := 42) (q := 0) d_Model_layRows_42 rfl rfl ?_
      refine j_iconst (pc := 43) d_Model_layRows_43 k_i_0 ?_
      refine j_callV1 (pc := 44) d_Model_layRows_44 (C_Model_isGood n 0 M8) cV_Model_335 cd_Model_isGood dn_Model_isGood rfl (by decide) (Nat.le_of_ble_eq_true rfl) (Nat.le_of_ble_eq_true rfl) nr_I sm_0 (by decide) rfl (fun r30 M31 => ?_)
      refine j_if_eq (pc := 47) (tgt := 55) d_Model_layRows_47 (by decide) (fun _ => ?_) (fun _ => ?_)
      · refine j_aload_n (pc := 55) (q := 0) d_Model_layRows_55 rfl rfl ?_
        refine j_getI (pc := 56) d_Model_layRows_56 fl_Model_323 sm_0 (by decide) rfl ?_
        exact j_ireturn (pc := 59) d_Model_layRows_59 rfl
      · refine j_aload_n (pc := 50) (q := 0) d_Model_layRows_50 rfl rfl ?_
        refine j_iconst (pc := 51) d_Model_layRows_51 k_i_0 ?_
        refine j_callV1 (pc := 52) d_Model_layRows_52 (C_Model_aRow n 0 M31) cV_Model_338 cd_Model_aRow dn_Model_aRow rfl (by decide) (Nat.le_of_ble_eq_true rfl) (Nat.le_of_ble_eq_true rfl) nr_U sm_0 (by decide) rfl (fun r32 M33 => ?_)
        refine j_aload_n (pc := 55) (q := 0) d_Model_layRows_55 rfl rfl ?_
        refine j_getI (pc := 56) d_Model_layRows_56 fl_Model_323 sm_0 (by decide) rfl ?_
        exact j_ireturn (pc := 59) d_Model_layRows_59 rfl
  · refine j_iconst (pc := 36) d_Model_layRows_36 k_i_0 ?_
    exact j_ireturn (pc := 37) d_Model_layRows_37 rfl
-- Model.fewestHands ()I
def mt_Model_fewestHands : Mt := ("ShakeHandsModel", b_Model_fewestHands, 2, some .int, 7, SHm)
theorem d_Model_fewestHands_0 : decode b_Model_fewestHands 0 = .ok (.iconst 0, 1) := by decide +kernel
theorem d_Model_fewestHands_1 : decode b_Model_fewestHands 1 = .ok (.istore_n 1, 1) := by decide +kernel
theorem d_Model_fewestHands_2 : decode b_Model_fewestHands 2 = .ok (.iload_n 1, 1) := by decide +kernel
theorem d_Model_fewestHands_3 : decode b_Model_fewestHands 3 = .ok (.iconst 4, 1) := by decide +kernel
theorem d_Model_fewestHands_4 : decode b_Model_fewestHands 4 = .ok (.if_icmp .gt 20, 3) := by decide +kernel
theorem d_Model_fewestHands_7 : decode b_Model_fewestHands 7 = .ok (.aload_n 0, 1) := by decide +kernel
theorem d_Model_fewestHands_8 : decode b_Model_fewestHands 8 = .ok (.iload_n 1, 1) := by decide +kernel
theorem d_Model_fewestHands_9 : decode b_Model_fewestHands 9 = .ok (.iconst 1, 1) := by decide +kernel
theorem d_Model_fewestHands_10 : decode b_Model_fewestHands 10 = .ok (.invokevirtual 347, 3) := by decide +kernel
theorem d_Model_fewestHands_13 : decode b_Model_fewestHands 13 = .ok (.ifCond .le 5, 3) := by decide +kernel
theorem d_Model_fewestHands_16 : decode b_Model_fewestHands 16 = .ok (.iload_n 1, 1) := by decide +kernel
theorem d_Model_fewestHands_17 : decode b_Model_fewestHands 17 = .ok (.ireturn, 1) := by decide +kernel
theorem d_Model_fewestHands_18 : decode b_Model_fewestHands 18 = .ok (.iinc 1 1, 3) := by decide +kernel
theorem d_Model_fewestHands_21 : decode b_Model_fewestHands 21 = .ok (.goto (-19), 3) := by decide +kernel
theorem d_Model_fewestHands_24 : decode b_Model_fewestHands 24 = .ok (.bipush (-4), 2) := by decide +kernel
theorem d_Model_fewestHands_26 : decode b_Model_fewestHands 26 = .ok (.ireturn, 1) := by decide +kernel
def X_Model_fewestHands_L2 (n : Nat) : Nat → Int32 → Mem → Option (Int32 × Mem)
    | 0, _, _ => none
    | m + 1, v1, M => (if 4 < v1 then
    some ((-4), M)
    else
    bd (X_Model_layRows n v1 1 M) fun r1 M2 =>
    (if r1 ≤ 0 then
      X_Model_fewestHands_L2 n m (v1 + 1) M2
      else
      some (v1, M2)))
def X_Model_fewestHands (n : Nat) (M : Mem) : Option (Int32 × Mem) :=
  X_Model_fewestHands_L2 n n 0 M
set_option maxRecDepth 20000 in
set_option maxHeartbeats 4000000 in
theorem X_Model_fewestHands_L2_ok {n : Nat} : ∀ (m : Nat) (v1 : Int32) (M : Mem), J (mt_Model_fewestHands) wI 2 [(0, Value.ref 0), (1, Value.int v1)] [] M (X_Model_fewestHands_L2 n m v1 M) := by
  intro m
  induction m with
  | zero => intro _ _; exact j_none
  | succ m ih =>
    intro v1 M
    show J _ _ _ _ _ _ ((if 4 < v1 then
some ((-4), M)
else
bd (X_Model_layRows n v1 1 M) fun r1 M2 =>
(if r1 ≤ 0 then
X_Model_fewestHands_L2 n m (v1 + 1) M2
else
some (v1, M2))))
    refine j_iload_n (pc := 2) (q := 1) d_Model_fewestHands_2 rfl rfl ?_
    refine j_iconst (pc := 3) d_Model_fewestHands_3 k_i_4 ?_
    refine j_icmp_gt (pc := 4) (tgt := 24) d_Model_fewestHands_4 (by decide) (fun _ => ?_) (fun _ => ?_)
    · refine j_bipush (pc := 24) d_Model_fewestHands_24 k_b_m4 ?_
      exact j_ireturn (pc := 26) d_Model_fewestHands_26 rfl
    · refine j_aload_n (pc := 7) (q := 0) d_Model_fewestHands_7 rfl rfl ?_
      refine j_iload_n (pc := 8) (q := 1) d_Model_fewestHands_8 rfl rfl ?_
      refine j_iconst (pc := 9) d_Model_fewestHands_9 k_i_1 ?_
      refine j_callV2 (pc := 10) d_Model_fewestHands_10 (C_Model_layRows n v1 1 M) cV_Model_347 cd_Model_layRows dn_Model_layRows rfl (by decide) (Nat.le_of_ble_eq_true rfl) (Nat.le_of_ble_eq_true rfl) nr_I sm_0 (by decide) rfl (fun r1 M2 => ?_)
      refine j_if_le (pc := 13) (tgt := 18) d_Model_fewestHands_13 (by decide) (fun _ => ?_) (fun _ => ?_)
      · refine j_iinc (pc := 18) (q := 1) d_Model_fewestHands_18 rfl (congrArg (v1 + ·) k_i_1) (by decide) rfl ?_
        refine j_goto (pc := 21) (tgt := 2) d_Model_fewestHands_21 (by decide) ?_
        refine j_lv [1, 0] rfl ?_
        exact ih (v1 + 1) M2
      · refine j_iload_n (pc := 16) (q := 1) d_Model_fewestHands_16 rfl rfl ?_
        exact j_ireturn (pc := 17) d_Model_fewestHands_17 rfl
set_option maxRecDepth 20000 in
set_option maxHeartbeats 4000000 in
theorem C_Model_fewestHands (n : Nat)    (M : Mem) : Ct y_Model_fewestHands mt_Model_fewestHands wI [Value.ref 0] M (X_Model_fewestHands n M) := by
  refine ct_of (by decide +kernel) rfl (Nat.le_of_ble_eq_true rfl) ?_
  show J _ _ _ [(0, Value.ref 0)] _ _ _
  unfold X_Model_fewestHands
  refine j_iconst (pc := 0) d_Model_fewestHands_0 k_i_0 ?_
  refine j_istore_n (pc := 1) d_Model_fewestHands_1 rfl (by decide) rfl ?_
  refine j_lv [1, 0] rfl ?_
  exact X_Model_fewestHands_L2_ok   n 0 M
-- Model.fewest (IIII)I
def mt_Model_fewest : Mt := ("ShakeHandsModel", b_Model_fewest, 6, some .int, 8, SHm)
theorem d_Model_fewest_0 : decode b_Model_fewest 0 = .ok (.iload_n 1, 1) := by decide +kernel
theorem d_Model_fewest_1 : decode b_Model_fewest 1 = .ok (.invokestatic 272, 3) := by decide +kernel
theorem d_Model_fewest_4 : decode b_Model_fewest 4 = .ok (.ifCond .eq 39, 3) := by decide +kernel
theorem d_Model_fewest_7 : decode b_Model_fewest 7 = .ok (.aload_n 0, 1) := by decide +kernel
theorem d_Model_fewest_8 : decode b_Model_fewest 8 = .ok (.iload_n 2, 1) := by decide +kernel
theorem d_Model_fewest_9 : decode b_Model_fewest 9 = .ok (.invokevirtual 351, 3) := by decide +kernel
theorem d_Model_fewest_12 : decode b_Model_fewest 12 = .ok (.ifCond .eq 31, 3) := by decide +kernel
theorem d_Model_fewest_15 : decode b_Model_fewest 15 = .ok (.aload_n 0, 1) := by decide +kernel
theorem d_Model_fewest_16 : decode b_Model_fewest 16 = .ok (.iload_n 3, 1) := by decide +kernel
theorem d_Model_fewest_17 : decode b_Model_fewest 17 = .ok (.invokevirtual 351, 3) := by decide +kernel
theorem d_Model_fewest_20 : decode b_Model_fewest 20 = .ok (.ifCond .eq 23, 3) := by decide +kernel
theorem d_Model_fewest_23 : decode b_Model_fewest 23 = .ok (.iload 4, 2) := by decide +kernel
theorem d_Model_fewest_25 : decode b_Model_fewest 25 = .ok (.ifCond .eq 20, 3) := by decide +kernel
theorem d_Model_fewest_28 : decode b_Model_fewest 28 = .ok (.iload 4, 2) := by decide +kernel
theorem d_Model_fewest_30 : decode b_Model_fewest 30 = .ok (.i2l, 1) := by decide +kernel
theorem d_Model_fewest_31 : decode b_Model_fewest 31 = .ok (.ldc2_w 354, 3) := by decide +kernel
theorem d_Model_fewest_34 : decode b_Model_fewest 34 = .ok (.ldc2_w 356, 3) := by decide +kernel
theorem d_Model_fewest_37 : decode b_Model_fewest 37 = .ok (.invokestatic 143, 3) := by decide +kernel
theorem d_Model_fewest_40 : decode b_Model_fewest 40 = .ok (.ifCond .ne 5, 3) := by decide +kernel
theorem d_Model_fewest_43 : decode b_Model_fewest 43 = .ok (.iconst (-1), 1) := by decide +kernel
theorem d_Model_fewest_44 : decode b_Model_fewest 44 = .ok (.ireturn, 1) := by decide +kernel
theorem d_Model_fewest_45 : decode b_Model_fewest 45 = .ok (.aload_n 0, 1) := by decide +kernel
theorem d_Model_fewest_46 : decode b_Model_fewest 46 = .ok (.iconst 0, 1) := by decide +kernel
theorem d_Model_fewest_47 : decode b_Model_fewest 47 = .ok (.iload_n 1, 1) := by decide +kernel
theorem d_Model_fewest_48 : decode b_Model_fewest 48 = .ok (.iload_n 2, 1) := by decide +kernel
theorem d_Model_fewest_49 : decode b_Model_fewest 49 = .ok (.iload_n 3, 1) := by decide +kernel
theorem d_Model_fewest_50 : decode b_Model_fewest 50 = .ok (.invokevirtual 358, 3) := by decide +kernel
theorem d_Model_fewest_53 : decode b_Model_fewest 53 = .ok (.aload_n 0, 1) := by decide +kernel
theorem d_Model_fewest_54 : decode b_Model_fewest 54 = .ok (.invokevirtual 362, 3) := by decide +kernel
theorem d_Model_fewest_57 : decode b_Model_fewest 57 = .ok (.istore 5, 2) := by decide +kernel
theorem d_Model_fewest_59 : decode b_Model_fewest 59 = .ok (.iload 5, 2) := by decide +kernel
theorem d_Model_fewest_61 : decode b_Model_fewest 61 = .ok (.bipush (-4), 2) := by decide +kernel
theorem d_Model_fewest_63 : decode b_Model_fewest 63 = .ok (.if_icmp .ne 8, 3) := by decide +kernel
theorem d_Model_fewest_66 : decode b_Model_fewest 66 = .ok (.bipush (-4), 2) := by decide +kernel
theorem d_Model_fewest_68 : decode b_Model_fewest 68 = .ok (.goto 38, 3) := by decide +kernel
theorem d_Model_fewest_71 : decode b_Model_fewest 71 = .ok (.iload 4, 2) := by decide +kernel
theorem d_Model_fewest_73 : decode b_Model_fewest 73 = .ok (.ifCond .ne 8, 3) := by decide +kernel
theorem d_Model_fewest_76 : decode b_Model_fewest 76 = .ok (.iload 5, 2) := by decide +kernel
theorem d_Model_fewest_78 : decode b_Model_fewest 78 = .ok (.goto 28, 3) := by decide +kernel
theorem d_Model_fewest_81 : decode b_Model_fewest 81 = .ok (.iload 4, 2) := by decide +kernel
theorem d_Model_fewest_83 : decode b_Model_fewest 83 = .ok (.bipush 10, 2) := by decide +kernel
theorem d_Model_fewest_85 : decode b_Model_fewest 85 = .ok (.isub, 1) := by decide +kernel
theorem d_Model_fewest_86 : decode b_Model_fewest 86 = .ok (.iload 5, 2) := by decide +kernel
theorem d_Model_fewest_88 : decode b_Model_fewest 88 = .ok (.if_icmp .ge 16, 3) := by decide +kernel
theorem d_Model_fewest_91 : decode b_Model_fewest 91 = .ok (.aload_n 0, 1) := by decide +kernel
theorem d_Model_fewest_92 : decode b_Model_fewest 92 = .ok (.getfield 62, 3) := by decide +kernel
theorem d_Model_fewest_95 : decode b_Model_fewest 95 = .ok (.iload 4, 2) := by decide +kernel
theorem d_Model_fewest_97 : decode b_Model_fewest 97 = .ok (.bipush 10, 2) := by decide +kernel
theorem d_Model_fewest_99 : decode b_Model_fewest 99 = .ok (.isub, 1) := by decide +kernel
theorem d_Model_fewest_100 : decode b_Model_fewest 100 = .ok (.iaload, 1) := by decide +kernel
theorem d_Model_fewest_101 : decode b_Model_fewest 101 = .ok (.goto 5, 3) := by decide +kernel
theorem d_Model_fewest_104 : decode b_Model_fewest 104 = .ok (.bipush (-4), 2) := by decide +kernel
theorem d_Model_fewest_106 : decode b_Model_fewest 106 = .ok (.ireturn, 1) := by decide +kernel
def X_Model_fewest (n : Nat) (p1 : Int32) (p2 : Int32) (p3 : Int32) (p4 : Int32) (M : Mem) : Option (Int32 × Mem) :=
  bd (X_Model_isThing n p1 M) fun r1 M2 =>
  (if r1 = 0 then
    some ((-1), M2)
    else
    bd (X_Model_areOnes n p2 M2) fun r3 M4 =>
    (if r3 = 0 then
      some ((-1), M4)
      else
      bd (X_Model_areOnes n p3 M4) fun r5 M6 =>
      (if r5 = 0 then
        some ((-1), M6)
        else
        nm (fun (M7 : Mem) => (bd (X_Model_asks n 0 p1 p2 p3 M7) fun _ M9 =>
            bd (X_Model_fewestHands n M9) fun r10 M11 =>
            (if r10 = (-4) then
              some ((-4), M11)
              else
              (if p4 = 0 then
                some (r10, M11)
                else
                (if r10 ≤ (p4 - 10) then
                  some ((-4), M11)
                  else
                  gd (p4 - 10) 4 (
                    some ((M11.1 18 (p4 - 10).toNatClampNeg), M11))))) : Option (Int32 × Mem))) fun k45 =>
        (if p4 = 0 then
          k45 M6
          else
          bd (X_Model_in n (p4.toInt64) 10 13 M6) fun r12 M13 =>
          (if r12 = 0 then
            some ((-1), M13)
            else
            k45 M13)))))
set_option maxRecDepth 20000 in
set_option maxHeartbeats 4000000 in
theorem C_Model_fewest (n : Nat)   (p1 : Int32) (p2 : Int32) (p3 : Int32) (p4 : Int32) (M : Mem) : Ct y_Model_fewest mt_Model_fewest wI [Value.ref 0, Value.int p1, Value.int p2, Value.int p3, Value.int p4] M (X_Model_fewest n p1 p2 p3 p4 M) := by
  refine ct_of (by decide +kernel) rfl (Nat.le_of_ble_eq_true rfl) ?_
  show J _ _ _ [(0, Value.ref 0), (1, Value.int p1), (2, Value.int p2), (3, Value.int p3), (4, Value.int p4)] _ _ _
  unfold X_Model_fewest
  refine j_iload_n (pc := 0) (q := 1) d_Model_fewest_0 rfl rfl ?_
  refine j_callS1 (pc := 1) d_Model_fewest_1 (C_Model_isThing n p1 M) cS_Model_272 cd_Model_isThing dn_Model_isThing rfl (by decide) (Nat.le_of_ble_eq_true rfl) (Nat.le_of_ble_eq_true rfl) nr_I (fun r1 M2 => ?_)
  refine j_if_eq (pc := 4) (tgt := 43) d_Model_fewest_4 (by decide) (fun _ => ?_) (fun _ => ?_)
  · refine j_iconst (pc := 43) d_Model_fewest_43 k_i_m1 ?_
    exact j_ireturn (pc := 44) d_Model_fewest_44 rfl
  · refine j_aload_n (pc := 7) (q := 0) d_Model_fewest_7 rfl rfl ?_
    refine j_iload_n (pc := 8) (q := 2) d_Model_fewest_8 rfl rfl ?_
    refine j_callV1 (pc := 9) d_Model_fewest_9 (C_Model_areOnes n p2 M2) cV_Model_351 cd_Model_areOnes dn_Model_areOnes rfl (by decide) (Nat.le_of_ble_eq_true rfl) (Nat.le_of_ble_eq_true rfl) nr_I sm_0 (by decide) rfl (fun r3 M4 => ?_)
    refine j_if_eq (pc := 12) (tgt := 43) d_Model_fewest_12 (by decide) (fun _ => ?_) (fun _ => ?_)
    · refine j_iconst (pc := 43) d_Model_fewest_43 k_i_m1 ?_
      exact j_ireturn (pc := 44) d_Model_fewest_44 rfl
    · refine j_aload_n (pc := 15) (q := 0) d_Model_fewest_15 rfl rfl ?_
      refine j_iload_n (pc := 16) (q := 3) d_Model_fewest_16 rfl rfl ?_
      refine j_callV1 (pc := 17) d_Model_fewest_17 (C_Model_areOnes n p3 M4) cV_Model_351 cd_Model_areOnes dn_Model_areOnes rfl (by decide) (Nat.le_of_ble_eq_true rfl) (Nat.le_of_ble_eq_true rfl) nr_I sm_0 (by decide) rfl (fun r5 M6 => ?_)
      refine j_if_eq (pc := 20) (tgt := 43) d_Model_fewest_20 (by decide) (fun _ => ?_) (fun _ => ?_)
      · refine j_iconst (pc := 43) d_Model_fewest_43 k_i_m1 ?_
        exact j_ireturn (pc := 44) d_Model_fewest_44 rfl
      · refine j_iload (pc := 23) (q := 4) d_Model_fewest_23 rfl ?_
        refine j_nmk (fun k => ∀ (M7 : Mem), J (mt_Model_fewest) wI 45 [(0, Value.ref 0), (1, Value.int p1), (2, Value.int p2), (3, Value.int p3), (4, Value.int p4)] [] M7 (k M7)) (fun M7 => ?_) (fun k45 hk45 => ?_)
        · refine j_aload_n (pc := 45) (q := 0) d_Model_fewest_45 rfl rfl ?_
          refine j_iconst (pc := 46) d_Model_fewest_46 k_i_0 ?_
          refine j_iload_n (pc := 47) (q := 1) d_Model_fewest_47 rfl rfl ?_
          refine j_iload_n (pc := 48) (q := 2) d_Model_fewest_48 rfl rfl ?_
          refine j_iload_n (pc := 49) (q := 3) d_Model_fewest_49 rfl rfl ?_
          refine j_callV4 (pc := 50) d_Model_fewest_50 (C_Model_asks n 0 p1 p2 p3 M7) cV_Model_358 cd_Model_asks dn_Model_asks rfl (by decide) (Nat.le_of_ble_eq_true rfl) (Nat.le_of_ble_eq_true rfl) nr_U sm_0 (by decide) rfl (fun r8 M9 => ?_)
          refine j_aload_n (pc := 53) (q := 0) d_Model_fewest_53 rfl rfl ?_
          refine j_callV0 (pc := 54) d_Model_fewest_54 (C_Model_fewestHands n M9) cV_Model_362 cd_Model_fewestHands dn_Model_fewestHands rfl (by decide) (Nat.le_of_ble_eq_true rfl) (Nat.le_of_ble_eq_true rfl) nr_I sm_0 (by decide) rfl (fun r10 M11 => ?_)
          refine j_istore (pc := 57) d_Model_fewest_57 (by decide) rfl ?_
          refine j_iload (pc := 59) (q := 0) d_Model_fewest_59 rfl ?_
          refine j_bipush (pc := 61) d_Model_fewest_61 k_b_m4 ?_
          refine j_icmp_ne (pc := 63) (tgt := 71) d_Model_fewest_63 (by decide) (fun _ => ?_) (fun _ => ?_)
          · refine j_iload (pc := 71) (q := 5) d_Model_fewest_71 rfl ?_
            refine j_if_ne (pc := 73) (tgt := 81) d_Model_fewest_73 (by decide) (fun _ => ?_) (fun _ => ?_)
            · refine j_iload (pc := 81) (q := 5) d_Model_fewest_81 rfl ?_
              refine j_bipush (pc := 83) d_Model_fewest_83 k_b_10 ?_
              refine j_isub (pc := 85) d_Model_fewest_85 ?_
              refine j_iload (pc := 86) (q := 0) d_Model_fewest_86 rfl ?_
              refine j_icmp_ge (pc := 88) (tgt := 104) d_Model_fewest_88 (by decide) (fun _ => ?_) (fun _ => ?_)
              · refine j_bipush (pc := 104) d_Model_fewest_104 k_b_m4 ?_
                exact j_ireturn (pc := 106) d_Model_fewest_106 rfl
              · refine j_aload_n (pc := 91) (q := 1) d_Model_fewest_91 rfl rfl ?_
                refine j_getA (pc := 92) d_Model_fewest_92 fl_Model_62 sm_0 (by decide) rfl ?_
                refine j_iload (pc := 95) (q := 5) d_Model_fewest_95 rfl ?_
                refine j_bipush (pc := 97) d_Model_fewest_97 k_b_10 ?_
                refine j_isub (pc := 99) d_Model_fewest_99 ?_
                refine j_iald (pc := 100) d_Model_fewest_100 sm_18 (fun _ => ?_)
                refine j_goto (pc := 101) (tgt := 106) d_Model_fewest_101 (by decide) ?_
                exact j_ireturn (pc := 106) d_Model_fewest_106 rfl
            · refine j_iload (pc := 76) (q := 0) d_Model_fewest_76 rfl ?_
              refine j_goto (pc := 78) (tgt := 106) d_Model_fewest_78 (by decide) ?_
              exact j_ireturn (pc := 106) d_Model_fewest_106 rfl
          · refine j_bipush (pc := 66) d_Model_fewest_66 k_b_m4 ?_
            refine j_goto (pc := 68) (tgt := 106) d_Model_fewest_68 (by decide) ?_
            exact j_ireturn (pc := 106) d_Model_fewest_106 rfl
        · refine j_if_eq (pc := 25) (tgt := 45) d_Model_fewest_25 (by decide) (fun _ => ?_) (fun _ => ?_)
          · exact hk45 M6
          · refine j_iload (pc := 28) (q := 4) d_Model_fewest_28 rfl ?_
            refine j_i2l (pc := 30) d_Model_fewest_30 ?_
            refine j_ldc2 (pc := 31) d_Model_fewest_31 cl_Model_354 ?_
            refine j_ldc2 (pc := 34) d_Model_fewest_34 cl_Model_356 ?_
            refine j_callS3 (pc := 37) d_Model_fewest_37 (C_Model_in n (p4.toInt64) 10 13 M6) cS_Model_143 cd_Model_in dn_Model_in rfl (by decide) (Nat.le_of_ble_eq_true rfl) (Nat.le_of_ble_eq_true rfl) nr_I (fun r12 M13 => ?_)
            refine j_if_ne (pc := 40) (tgt := 45) d_Model_fewest_40 (by decide) (fun _ => ?_) (fun _ => ?_)
            · exact hk45 M13
            · refine j_iconst (pc := 43) d_Model_fewest_43 k_i_m1 ?_
              exact j_ireturn (pc := 44) d_Model_fewest_44 rfl
-- Model.goesRound (II)V
def mt_Model_goesRound : Mt := ("ShakeHandsModel", b_Model_goesRound, 4, none, 6, SHm)
theorem d_Model_goesRound_0 : decode b_Model_goesRound 0 = .ok (.aload_n 0, 1) := by decide +kernel
theorem d_Model_goesRound_1 : decode b_Model_goesRound 1 = .ok (.iload_n 1, 1) := by decide +kernel
theorem d_Model_goesRound_2 : decode b_Model_goesRound 2 = .ok (.iload_n 1, 1) := by decide +kernel
theorem d_Model_goesRound_3 : decode b_Model_goesRound 3 = .ok (.iconst 1, 1) := by decide +kernel
theorem d_Model_goesRound_4 : decode b_Model_goesRound 4 = .ok (.isub, 1) := by decide +kernel
theorem d_Model_goesRound_5 : decode b_Model_goesRound 5 = .ok (.invokevirtual 344, 3) := by decide +kernel
theorem d_Model_goesRound_8 : decode b_Model_goesRound 8 = .ok (.iconst 0, 1) := by decide +kernel
theorem d_Model_goesRound_9 : decode b_Model_goesRound 9 = .ok (.istore_n 3, 1) := by decide +kernel
theorem d_Model_goesRound_10 : decode b_Model_goesRound 10 = .ok (.iload_n 3, 1) := by decide +kernel
theorem d_Model_goesRound_11 : decode b_Model_goesRound 11 = .ok (.bipush 15, 2) := by decide +kernel
theorem d_Model_goesRound_13 : decode b_Model_goesRound 13 = .ok (.if_icmp .ge 25, 3) := by decide +kernel
theorem d_Model_goesRound_16 : decode b_Model_goesRound 16 = .ok (.iload_n 2, 1) := by decide +kernel
theorem d_Model_goesRound_17 : decode b_Model_goesRound 17 = .ok (.iload_n 3, 1) := by decide +kernel
theorem d_Model_goesRound_18 : decode b_Model_goesRound 18 = .ok (.ishr, 1) := by decide +kernel
theorem d_Model_goesRound_19 : decode b_Model_goesRound 19 = .ok (.iconst 1, 1) := by decide +kernel
theorem d_Model_goesRound_20 : decode b_Model_goesRound 20 = .ok (.iand, 1) := by decide +kernel
theorem d_Model_goesRound_21 : decode b_Model_goesRound 21 = .ok (.iconst 1, 1) := by decide +kernel
theorem d_Model_goesRound_22 : decode b_Model_goesRound 22 = .ok (.if_icmp .ne 10, 3) := by decide +kernel
theorem d_Model_goesRound_25 : decode b_Model_goesRound 25 = .ok (.aload_n 0, 1) := by decide +kernel
theorem d_Model_goesRound_26 : decode b_Model_goesRound 26 = .ok (.iload_n 1, 1) := by decide +kernel
theorem d_Model_goesRound_27 : decode b_Model_goesRound 27 = .ok (.iload_n 3, 1) := by decide +kernel
theorem d_Model_goesRound_28 : decode b_Model_goesRound 28 = .ok (.iconst 0, 1) := by decide +kernel
theorem d_Model_goesRound_29 : decode b_Model_goesRound 29 = .ok (.invokevirtual 282, 3) := by decide +kernel
theorem d_Model_goesRound_32 : decode b_Model_goesRound 32 = .ok (.iinc 3 1, 3) := by decide +kernel
theorem d_Model_goesRound_35 : decode b_Model_goesRound 35 = .ok (.goto (-25), 3) := by decide +kernel
theorem d_Model_goesRound_38 : decode b_Model_goesRound 38 = .ok (.return_, 1) := by decide +kernel
def X_Model_goesRound_L10 (n : Nat) (a1 : Int32) (a2 : Int32) : Nat → Int32 → Mem → Option (Unit × Mem)
    | 0, _, _ => none
    | m + 1, v3, M => (if 15 ≤ v3 then
    some ((), M)
    else
    nm (fun (M3 : Mem) => (X_Model_goesRound_L10 n a1 a2 m (v3 + 1) M3 : Option (Unit × Mem))) fun k32 =>
    (if ((a2 >>> (v3 &&& 31)) &&& 1) = 1 then
      bd (X_Model_shakes n a1 v3 0 M) fun _ M5 =>
      k32 M5
      else
      k32 M))
def X_Model_goesRound (n : Nat) (p1 : Int32) (p2 : Int32) (M : Mem) : Option (Unit × Mem) :=
  bd (X_Model_copies n p1 (p1 - 1) M) fun _ M2 =>
  X_Model_goesRound_L10 n p1 p2 n 0 M2
set_option maxRecDepth 20000 in
set_option maxHeartbeats 4000000 in
theorem X_Model_goesRound_L10_ok {n : Nat} {a1 : Int32} {a2 : Int32} : ∀ (m : Nat) (v3 : Int32) (M : Mem), J (mt_Model_goesRound) wU 10 [(0, Value.ref 0), (1, Value.int a1), (2, Value.int a2), (3, Value.int v3)] [] M (X_Model_goesRound_L10 n a1 a2 m v3 M) := by
  intro m
  induction m with
  | zero => intro _ _; exact j_none
  | succ m ih =>
    intro v3 M
    show J _ _ _ _ _ _ ((if 15 ≤ v3 then
some ((), M)
else
nm (fun (M3 : Mem) => (X_Model_goesRound_L10 n a1 a2 m (v3 + 1) M3 : Option (Unit × Mem))) fun k32 =>
(if ((a2 >>> (v3 &&& 31)) &&& 1) = 1 then
bd (X_Model_shakes n a1 v3 0 M) fun _ M5 =>
k32 M5
else
k32 M)))
    refine j_iload_n (pc := 10) (q := 3) d_Model_goesRound_10 rfl rfl ?_
    refine j_bipush (pc := 11) d_Model_goesRound_11 k_b_15 ?_
    refine j_icmp_ge (pc := 13) (tgt := 38) d_Model_goesRound_13 (by decide) (fun _ => ?_) (fun _ => ?_)
    · exact j_return (pc := 38) d_Model_goesRound_38 rfl
    · refine j_iload_n (pc := 16) (q := 2) d_Model_goesRound_16 rfl rfl ?_
      refine j_iload_n (pc := 17) (q := 3) d_Model_goesRound_17 rfl rfl ?_
      refine j_ishr (pc := 18) d_Model_goesRound_18 ?_
      refine j_iconst (pc := 19) d_Model_goesRound_19 k_i_1 ?_
      refine j_iand (pc := 20) d_Model_goesRound_20 ?_
      refine j_iconst (pc := 21) d_Model_goesRound_21 k_i_1 ?_
      refine j_nmk (fun k => ∀ (M3 : Mem), J (mt_Model_goesRound) wU 32 [(0, Value.ref 0), (1, Value.int a1), (2, Value.int a2), (3, Value.int v3)] [] M3 (k M3)) (fun M3 => ?_) (fun k32 hk32 => ?_)
      · refine j_iinc (pc := 32) (q := 3) d_Model_goesRound_32 rfl (congrArg (v3 + ·) k_i_1) (by decide) rfl ?_
        refine j_goto (pc := 35) (tgt := 10) d_Model_goesRound_35 (by decide) ?_
        refine j_lv [1, 2, 3, 0] rfl ?_
        exact ih (v3 + 1) M3
      · refine j_icmp_ne (pc := 22) (tgt := 32) d_Model_goesRound_22 (by decide) (fun _ => ?_) (fun _ => ?_)
        · exact hk32 M
        · refine j_aload_n (pc := 25) (q := 0) d_Model_goesRound_25 rfl rfl ?_
          refine j_iload_n (pc := 26) (q := 1) d_Model_goesRound_26 rfl rfl ?_
          refine j_iload_n (pc := 27) (q := 3) d_Model_goesRound_27 rfl rfl ?_
          refine j_iconst (pc := 28) d_Model_goesRound_28 k_i_0 ?_
          refine j_callV3 (pc := 29) d_Model_goesRound_29 (C_Model_shakes n a1 v3 0 M) cV_Model_282 cd_Model_shakes dn_Model_shakes rfl (by decide) (Nat.le_of_ble_eq_true rfl) (Nat.le_of_ble_eq_true rfl) nr_U sm_0 (by decide) rfl (fun r4 M5 => ?_)
          exact hk32 M5
set_option maxRecDepth 20000 in
set_option maxHeartbeats 4000000 in
theorem C_Model_goesRound (n : Nat)   (p1 : Int32) (p2 : Int32) (M : Mem) : Ct y_Model_goesRound mt_Model_goesRound wU [Value.ref 0, Value.int p1, Value.int p2] M (X_Model_goesRound n p1 p2 M) := by
  refine ct_of (by decide +kernel) rfl (Nat.le_of_ble_eq_true rfl) ?_
  show J _ _ _ [(0, Value.ref 0), (1, Value.int p1), (2, Value.int p2)] _ _ _
  unfold X_Model_goesRound
  refine j_aload_n (pc := 0) (q := 0) d_Model_goesRound_0 rfl rfl ?_
  refine j_iload_n (pc := 1) (q := 1) d_Model_goesRound_1 rfl rfl ?_
  refine j_iload_n (pc := 2) (q := 1) d_Model_goesRound_2 rfl rfl ?_
  refine j_iconst (pc := 3) d_Model_goesRound_3 k_i_1 ?_
  refine j_isub (pc := 4) d_Model_goesRound_4 ?_
  refine j_callV2 (pc := 5) d_Model_goesRound_5 (C_Model_copies n p1 (p1 - 1) M) cV_Model_344 cd_Model_copies dn_Model_copies rfl (by decide) (Nat.le_of_ble_eq_true rfl) (Nat.le_of_ble_eq_true rfl) nr_U sm_0 (by decide) rfl (fun r1 M2 => ?_)
  refine j_iconst (pc := 8) d_Model_goesRound_8 k_i_0 ?_
  refine j_istore_n (pc := 9) d_Model_goesRound_9 rfl (by decide) rfl ?_
  refine j_lv [1, 2, 3, 0] rfl ?_
  exact X_Model_goesRound_L10_ok   n 0 M2
-- Model.isRound (I)Z
def mt_Model_isRound : Mt := ("ShakeHandsModel", b_Model_isRound, 5, some .boolean, 3, SHm)
theorem d_Model_isRound_0 : decode b_Model_isRound 0 = .ok (.iconst 0, 1) := by decide +kernel
theorem d_Model_isRound_1 : decode b_Model_isRound 1 = .ok (.istore_n 2, 1) := by decide +kernel
theorem d_Model_isRound_2 : decode b_Model_isRound 2 = .ok (.iconst 0, 1) := by decide +kernel
theorem d_Model_isRound_3 : decode b_Model_isRound 3 = .ok (.istore_n 3, 1) := by decide +kernel
theorem d_Model_isRound_4 : decode b_Model_isRound 4 = .ok (.iload_n 3, 1) := by decide +kernel
theorem d_Model_isRound_5 : decode b_Model_isRound 5 = .ok (.bipush 15, 2) := by decide +kernel
theorem d_Model_isRound_7 : decode b_Model_isRound 7 = .ok (.if_icmp .ge 59, 3) := by decide +kernel
theorem d_Model_isRound_10 : decode b_Model_isRound 10 = .ok (.iload_n 1, 1) := by decide +kernel
theorem d_Model_isRound_11 : decode b_Model_isRound 11 = .ok (.iload_n 3, 1) := by decide +kernel
theorem d_Model_isRound_12 : decode b_Model_isRound 12 = .ok (.ishr, 1) := by decide +kernel
theorem d_Model_isRound_13 : decode b_Model_isRound 13 = .ok (.iconst 1, 1) := by decide +kernel
theorem d_Model_isRound_14 : decode b_Model_isRound 14 = .ok (.iand, 1) := by decide +kernel
theorem d_Model_isRound_15 : decode b_Model_isRound 15 = .ok (.iconst 1, 1) := by decide +kernel
theorem d_Model_isRound_16 : decode b_Model_isRound 16 = .ok (.if_icmp .ne 44, 3) := by decide +kernel
theorem d_Model_isRound_19 : decode b_Model_isRound 19 = .ok (.iconst 1, 1) := by decide +kernel
theorem d_Model_isRound_20 : decode b_Model_isRound 20 = .ok (.aload_n 0, 1) := by decide +kernel
theorem d_Model_isRound_21 : decode b_Model_isRound 21 = .ok (.getfield 26, 3) := by decide +kernel
theorem d_Model_isRound_24 : decode b_Model_isRound 24 = .ok (.iload_n 3, 1) := by decide +kernel
theorem d_Model_isRound_25 : decode b_Model_isRound 25 = .ok (.iaload, 1) := by decide +kernel
theorem d_Model_isRound_26 : decode b_Model_isRound 26 = .ok (.ishl, 1) := by decide +kernel
theorem d_Model_isRound_27 : decode b_Model_isRound 27 = .ok (.iconst 1, 1) := by decide +kernel
theorem d_Model_isRound_28 : decode b_Model_isRound 28 = .ok (.aload_n 0, 1) := by decide +kernel
theorem d_Model_isRound_29 : decode b_Model_isRound 29 = .ok (.getfield 29, 3) := by decide +kernel
theorem d_Model_isRound_32 : decode b_Model_isRound 32 = .ok (.iload_n 3, 1) := by decide +kernel
theorem d_Model_isRound_33 : decode b_Model_isRound 33 = .ok (.iaload, 1) := by decide +kernel
theorem d_Model_isRound_34 : decode b_Model_isRound 34 = .ok (.ishl, 1) := by decide +kernel
theorem d_Model_isRound_35 : decode b_Model_isRound 35 = .ok (.ior, 1) := by decide +kernel
theorem d_Model_isRound_36 : decode b_Model_isRound 36 = .ok (.istore 4, 2) := by decide +kernel
theorem d_Model_isRound_38 : decode b_Model_isRound 38 = .ok (.aload_n 0, 1) := by decide +kernel
theorem d_Model_isRound_39 : decode b_Model_isRound 39 = .ok (.iload_n 3, 1) := by decide +kernel
theorem d_Model_isRound_40 : decode b_Model_isRound 40 = .ok (.invokevirtual 305, 3) := by decide +kernel
theorem d_Model_isRound_43 : decode b_Model_isRound 43 = .ok (.ifCond .eq 10, 3) := by decide +kernel
theorem d_Model_isRound_46 : decode b_Model_isRound 46 = .ok (.iload_n 2, 1) := by decide +kernel
theorem d_Model_isRound_47 : decode b_Model_isRound 47 = .ok (.iload 4, 2) := by decide +kernel
theorem d_Model_isRound_49 : decode b_Model_isRound 49 = .ok (.iand, 1) := by decide +kernel
theorem d_Model_isRound_50 : decode b_Model_isRound 50 = .ok (.ifCond .eq 5, 3) := by decide +kernel
theorem d_Model_isRound_53 : decode b_Model_isRound 53 = .ok (.iconst 0, 1) := by decide +kernel
theorem d_Model_isRound_54 : decode b_Model_isRound 54 = .ok (.ireturn, 1) := by decide +kernel
theorem d_Model_isRound_55 : decode b_Model_isRound 55 = .ok (.iload_n 2, 1) := by decide +kernel
theorem d_Model_isRound_56 : decode b_Model_isRound 56 = .ok (.iload 4, 2) := by decide +kernel
theorem d_Model_isRound_58 : decode b_Model_isRound 58 = .ok (.ior, 1) := by decide +kernel
theorem d_Model_isRound_59 : decode b_Model_isRound 59 = .ok (.istore_n 2, 1) := by decide +kernel
theorem d_Model_isRound_60 : decode b_Model_isRound 60 = .ok (.iinc 3 1, 3) := by decide +kernel
theorem d_Model_isRound_63 : decode b_Model_isRound 63 = .ok (.goto (-59), 3) := by decide +kernel
theorem d_Model_isRound_66 : decode b_Model_isRound 66 = .ok (.iload_n 1, 1) := by decide +kernel
theorem d_Model_isRound_67 : decode b_Model_isRound 67 = .ok (.ifCond .eq 7, 3) := by decide +kernel
theorem d_Model_isRound_70 : decode b_Model_isRound 70 = .ok (.iconst 1, 1) := by decide +kernel
theorem d_Model_isRound_71 : decode b_Model_isRound 71 = .ok (.goto 4, 3) := by decide +kernel
theorem d_Model_isRound_74 : decode b_Model_isRound 74 = .ok (.iconst 0, 1) := by decide +kernel
theorem d_Model_isRound_75 : decode b_Model_isRound 75 = .ok (.ireturn, 1) := by decide +kernel
def X_Model_isRound_L4 (n : Nat) (a1 : Int32) (kx66 : Mem → Option (Int32 × Mem)) : Nat → Int32 → Int32 → Mem → Option (Int32 × Mem)
    | 0, _, _, _ => none
    | m + 1, v2, v3, M => (if 15 ≤ v3 then
    kx66 M
    else
    nm (fun (z1 : Int32) (M2 : Mem) => (X_Model_isRound_L4 n a1 kx66 m z1 (v3 + 1) M2 : Option (Int32 × Mem))) fun k60 =>
    (if ((a1 >>> (v3 &&& 31)) &&& 1) = 1 then
      gd v3 15 (
        gd v3 15 (
          nm (((1 : Int32) <<< ((M.1 6 v3.toNatClampNeg) &&& 31)) ||| ((1 : Int32) <<< ((M.1 7 v3.toNatClampNeg) &&& 31))) fun x3 =>
          bd (X_Model_isFreePair n v3 M) fun r4 M5 =>
          (if r4 = 0 then
            some (0, M5)
            else
            (if (v2 &&& x3) = 0 then
              nm (v2 ||| x3) fun x6 =>
              k60 x6 M5
              else
              some (0, M5)))))
      else
      k60 v2 M))
def X_Model_isRound (n : Nat) (p1 : Int32) (M : Mem) : Option (Int32 × Mem) :=
  X_Model_isRound_L4 n p1 (fun M7 => (if p1 = 0 then
      some (0, M7)
      else
      some (1, M7))) n 0 0 M
set_option maxRecDepth 20000 in
set_option maxHeartbeats 4000000 in
theorem X_Model_isRound_L4_ok {n : Nat} {a1 : Int32} {kx66 : Mem → Option (Int32 × Mem)} (hkx66 : ∀ (M : Mem), J (mt_Model_isRound) wI 66 [(1, Value.int a1)] [] M (kx66 M)) : ∀ (m : Nat) (v2 : Int32) (v3 : Int32) (M : Mem), J (mt_Model_isRound) wI 4 [(0, Value.ref 0), (1, Value.int a1), (2, Value.int v2), (3, Value.int v3)] [] M (X_Model_isRound_L4 n a1 kx66 m v2 v3 M) := by
  intro m
  induction m with
  | zero => intro _ _ _; exact j_none
  | succ m ih =>
    intro v2 v3 M
    show J _ _ _ _ _ _ ((if 15 ≤ v3 then
kx66 M
else
nm (fun (z1 : Int32) (M2 : Mem) => (X_Model_isRound_L4 n a1 kx66 m z1 (v3 + 1) M2 : Option (Int32 × Mem))) fun k60 =>
(if ((a1 >>> (v3 &&& 31)) &&& 1) = 1 then
gd v3 15 (
gd v3 15 (
nm (((1 : Int32) <<< ((M.1 6 v3.toNatClampNeg) &&& 31)) ||| ((1 : Int32) <<< ((M.1 7 v3.toNatClampNeg) &&& 31))) fun x3 =>
bd (X_Model_isFreePair n v3 M) fun r4 M5 =>
(if r4 = 0 then
some (0, M5)
else
(if (v2 &&& x3) = 0 then
nm (v2 ||| x3) fun x6 =>
k60 x6 M5
else
some (0, M5)))))
else
k60 v2 M)))
    refine j_iload_n (pc := 4) (q := 3) d_Model_isRound_4 rfl rfl ?_
    refine j_bipush (pc := 5) d_Model_isRound_5 k_b_15 ?_
    refine j_icmp_ge (pc := 7) (tgt := 66) d_Model_isRound_7 (by decide) (fun _ => ?_) (fun _ => ?_)
    · refine j_lv [1] rfl ?_
      exact hkx66 M
    · refine j_iload_n (pc := 10) (q := 1) d_Model_isRound_10 rfl rfl ?_
      refine j_iload_n (pc := 11) (q := 3) d_Model_isRound_11 rfl rfl ?_
      refine j_ishr (pc := 12) d_Model_isRound_12 ?_
      refine j_iconst (pc := 13) d_Model_isRound_13 k_i_1 ?_
      refine j_iand (pc := 14) d_Model_isRound_14 ?_
      refine j_iconst (pc := 15) d_Model_isRound_15 k_i_1 ?_
      refine j_nmk (fun k => ∀ (z1 : Int32) (M2 : Mem), J (mt_Model_isRound) wI 60 [(0, Value.ref 0), (1, Value.int a1), (2, Value.int z1), (3, Value.int v3)] [] M2 (k z1 M2)) (fun z1 M2 => ?_) (fun k60 hk60 => ?_)
      · refine j_iinc (pc := 60) (q := 3) d_Model_isRound_60 rfl (congrArg (v3 + ·) k_i_1) (by decide) rfl ?_
        refine j_goto (pc := 63) (tgt := 4) d_Model_isRound_63 (by decide) ?_
        refine j_lv [1, 2, 3, 0] rfl ?_
        exact ih z1 (v3 + 1) M2
      · refine j_icmp_ne (pc := 16) (tgt := 60) d_Model_isRound_16 (by decide) (fun _ => ?_) (fun _ => ?_)
        · exact hk60 v2 M
        · refine j_iconst (pc := 19) d_Model_isRound_19 k_i_1 ?_
          refine j_aload_n (pc := 20) (q := 0) d_Model_isRound_20 rfl rfl ?_
          refine j_getA (pc := 21) d_Model_isRound_21 fl_Model_26 sm_0 (by decide) rfl ?_
          refine j_iload_n (pc := 24) (q := 3) d_Model_isRound_24 rfl rfl ?_
          refine j_iald (pc := 25) d_Model_isRound_25 sm_6 (fun _ => ?_)
          refine j_ishl (pc := 26) d_Model_isRound_26 ?_
          refine j_iconst (pc := 27) d_Model_isRound_27 k_i_1 ?_
          refine j_aload_n (pc := 28) (q := 0) d_Model_isRound_28 rfl rfl ?_
          refine j_getA (pc := 29) d_Model_isRound_29 fl_Model_29 sm_0 (by decide) rfl ?_
          refine j_iload_n (pc := 32) (q := 3) d_Model_isRound_32 rfl rfl ?_
          refine j_iald (pc := 33) d_Model_isRound_33 sm_7 (fun _ => ?_)
          refine j_ishl (pc := 34) d_Model_isRound_34 ?_
          refine j_ior (pc := 35) d_Model_isRound_35 ?_
          refine j_nmi (fun x3 => ?_)
          refine j_istore (pc := 36) d_Model_isRound_36 (by decide) rfl ?_
          refine j_aload_n (pc := 38) (q := 1) d_Model_isRound_38 rfl rfl ?_
          refine j_iload_n (pc := 39) (q := 4) d_Model_isRound_39 rfl rfl ?_
          refine j_callV1 (pc := 40) d_Model_isRound_40 (C_Model_isFreePair n v3 M) cV_Model_305 cd_Model_isFreePair dn_Model_isFreePair rfl (by decide) (Nat.le_of_ble_eq_true rfl) (Nat.le_of_ble_eq_true rfl) nr_I sm_0 (by decide) rfl (fun r4 M5 => ?_)
          refine j_if_eq (pc := 43) (tgt := 53) d_Model_isRound_43 (by decide) (fun _ => ?_) (fun _ => ?_)
          · refine j_iconst (pc := 53) d_Model_isRound_53 k_i_0 ?_
            exact j_zreturn (pc := 54) d_Model_isRound_54 rfl rfl
          · refine j_iload_n (pc := 46) (q := 3) d_Model_isRound_46 rfl rfl ?_
            refine j_iload (pc := 47) (q := 0) d_Model_isRound_47 rfl ?_
            refine j_iand (pc := 49) d_Model_isRound_49 ?_
            refine j_if_eq (pc := 50) (tgt := 55) d_Model_isRound_50 (by decide) (fun _ => ?_) (fun _ => ?_)
            · refine j_iload_n (pc := 55) (q := 3) d_Model_isRound_55 rfl rfl ?_
              refine j_iload (pc := 56) (q := 0) d_Model_isRound_56 rfl ?_
              refine j_ior (pc := 58) d_Model_isRound_58 ?_
              refine j_nmi (fun x6 => ?_)
              refine j_istore_n (pc := 59) d_Model_isRound_59 rfl (by decide) rfl ?_
              refine j_lv [2, 3, 0, 4] rfl ?_
              exact hk60 x6 M5
            · refine j_iconst (pc := 53) d_Model_isRound_53 k_i_0 ?_
              exact j_zreturn (pc := 54) d_Model_isRound_54 rfl rfl
set_option maxRecDepth 20000 in
set_option maxHeartbeats 4000000 in
theorem C_Model_isRound (n : Nat)   (p1 : Int32) (M : Mem) : Ct y_Model_isRound mt_Model_isRound wI [Value.ref 0, Value.int p1] M (X_Model_isRound n p1 M) := by
  refine ct_of (by decide +kernel) rfl (Nat.le_of_ble_eq_true rfl) ?_
  show J _ _ _ [(0, Value.ref 0), (1, Value.int p1)] _ _ _
  unfold X_Model_isRound
  refine j_iconst (pc := 0) d_Model_isRound_0 k_i_0 ?_
  refine j_istore_n (pc := 1) d_Model_isRound_1 rfl (by decide) rfl ?_
  refine j_iconst (pc := 2) d_Model_isRound_2 k_i_0 ?_
  refine j_istore_n (pc := 3) d_Model_isRound_3 rfl (by decide) rfl ?_
  refine j_lv [2, 3, 1, 0] rfl ?_
  refine X_Model_isRound_L4_ok  (fun M7 => ?_) n 0 0 M
  refine j_iload_n (pc := 66) (q := 0) d_Model_isRound_66 rfl rfl ?_
  refine j_if_eq (pc := 67) (tgt := 74) d_Model_isRound_67 (by decide) (fun _ => ?_) (fun _ => ?_)
  · refine j_iconst (pc := 74) d_Model_isRound_74 k_i_0 ?_
    exact j_zreturn (pc := 75) d_Model_isRound_75 rfl rfl
  · refine j_iconst (pc := 70) d_Model_isRound_70 k_i_1 ?_
    refine j_goto (pc := 71) (tgt := 75) d_Model_isRound_71 (by decide) ?_
    exact j_zreturn (pc := 75) d_Model_isRound_75 rfl rfl
-- Model.layRounds ()V
def mt_Model_layRounds : Mt := ("ShakeHandsModel", b_Model_layRounds, 2, none, 4, SHm)
theorem d_Model_layRounds_0 : decode b_Model_layRounds 0 = .ok (.aload_n 0, 1) := by decide +kernel
theorem d_Model_layRounds_1 : decode b_Model_layRounds 1 = .ok (.aload_n 0, 1) := by decide +kernel
theorem d_Model_layRounds_2 : decode b_Model_layRounds 2 = .ok (.invokevirtual 221, 3) := by decide +kernel
theorem d_Model_layRounds_5 : decode b_Model_layRounds 5 = .ok (.putfield 302, 3) := by decide +kernel
theorem d_Model_layRounds_8 : decode b_Model_layRounds 8 = .ok (.aload_n 0, 1) := by decide +kernel
theorem d_Model_layRounds_9 : decode b_Model_layRounds 9 = .ok (.iconst 0, 1) := by decide +kernel
theorem d_Model_layRounds_10 : decode b_Model_layRounds 10 = .ok (.putfield 365, 3) := by decide +kernel
theorem d_Model_layRounds_13 : decode b_Model_layRounds 13 = .ok (.iconst 1, 1) := by decide +kernel
theorem d_Model_layRounds_14 : decode b_Model_layRounds 14 = .ok (.istore_n 1, 1) := by decide +kernel
theorem d_Model_layRounds_15 : decode b_Model_layRounds 15 = .ok (.iload_n 1, 1) := by decide +kernel
theorem d_Model_layRounds_16 : decode b_Model_layRounds 16 = .ok (.ldc_w 368, 3) := by decide +kernel
theorem d_Model_layRounds_19 : decode b_Model_layRounds 19 = .ok (.if_icmp .ge 45, 3) := by decide +kernel
theorem d_Model_layRounds_22 : decode b_Model_layRounds 22 = .ok (.iload_n 1, 1) := by decide +kernel
theorem d_Model_layRounds_23 : decode b_Model_layRounds 23 = .ok (.invokestatic 224, 3) := by decide +kernel
theorem d_Model_layRounds_26 : decode b_Model_layRounds 26 = .ok (.iconst 3, 1) := by decide +kernel
theorem d_Model_layRounds_27 : decode b_Model_layRounds 27 = .ok (.if_icmp .gt 31, 3) := by decide +kernel
theorem d_Model_layRounds_30 : decode b_Model_layRounds 30 = .ok (.aload_n 0, 1) := by decide +kernel
theorem d_Model_layRounds_31 : decode b_Model_layRounds 31 = .ok (.iload_n 1, 1) := by decide +kernel
theorem d_Model_layRounds_32 : decode b_Model_layRounds 32 = .ok (.invokevirtual 369, 3) := by decide +kernel
theorem d_Model_layRounds_35 : decode b_Model_layRounds 35 = .ok (.ifCond .eq 23, 3) := by decide +kernel
theorem d_Model_layRounds_38 : decode b_Model_layRounds 38 = .ok (.aload_n 0, 1) := by decide +kernel
theorem d_Model_layRounds_39 : decode b_Model_layRounds 39 = .ok (.getfield 65, 3) := by decide +kernel
theorem d_Model_layRounds_42 : decode b_Model_layRounds 42 = .ok (.aload_n 0, 1) := by decide +kernel
theorem d_Model_layRounds_43 : decode b_Model_layRounds 43 = .ok (.getfield 365, 3) := by decide +kernel
theorem d_Model_layRounds_46 : decode b_Model_layRounds 46 = .ok (.iload_n 1, 1) := by decide +kernel
theorem d_Model_layRounds_47 : decode b_Model_layRounds 47 = .ok (.iastore, 1) := by decide +kernel
theorem d_Model_layRounds_48 : decode b_Model_layRounds 48 = .ok (.aload_n 0, 1) := by decide +kernel
theorem d_Model_layRounds_49 : decode b_Model_layRounds 49 = .ok (.dup, 1) := by decide +kernel
theorem d_Model_layRounds_50 : decode b_Model_layRounds 50 = .ok (.getfield 365, 3) := by decide +kernel
theorem d_Model_layRounds_53 : decode b_Model_layRounds 53 = .ok (.iconst 1, 1) := by decide +kernel
theorem d_Model_layRounds_54 : decode b_Model_layRounds 54 = .ok (.iadd, 1) := by decide +kernel
theorem d_Model_layRounds_55 : decode b_Model_layRounds 55 = .ok (.putfield 365, 3) := by decide +kernel
theorem d_Model_layRounds_58 : decode b_Model_layRounds 58 = .ok (.iinc 1 1, 3) := by decide +kernel
theorem d_Model_layRounds_61 : decode b_Model_layRounds 61 = .ok (.goto (-46), 3) := by decide +kernel
theorem d_Model_layRounds_64 : decode b_Model_layRounds 64 = .ok (.return_, 1) := by decide +kernel
def X_Model_layRounds_L15 (n : Nat) : Nat → Int32 → Mem → Option (Unit × Mem)
    | 0, _, _ => none
    | m + 1, v1, M => (if 32768 ≤ v1 then
    some ((), M)
    else
    bd (X_Model_bitsOf n v1 M) fun r3 M4 =>
    nm (fun (M5 : Mem) => (X_Model_layRounds_L15 n m (v1 + 1) M5 : Option (Unit × Mem))) fun k58 =>
    (if 3 < r3 then
      k58 M4
      else
      bd (X_Model_isRound n v1 M4) fun r6 M7 =>
      (if r6 = 0 then
        k58 M7
        else
        gd (M7.1 0 47) 80 (
          nm (si M7 19 ((M7.1 0 47).toNatClampNeg) v1) fun N8 =>
          k58 (si N8 0 47 ((N8.1 0 47) + 1))))))
def X_Model_layRounds (n : Nat) (M : Mem) : Option (Unit × Mem) :=
  bd (X_Model_worn n M) fun r1 M2 =>
  X_Model_layRounds_L15 n n 1 (si (si M2 0 38 r1) 0 47 0)
set_option maxRecDepth 20000 in
set_option maxHeartbeats 4000000 in
theorem X_Model_layRounds_L15_ok {n : Nat} : ∀ (m : Nat) (v1 : Int32) (M : Mem), J (mt_Model_layRounds) wU 15 [(0, Value.ref 0), (1, Value.int v1)] [] M (X_Model_layRounds_L15 n m v1 M) := by
  intro m
  induction m with
  | zero => intro _ _; exact j_none
  | succ m ih =>
    intro v1 M
    show J _ _ _ _ _ _ ((if 32768 ≤ v1 then
some ((), M)
else
bd (X_Model_bitsOf n v1 M) fun r3 M4 =>
nm (fun (M5 : Mem) => (X_Model_layRounds_L15 n m (v1 + 1) M5 : Option (Unit × Mem))) fun k58 =>
(if 3 < r3 then
k58 M4
else
bd (X_Model_isRound n v1 M4) fun r6 M7 =>
(if r6 = 0 then
k58 M7
else
gd (M7.1 0 47) 80 (
nm (si M7 19 ((M7.1 0 47).toNatClampNeg) v1) fun N8 =>
k58 (si N8 0 47 ((N8.1 0 47) + 1)))))))
    refine j_iload_n (pc := 15) (q := 1) d_Model_layRounds_15 rfl rfl ?_
    refine j_ldcw (pc := 16) (own := "ShakeHandsModel") d_Model_layRounds_16 ct_Model_368 ?_
    refine j_icmp_ge (pc := 19) (tgt := 64) d_Model_layRounds_19 (by decide) (fun _ => ?_) (fun _ => ?_)
    · exact j_return (pc := 64) d_Model_layRounds_64 rfl
    · refine j_iload_n (pc := 22) (q := 1) d_Model_layRounds_22 rfl rfl ?_
      refine j_callS1 (pc := 23) d_Model_layRounds_23 (C_Model_bitsOf n v1 M) cS_Model_224 cd_Model_bitsOf dn_Model_bitsOf rfl (by decide) (Nat.le_of_ble_eq_true rfl) (Nat.le_of_ble_eq_true rfl) nr_I (fun r3 M4 => ?_)
      refine j_iconst (pc := 26) d_Model_layRounds_26 k_i_3 ?_
      refine j_nmk (fun k => ∀ (M5 : Mem), J (mt_Model_layRounds) wU 58 [(0, Value.ref 0), (1, Value.int v1)] [] M5 (k M5)) (fun M5 => ?_) (fun k58 hk58 => ?_)
      · refine j_iinc (pc := 58) (q := 1) d_Model_layRounds_58 rfl (congrArg (v1 + ·) k_i_1) (by decide) rfl ?_
        refine j_goto (pc := 61) (tgt := 15) d_Model_layRounds_61 (by decide) ?_
        refine j_lv [1, 0] rfl ?_
        exact ih (v1 + 1) M5
      · refine j_icmp_gt (pc := 27) (tgt := 58) d_Model_layRounds_27 (by decide) (fun _ => ?_) (fun _ => ?_)
        · exact hk58 M4
        · refine j_aload_n (pc := 30) (q := 0) d_Model_layRounds_30 rfl rfl ?_
          refine j_iload_n (pc := 31) (q := 1) d_Model_layRounds_31 rfl rfl ?_
          refine j_callV1 (pc := 32) d_Model_layRounds_32 (C_Model_isRound n v1 M4) cV_Model_369 cd_Model_isRound dn_Model_isRound rfl (by decide) (Nat.le_of_ble_eq_true rfl) (Nat.le_of_ble_eq_true rfl) nr_I sm_0 (by decide) rfl (fun r6 M7 => ?_)
          refine j_if_eq (pc := 35) (tgt := 58) d_Model_layRounds_35 (by decide) (fun _ => ?_) (fun _ => ?_)
          · exact hk58 M7
          · refine j_aload_n (pc := 38) (q := 0) d_Model_layRounds_38 rfl rfl ?_
            refine j_getA (pc := 39) d_Model_layRounds_39 fl_Model_65 sm_0 (by decide) rfl ?_
            refine j_aload_n (pc := 42) (q := 0) d_Model_layRounds_42 rfl rfl ?_
            refine j_getI (pc := 43) d_Model_layRounds_43 fl_Model_365 sm_0 (by decide) rfl ?_
            refine j_iload_n (pc := 46) (q := 1) d_Model_layRounds_46 rfl rfl ?_
            refine j_iast (pc := 47) d_Model_layRounds_47 sm_19 (fun _ => ?_)
            refine j_aload_n (pc := 48) (q := 0) d_Model_layRounds_48 rfl rfl ?_
            refine j_dup (pc := 49) d_Model_layRounds_49 rfl ?_
            refine j_nmM (fun N8 => ?_)
            refine j_getI (pc := 50) d_Model_layRounds_50 fl_Model_365 sm_0 (by decide) rfl ?_
            refine j_iconst (pc := 53) d_Model_layRounds_53 k_i_1 ?_
            refine j_iadd (pc := 54) d_Model_layRounds_54 ?_
            refine j_putI (pc := 55) d_Model_layRounds_55 fl_Model_365 rfl sm_0 (by decide) rfl ?_
            exact hk58 (si N8 0 47 ((N8.1 0 47) + 1))
set_option maxRecDepth 20000 in
set_option maxHeartbeats 4000000 in
theorem C_Model_layRounds (n : Nat)    (M : Mem) : Ct y_Model_layRounds mt_Model_layRounds wU [Value.ref 0] M (X_Model_layRounds n M) := by
  refine ct_of (by decide +kernel) rfl (Nat.le_of_ble_eq_true rfl) ?_
  show J _ _ _ [(0, Value.ref 0)] _ _ _
  unfold X_Model_layRounds
  refine j_aload_n (pc := 0) (q := 0) d_Model_layRounds_0 rfl rfl ?_
  refine j_aload_n (pc := 1) (q := 0) d_Model_layRounds_1 rfl rfl ?_
  refine j_callV0 (pc := 2) d_Model_layRounds_2 (C_Model_worn n M) cV_Model_221 cd_Model_worn dn_Model_worn rfl (by decide) (Nat.le_of_ble_eq_true rfl) (Nat.le_of_ble_eq_true rfl) nr_I sm_0 (by decide) rfl (fun r1 M2 => ?_)
  refine j_putI (pc := 5) d_Model_layRounds_5 fl_Model_302 rfl sm_0 (by decide) rfl ?_
  refine j_aload_n (pc := 8) (q := 0) d_Model_layRounds_8 rfl rfl ?_
  refine j_iconst (pc := 9) d_Model_layRounds_9 k_i_0 ?_
  refine j_putI (pc := 10) d_Model_layRounds_10 fl_Model_365 rfl sm_0 (by decide) rfl ?_
  refine j_iconst (pc := 13) d_Model_layRounds_13 k_i_1 ?_
  refine j_istore_n (pc := 14) d_Model_layRounds_14 rfl (by decide) rfl ?_
  refine j_lv [1, 0] rfl ?_
  exact X_Model_layRounds_L15_ok   n 1 (si (si M2 0 38 r1) 0 47 0)
-- Model.rounds (III)I
def mt_Model_rounds : Mt := ("ShakeHandsModel", b_Model_rounds, 7, some .int, 7, SHm)
theorem d_Model_rounds_0 : decode b_Model_rounds 0 = .ok (.iload_n 1, 1) := by decide +kernel
theorem d_Model_rounds_1 : decode b_Model_rounds 1 = .ok (.invokestatic 272, 3) := by decide +kernel
theorem d_Model_rounds_4 : decode b_Model_rounds 4 = .ok (.ifCond .eq 19, 3) := by decide +kernel
theorem d_Model_rounds_7 : decode b_Model_rounds 7 = .ok (.aload_n 0, 1) := by decide +kernel
theorem d_Model_rounds_8 : decode b_Model_rounds 8 = .ok (.iload_n 2, 1) := by decide +kernel
theorem d_Model_rounds_9 : decode b_Model_rounds 9 = .ok (.invokevirtual 351, 3) := by decide +kernel
theorem d_Model_rounds_12 : decode b_Model_rounds 12 = .ok (.ifCond .eq 11, 3) := by decide +kernel
theorem d_Model_rounds_15 : decode b_Model_rounds 15 = .ok (.aload_n 0, 1) := by decide +kernel
theorem d_Model_rounds_16 : decode b_Model_rounds 16 = .ok (.iload_n 3, 1) := by decide +kernel
theorem d_Model_rounds_17 : decode b_Model_rounds 17 = .ok (.invokevirtual 351, 3) := by decide +kernel
theorem d_Model_rounds_20 : decode b_Model_rounds 20 = .ok (.ifCond .ne 5, 3) := by decide +kernel
theorem d_Model_rounds_23 : decode b_Model_rounds 23 = .ok (.iconst (-1), 1) := by decide +kernel
theorem d_Model_rounds_24 : decode b_Model_rounds 24 = .ok (.ireturn, 1) := by decide +kernel
theorem d_Model_rounds_25 : decode b_Model_rounds 25 = .ok (.aload_n 0, 1) := by decide +kernel
theorem d_Model_rounds_26 : decode b_Model_rounds 26 = .ok (.iconst 0, 1) := by decide +kernel
theorem d_Model_rounds_27 : decode b_Model_rounds 27 = .ok (.iload_n 1, 1) := by decide +kernel
theorem d_Model_rounds_28 : decode b_Model_rounds 28 = .ok (.iload_n 2, 1) := by decide +kernel
theorem d_Model_rounds_29 : decode b_Model_rounds 29 = .ok (.iload_n 3, 1) := by decide +kernel
theorem d_Model_rounds_30 : decode b_Model_rounds 30 = .ok (.invokevirtual 358, 3) := by decide +kernel
theorem d_Model_rounds_33 : decode b_Model_rounds 33 = .ok (.aload_n 0, 1) := by decide +kernel
theorem d_Model_rounds_34 : decode b_Model_rounds 34 = .ok (.iconst 0, 1) := by decide +kernel
theorem d_Model_rounds_35 : decode b_Model_rounds 35 = .ok (.invokevirtual 256, 3) := by decide +kernel
theorem d_Model_rounds_38 : decode b_Model_rounds 38 = .ok (.aload_n 0, 1) := by decide +kernel
theorem d_Model_rounds_39 : decode b_Model_rounds 39 = .ok (.iconst 0, 1) := by decide +kernel
theorem d_Model_rounds_40 : decode b_Model_rounds 40 = .ok (.invokevirtual 332, 3) := by decide +kernel
theorem d_Model_rounds_43 : decode b_Model_rounds 43 = .ok (.ifCond .ne 6, 3) := by decide +kernel
theorem d_Model_rounds_46 : decode b_Model_rounds 46 = .ok (.bipush (-4), 2) := by decide +kernel
theorem d_Model_rounds_48 : decode b_Model_rounds 48 = .ok (.ireturn, 1) := by decide +kernel
theorem d_Model_rounds_49 : decode b_Model_rounds 49 = .ok (.aload_n 0, 1) := by decide +kernel
theorem d_Model_rounds_50 : decode b_Model_rounds 50 = .ok (.iconst 0, 1) := by decide +kernel
theorem d_Model_rounds_51 : decode b_Model_rounds 51 = .ok (.invokevirtual 335, 3) := by decide +kernel
theorem d_Model_rounds_54 : decode b_Model_rounds 54 = .ok (.ifCond .eq 5, 3) := by decide +kernel
theorem d_Model_rounds_57 : decode b_Model_rounds 57 = .ok (.iconst 0, 1) := by decide +kernel
theorem d_Model_rounds_58 : decode b_Model_rounds 58 = .ok (.ireturn, 1) := by decide +kernel
theorem d_Model_rounds_59 : decode b_Model_rounds 59 = .ok (.aload_n 0, 1) := by decide +kernel
theorem d_Model_rounds_60 : decode b_Model_rounds 60 = .ok (.invokevirtual 372, 3) := by decide +kernel
theorem d_Model_rounds_63 : decode b_Model_rounds 63 = .ok (.iconst 0, 1) := by decide +kernel
theorem d_Model_rounds_64 : decode b_Model_rounds 64 = .ok (.istore 4, 2) := by decide +kernel
theorem d_Model_rounds_66 : decode b_Model_rounds 66 = .ok (.iconst 0, 1) := by decide +kernel
theorem d_Model_rounds_67 : decode b_Model_rounds 67 = .ok (.istore 5, 2) := by decide +kernel
theorem d_Model_rounds_69 : decode b_Model_rounds 69 = .ok (.iload 5, 2) := by decide +kernel
theorem d_Model_rounds_71 : decode b_Model_rounds 71 = .ok (.aload_n 0, 1) := by decide +kernel
theorem d_Model_rounds_72 : decode b_Model_rounds 72 = .ok (.getfield 365, 3) := by decide +kernel
theorem d_Model_rounds_75 : decode b_Model_rounds 75 = .ok (.if_icmp .ge 97, 3) := by decide +kernel
theorem d_Model_rounds_78 : decode b_Model_rounds 78 = .ok (.aload_n 0, 1) := by decide +kernel
theorem d_Model_rounds_79 : decode b_Model_rounds 79 = .ok (.iconst 1, 1) := by decide +kernel
theorem d_Model_rounds_80 : decode b_Model_rounds 80 = .ok (.aload_n 0, 1) := by decide +kernel
theorem d_Model_rounds_81 : decode b_Model_rounds 81 = .ok (.getfield 65, 3) := by decide +kernel
theorem d_Model_rounds_84 : decode b_Model_rounds 84 = .ok (.iload 5, 2) := by decide +kernel
theorem d_Model_rounds_86 : decode b_Model_rounds 86 = .ok (.iaload, 1) := by decide +kernel
theorem d_Model_rounds_87 : decode b_Model_rounds 87 = .ok (.invokevirtual 375, 3) := by decide +kernel
theorem d_Model_rounds_90 : decode b_Model_rounds 90 = .ok (.aload_n 0, 1) := by decide +kernel
theorem d_Model_rounds_91 : decode b_Model_rounds 91 = .ok (.iconst 1, 1) := by decide +kernel
theorem d_Model_rounds_92 : decode b_Model_rounds 92 = .ok (.invokevirtual 332, 3) := by decide +kernel
theorem d_Model_rounds_95 : decode b_Model_rounds 95 = .ok (.ifCond .eq 71, 3) := by decide +kernel
theorem d_Model_rounds_98 : decode b_Model_rounds 98 = .ok (.aload_n 0, 1) := by decide +kernel
theorem d_Model_rounds_99 : decode b_Model_rounds 99 = .ok (.iconst 1, 1) := by decide +kernel
theorem d_Model_rounds_100 : decode b_Model_rounds 100 = .ok (.invokevirtual 335, 3) := by decide +kernel
theorem d_Model_rounds_103 : decode b_Model_rounds 103 = .ok (.ifCond .eq 5, 3) := by decide +kernel
theorem d_Model_rounds_106 : decode b_Model_rounds 106 = .ok (.iconst 1, 1) := by decide +kernel
theorem d_Model_rounds_107 : decode b_Model_rounds 107 = .ok (.ireturn, 1) := by decide +kernel
theorem d_Model_rounds_108 : decode b_Model_rounds 108 = .ok (.iconst 0, 1) := by decide +kernel
theorem d_Model_rounds_109 : decode b_Model_rounds 109 = .ok (.istore 6, 2) := by decide +kernel
theorem d_Model_rounds_111 : decode b_Model_rounds 111 = .ok (.iload 6, 2) := by decide +kernel
theorem d_Model_rounds_113 : decode b_Model_rounds 113 = .ok (.aload_n 0, 1) := by decide +kernel
theorem d_Model_rounds_114 : decode b_Model_rounds 114 = .ok (.getfield 365, 3) := by decide +kernel
theorem d_Model_rounds_117 : decode b_Model_rounds 117 = .ok (.if_icmp .ge 49, 3) := by decide +kernel
theorem d_Model_rounds_120 : decode b_Model_rounds 120 = .ok (.iload 4, 2) := by decide +kernel
theorem d_Model_rounds_122 : decode b_Model_rounds 122 = .ok (.ifCond .ne 44, 3) := by decide +kernel
theorem d_Model_rounds_125 : decode b_Model_rounds 125 = .ok (.aload_n 0, 1) := by decide +kernel
theorem d_Model_rounds_126 : decode b_Model_rounds 126 = .ok (.iconst 2, 1) := by decide +kernel
theorem d_Model_rounds_127 : decode b_Model_rounds 127 = .ok (.aload_n 0, 1) := by decide +kernel
theorem d_Model_rounds_128 : decode b_Model_rounds 128 = .ok (.getfield 65, 3) := by decide +kernel
theorem d_Model_rounds_131 : decode b_Model_rounds 131 = .ok (.iload 6, 2) := by decide +kernel
theorem d_Model_rounds_133 : decode b_Model_rounds 133 = .ok (.iaload, 1) := by decide +kernel
theorem d_Model_rounds_134 : decode b_Model_rounds 134 = .ok (.invokevirtual 375, 3) := by decide +kernel
theorem d_Model_rounds_137 : decode b_Model_rounds 137 = .ok (.aload_n 0, 1) := by decide +kernel
theorem d_Model_rounds_138 : decode b_Model_rounds 138 = .ok (.iconst 2, 1) := by decide +kernel
theorem d_Model_rounds_139 : decode b_Model_rounds 139 = .ok (.invokevirtual 332, 3) := by decide +kernel
theorem d_Model_rounds_142 : decode b_Model_rounds 142 = .ok (.ifCond .eq 15, 3) := by decide +kernel
theorem d_Model_rounds_145 : decode b_Model_rounds 145 = .ok (.aload_n 0, 1) := by decide +kernel
theorem d_Model_rounds_146 : decode b_Model_rounds 146 = .ok (.iconst 2, 1) := by decide +kernel
theorem d_Model_rounds_147 : decode b_Model_rounds 147 = .ok (.invokevirtual 335, 3) := by decide +kernel
theorem d_Model_rounds_150 : decode b_Model_rounds 150 = .ok (.ifCond .eq 7, 3) := by decide +kernel
theorem d_Model_rounds_153 : decode b_Model_rounds 153 = .ok (.iconst 1, 1) := by decide +kernel
theorem d_Model_rounds_154 : decode b_Model_rounds 154 = .ok (.goto 4, 3) := by decide +kernel
theorem d_Model_rounds_157 : decode b_Model_rounds 157 = .ok (.iconst 0, 1) := by decide +kernel
theorem d_Model_rounds_158 : decode b_Model_rounds 158 = .ok (.istore 4, 2) := by decide +kernel
theorem d_Model_rounds_160 : decode b_Model_rounds 160 = .ok (.iinc 6 1, 3) := by decide +kernel
theorem d_Model_rounds_163 : decode b_Model_rounds 163 = .ok (.goto (-52), 3) := by decide +kernel
theorem d_Model_rounds_166 : decode b_Model_rounds 166 = .ok (.iinc 5 1, 3) := by decide +kernel
theorem d_Model_rounds_169 : decode b_Model_rounds 169 = .ok (.goto (-100), 3) := by decide +kernel
theorem d_Model_rounds_172 : decode b_Model_rounds 172 = .ok (.iload 4, 2) := by decide +kernel
theorem d_Model_rounds_174 : decode b_Model_rounds 174 = .ok (.ifCond .eq 7, 3) := by decide +kernel
theorem d_Model_rounds_177 : decode b_Model_rounds 177 = .ok (.iconst 2, 1) := by decide +kernel
theorem d_Model_rounds_178 : decode b_Model_rounds 178 = .ok (.goto 5, 3) := by decide +kernel
theorem d_Model_rounds_181 : decode b_Model_rounds 181 = .ok (.bipush (-4), 2) := by decide +kernel
theorem d_Model_rounds_183 : decode b_Model_rounds 183 = .ok (.ireturn, 1) := by decide +kernel
def X_Model_rounds_L111 (n : Nat) (a5 : Int32) (kx166 : Int32 → Mem → Option (Int32 × Mem)) : Nat → Int32 → Int32 → Mem → Option (Int32 × Mem)
    | 0, _, _, _ => none
    | m + 1, v4, v6, M => (if (M.1 0 47) ≤ v6 then
    kx166 v4 M
    else
    (if v4 = 0 then
      gd v6 80 (
        bd (X_Model_goesRound n 2 (M.1 19 v6.toNatClampNeg) M) fun _ M26 =>
        bd (X_Model_isStill n 2 M26) fun r27 M28 =>
        nm (fun (u29 : Int32) (M30 : Mem) => (X_Model_rounds_L111 n a5 kx166 m u29 (v6 + 1) M30 : Option (Int32 × Mem))) fun k158 =>
        (if r27 = 0 then
          k158 0 M28
          else
          bd (X_Model_isGood n 2 M28) fun r31 M32 =>
          (if r31 = 0 then
            k158 0 M32
            else
            k158 1 M32)))
      else
      kx166 v4 M))
def X_Model_rounds_L69 (n : Nat) (kx172 : Int32 → Mem → Option (Int32 × Mem)) : Nat → Int32 → Int32 → Mem → Option (Int32 × Mem)
    | 0, _, _, _ => none
    | m + 1, v4, v5, M => (if (M.1 0 47) ≤ v5 then
    kx172 v4 M
    else
    gd v5 80 (
      bd (X_Model_goesRound n 1 (M.1 19 v5.toNatClampNeg) M) fun _ M18 =>
      bd (X_Model_isStill n 1 M18) fun r19 M20 =>
      nm (fun (z21 : Int32) (M22 : Mem) => (X_Model_rounds_L69 n kx172 m z21 (v5 + 1) M22 : Option (Int32 × Mem))) fun k166 =>
      (if r19 = 0 then
        k166 v4 M20
        else
        bd (X_Model_isGood n 1 M20) fun r23 M24 =>
        (if r23 = 0 then
          X_Model_rounds_L111 n v5 (fun y33 M34 => k166 y33 M34) n v4 0 M24
          else
          some (1, M24)))))
def X_Model_rounds (n : Nat) (p1 : Int32) (p2 : Int32) (p3 : Int32) (M : Mem) : Option (Int32 × Mem) :=
  bd (X_Model_isThing n p1 M) fun r1 M2 =>
  (if r1 = 0 then
    some ((-1), M2)
    else
    bd (X_Model_areOnes n p2 M2) fun r3 M4 =>
    (if r3 = 0 then
      some ((-1), M4)
      else
      bd (X_Model_areOnes n p3 M4) fun r5 M6 =>
      (if r5 = 0 then
        some ((-1), M6)
        else
        bd (X_Model_asks n 0 p1 p2 p3 M6) fun _ M8 =>
        bd (X_Model_begins n 0 M8) fun _ M10 =>
        bd (X_Model_isStill n 0 M10) fun r11 M12 =>
        (if r11 = 0 then
          some ((-4), M12)
          else
          bd (X_Model_isGood n 0 M12) fun r13 M14 =>
          (if r13 = 0 then
            bd (X_Model_layRounds n M14) fun _ M16 =>
            X_Model_rounds_L69 n (fun y35 M36 => (if y35 = 0 then
                some ((-4), M36)
                else
                some (2, M36))) n 0 0 M16
            else
            some (0, M14))))))
set_option maxRecDepth 20000 in
set_option maxHeartbeats 4000000 in
theorem X_Model_rounds_L111_ok {n : Nat} {a5 : Int32} {kx166 : Int32 → Mem → Option (Int32 × Mem)} (hkx166 : ∀ (w4 : Int32) (M : Mem), J (mt_Model_rounds) wI 166 [(0, Value.ref 0), (4, Value.int w4), (5, Value.int a5)] [] M (kx166 w4 M)) : ∀ (m : Nat) (v4 : Int32) (v6 : Int32) (M : Mem), J (mt_Model_rounds) wI 111 [(0, Value.ref 0), (4, Value.int v4), (5, Value.int a5), (6, Value.int v6)] [] M (X_Model_rounds_L111 n a5 kx166 m v4 v6 M) := by
  intro m
  induction m with
  | zero => intro _ _ _; exact j_none
  | succ m ih =>
    intro v4 v6 M
    show J _ _ _ _ _ _ ((if (M.1 0 47) ≤ v6 then
kx166 v4 M
else
(if v4 = 0 then
gd v6 80 (
bd (X_Model_goesRound n 2 (M.1 19 v6.toNatClampNeg) M) fun _ M26 =>
bd (X_Model_isStill n 2 M26) fun r27 M28 =>
nm (fun (u29 : Int32) (M30 : Mem) => (X_Model_rounds_L111 n a5 kx166 m u29 (v6 + 1) M30 : Option (Int32 × Mem))) fun k158 =>
(if r27 = 0 then
k158 0 M28
else
bd (X_Model_isGood n 2 M28) fun r31 M32 =>
(if r31 = 0 then
k158 0 M32
else
k158 1 M32)))
else
kx166 v4 M)))
    refine j_iload (pc := 111) (q := 3) d_Model_rounds_111 rfl ?_
    refine j_aload_n (pc := 113) (q := 0) d_Model_rounds_113 rfl rfl ?_
    refine j_getI (pc := 114) d_Model_rounds_114 fl_Model_365 sm_0 (by decide) rfl ?_
    refine j_icmp_ge (pc := 117) (tgt := 166) d_Model_rounds_117 (by decide) (fun _ => ?_) (fun _ => ?_)
    · refine j_lv [0, 1, 2] rfl ?_
      exact hkx166 v4 M
    · refine j_iload (pc := 120) (q := 1) d_Model_rounds_120 rfl ?_
      refine j_if_ne (pc := 122) (tgt := 166) d_Model_rounds_122 (by decide) (fun _ => ?_) (fun _ => ?_)
      · refine j_lv [0, 1, 2] rfl ?_
        exact hkx166 v4 M
      · refine j_aload_n (pc := 125) (q := 0) d_Model_rounds_125 rfl rfl ?_
        refine j_iconst (pc := 126) d_Model_rounds_126 k_i_2 ?_
        refine j_aload_n (pc := 127) (q := 0) d_Model_rounds_127 rfl rfl ?_
        refine j_getA (pc := 128) d_Model_rounds_128 fl_Model_65 sm_0 (by decide) rfl ?_
        refine j_iload (pc := 131) (q := 3) d_Model_rounds_131 rfl ?_
        refine j_iald (pc := 133) d_Model_rounds_133 sm_19 (fun _ => ?_)
        refine j_callV2 (pc := 134) d_Model_rounds_134 (C_Model_goesRound n 2 (M.1 19 v6.toNatClampNeg) M) cV_Model_375 cd_Model_goesRound dn_Model_goesRound rfl (by decide) (Nat.le_of_ble_eq_true rfl) (Nat.le_of_ble_eq_true rfl) nr_U sm_0 (by decide) rfl (fun r25 M26 => ?_)
        refine j_aload_n (pc := 137) (q := 0) d_Model_rounds_137 rfl rfl ?_
        refine j_iconst (pc := 138) d_Model_rounds_138 k_i_2 ?_
        refine j_callV1 (pc := 139) d_Model_rounds_139 (C_Model_isStill n 2 M26) cV_Model_332 cd_Model_isStill dn_Model_isStill rfl (by decide) (Nat.le_of_ble_eq_true rfl) (Nat.le_of_ble_eq_true rfl) nr_I sm_0 (by decide) rfl (fun r27 M28 => ?_)
        refine j_nmk (fun k => ∀ (u29 : Int32) (M30 : Mem), J (mt_Model_rounds) wI 158 [(0, Value.ref 0), (5, Value.int a5), (6, Value.int v6)] [Value.int u29] M30 (k u29 M30)) (fun u29 M30 => ?_) (fun k158 hk158 => ?_)
        · refine j_istore (pc := 158) d_Model_rounds_158 (by decide) rfl ?_
          refine j_iinc (pc := 160) (q := 3) d_Model_rounds_160 rfl (congrArg (v6 + ·) k_i_1) (by decide) rfl ?_
          refine j_goto (pc := 163) (tgt := 111) d_Model_rounds_163 (by decide) ?_
          refine j_lv [2, 1, 3, 0] rfl ?_
          exact ih u29 (v6 + 1) M30
        · refine j_if_eq (pc := 142) (tgt := 157) d_Model_rounds_142 (by decide) (fun _ => ?_) (fun _ => ?_)
          · refine j_iconst (pc := 157) d_Model_rounds_157 k_i_0 ?_
            refine j_lv [0, 2, 3] rfl ?_
            exact hk158 0 M28
          · refine j_aload_n (pc := 145) (q := 0) d_Model_rounds_145 rfl rfl ?_
            refine j_iconst (pc := 146) d_Model_rounds_146 k_i_2 ?_
            refine j_callV1 (pc := 147) d_Model_rounds_147 (C_Model_isGood n 2 M28) cV_Model_335 cd_Model_isGood dn_Model_isGood rfl (by decide) (Nat.le_of_ble_eq_true rfl) (Nat.le_of_ble_eq_true rfl) nr_I sm_0 (by decide) rfl (fun r31 M32 => ?_)
            refine j_if_eq (pc := 150) (tgt := 157) d_Model_rounds_150 (by decide) (fun _ => ?_) (fun _ => ?_)
            · refine j_iconst (pc := 157) d_Model_rounds_157 k_i_0 ?_
              refine j_lv [0, 2, 3] rfl ?_
              exact hk158 0 M32
            · refine j_iconst (pc := 153) d_Model_rounds_153 k_i_1 ?_
              refine j_goto (pc := 154) (tgt := 158) d_Model_rounds_154 (by decide) ?_
              refine j_lv [0, 2, 3] rfl ?_
              exact hk158 1 M32
set_option maxRecDepth 20000 in
set_option maxHeartbeats 4000000 in
theorem X_Model_rounds_L69_ok {n : Nat} {kx172 : Int32 → Mem → Option (Int32 × Mem)} (hkx172 : ∀ (w4 : Int32) (M : Mem), J (mt_Model_rounds) wI 172 [(4, Value.int w4)] [] M (kx172 w4 M)) : ∀ (m : Nat) (v4 : Int32) (v5 : Int32) (M : Mem), J (mt_Model_rounds) wI 69 [(0, Value.ref 0), (4, Value.int v4), (5, Value.int v5)] [] M (X_Model_rounds_L69 n kx172 m v4 v5 M) := by
  intro m
  induction m with
  | zero => intro _ _ _; exact j_none
  | succ m ih =>
    intro v4 v5 M
    show J _ _ _ _ _ _ ((if (M.1 0 47) ≤ v5 then
kx172 v4 M
else
gd v5 80 (
bd (X_Model_goesRound n 1 (M.1 19 v5.toNatClampNeg) M) fun _ M18 =>
bd (X_Model_isStill n 1 M18) fun r19 M20 =>
nm (fun (z21 : Int32) (M22 : Mem) => (X_Model_rounds_L69 n kx172 m z21 (v5 + 1) M22 : Option (Int32 × Mem))) fun k166 =>
(if r19 = 0 then
k166 v4 M20
else
bd (X_Model_isGood n 1 M20) fun r23 M24 =>
(if r23 = 0 then
X_Model_rounds_L111 n v5 (fun y33 M34 => k166 y33 M34) n v4 0 M24
else
some (1, M24))))))
    refine j_iload (pc := 69) (q := 2) d_Model_rounds_69 rfl ?_
    refine j_aload_n (pc := 71) (q := 0) d_Model_rounds_71 rfl rfl ?_
    refine j_getI (pc := 72) d_Model_rounds_72 fl_Model_365 sm_0 (by decide) rfl ?_
    refine j_icmp_ge (pc := 75) (tgt := 172) d_Model_rounds_75 (by decide) (fun _ => ?_) (fun _ => ?_)
    · refine j_lv [1] rfl ?_
      exact hkx172 v4 M
    · refine j_aload_n (pc := 78) (q := 0) d_Model_rounds_78 rfl rfl ?_
      refine j_iconst (pc := 79) d_Model_rounds_79 k_i_1 ?_
      refine j_aload_n (pc := 80) (q := 0) d_Model_rounds_80 rfl rfl ?_
      refine j_getA (pc := 81) d_Model_rounds_81 fl_Model_65 sm_0 (by decide) rfl ?_
      refine j_iload (pc := 84) (q := 2) d_Model_rounds_84 rfl ?_
      refine j_iald (pc := 86) d_Model_rounds_86 sm_19 (fun _ => ?_)
      refine j_callV2 (pc := 87) d_Model_rounds_87 (C_Model_goesRound n 1 (M.1 19 v5.toNatClampNeg) M) cV_Model_375 cd_Model_goesRound dn_Model_goesRound rfl (by decide) (Nat.le_of_ble_eq_true rfl) (Nat.le_of_ble_eq_true rfl) nr_U sm_0 (by decide) rfl (fun r17 M18 => ?_)
      refine j_aload_n (pc := 90) (q := 0) d_Model_rounds_90 rfl rfl ?_
      refine j_iconst (pc := 91) d_Model_rounds_91 k_i_1 ?_
      refine j_callV1 (pc := 92) d_Model_rounds_92 (C_Model_isStill n 1 M18) cV_Model_332 cd_Model_isStill dn_Model_isStill rfl (by decide) (Nat.le_of_ble_eq_true rfl) (Nat.le_of_ble_eq_true rfl) nr_I sm_0 (by decide) rfl (fun r19 M20 => ?_)
      refine j_nmk (fun k => ∀ (z21 : Int32) (M22 : Mem), J (mt_Model_rounds) wI 166 [(0, Value.ref 0), (4, Value.int z21), (5, Value.int v5)] [] M22 (k z21 M22)) (fun z21 M22 => ?_) (fun k166 hk166 => ?_)
      · refine j_iinc (pc := 166) (q := 2) d_Model_rounds_166 rfl (congrArg (v5 + ·) k_i_1) (by decide) rfl ?_
        refine j_goto (pc := 169) (tgt := 69) d_Model_rounds_169 (by decide) ?_
        refine j_lv [1, 2, 0] rfl ?_
        exact ih z21 (v5 + 1) M22
      · refine j_if_eq (pc := 95) (tgt := 166) d_Model_rounds_95 (by decide) (fun _ => ?_) (fun _ => ?_)
        · exact hk166 v4 M20
        · refine j_aload_n (pc := 98) (q := 0) d_Model_rounds_98 rfl rfl ?_
          refine j_iconst (pc := 99) d_Model_rounds_99 k_i_1 ?_
          refine j_callV1 (pc := 100) d_Model_rounds_100 (C_Model_isGood n 1 M20) cV_Model_335 cd_Model_isGood dn_Model_isGood rfl (by decide) (Nat.le_of_ble_eq_true rfl) (Nat.le_of_ble_eq_true rfl) nr_I sm_0 (by decide) rfl (fun r23 M24 => ?_)
          refine j_if_eq (pc := 103) (tgt := 108) d_Model_rounds_103 (by decide) (fun _ => ?_) (fun _ => ?_)
          · refine j_iconst (pc := 108) d_Model_rounds_108 k_i_0 ?_
            refine j_istore (pc := 109) d_Model_rounds_109 (by decide) rfl ?_
            refine j_lv [1, 2, 3, 0] rfl ?_
            refine X_Model_rounds_L111_ok  (fun y33 M34 => ?_) n v4 0 M24
            exact hk166 y33 M34
          · refine j_iconst (pc := 106) d_Model_rounds_106 k_i_1 ?_
            exact j_ireturn (pc := 107) d_Model_rounds_107 rfl
set_option maxRecDepth 20000 in
set_option maxHeartbeats 4000000 in
theorem C_Model_rounds (n : Nat)   (p1 : Int32) (p2 : Int32) (p3 : Int32) (M : Mem) : Ct y_Model_rounds mt_Model_rounds wI [Value.ref 0, Value.int p1, Value.int p2, Value.int p3] M (X_Model_rounds n p1 p2 p3 M) := by
  refine ct_of (by decide +kernel) rfl (Nat.le_of_ble_eq_true rfl) ?_
  show J _ _ _ [(0, Value.ref 0), (1, Value.int p1), (2, Value.int p2), (3, Value.int p3)] _ _ _
  unfold X_Model_rounds
  refine j_iload_n (pc := 0) (q := 1) d_Model_rounds_0 rfl rfl ?_
  refine j_callS1 (pc := 1) d_Model_rounds_1 (C_Model_isThing n p1 M) cS_Model_272 cd_Model_isThing dn_Model_isThing rfl (by decide) (Nat.le_of_ble_eq_true rfl) (Nat.le_of_ble_eq_true rfl) nr_I (fun r1 M2 => ?_)
  refine j_if_eq (pc := 4) (tgt := 23) d_Model_rounds_4 (by decide) (fun _ => ?_) (fun _ => ?_)
  · refine j_iconst (pc := 23) d_Model_rounds_23 k_i_m1 ?_
    exact j_ireturn (pc := 24) d_Model_rounds_24 rfl
  · refine j_aload_n (pc := 7) (q := 0) d_Model_rounds_7 rfl rfl ?_
    refine j_iload_n (pc := 8) (q := 2) d_Model_rounds_8 rfl rfl ?_
    refine j_callV1 (pc := 9) d_Model_rounds_9 (C_Model_areOnes n p2 M2) cV_Model_351 cd_Model_areOnes dn_Model_areOnes rfl (by decide) (Nat.le_of_ble_eq_true rfl) (Nat.le_of_ble_eq_true rfl) nr_I sm_0 (by decide) rfl (fun r3 M4 => ?_)
    refine j_if_eq (pc := 12) (tgt := 23) d_Model_rounds_12 (by decide) (fun _ => ?_) (fun _ => ?_)
    · refine j_iconst (pc := 23) d_Model_rounds_23 k_i_m1 ?_
      exact j_ireturn (pc := 24) d_Model_rounds_24 rfl
    · refine j_aload_n (pc := 15) (q := 0) d_Model_rounds_15 rfl rfl ?_
      refine j_iload_n (pc := 16) (q := 3) d_Model_rounds_16 rfl rfl ?_
      refine j_callV1 (pc := 17) d_Model_rounds_17 (C_Model_areOnes n p3 M4) cV_Model_351 cd_Model_areOnes dn_Model_areOnes rfl (by decide) (Nat.le_of_ble_eq_true rfl) (Nat.le_of_ble_eq_true rfl) nr_I sm_0 (by decide) rfl (fun r5 M6 => ?_)
      refine j_if_ne (pc := 20) (tgt := 25) d_Model_rounds_20 (by decide) (fun _ => ?_) (fun _ => ?_)
      · refine j_aload_n (pc := 25) (q := 0) d_Model_rounds_25 rfl rfl ?_
        refine j_iconst (pc := 26) d_Model_rounds_26 k_i_0 ?_
        refine j_iload_n (pc := 27) (q := 1) d_Model_rounds_27 rfl rfl ?_
        refine j_iload_n (pc := 28) (q := 2) d_Model_rounds_28 rfl rfl ?_
        refine j_iload_n (pc := 29) (q := 3) d_Model_rounds_29 rfl rfl ?_
        refine j_callV4 (pc := 30) d_Model_rounds_30 (C_Model_asks n 0 p1 p2 p3 M6) cV_Model_358 cd_Model_asks dn_Model_asks rfl (by decide) (Nat.le_of_ble_eq_true rfl) (Nat.le_of_ble_eq_true rfl) nr_U sm_0 (by decide) rfl (fun r7 M8 => ?_)
        refine j_aload_n (pc := 33) (q := 0) d_Model_rounds_33 rfl rfl ?_
        refine j_iconst (pc := 34) d_Model_rounds_34 k_i_0 ?_
        refine j_callV1 (pc := 35) d_Model_rounds_35 (C_Model_begins n 0 M8) cV_Model_256 cd_Model_begins dn_Model_begins rfl (by decide) (Nat.le_of_ble_eq_true rfl) (Nat.le_of_ble_eq_true rfl) nr_U sm_0 (by decide) rfl (fun r9 M10 => ?_)
        refine j_aload_n (pc := 38) (q := 0) d_Model_rounds_38 rfl rfl ?_
        refine j_iconst (pc := 39) d_Model_rounds_39 k_i_0 ?_
        refine j_callV1 (pc := 40) d_Model_rounds_40 (C_Model_isStill n 0 M10) cV_Model_332 cd_Model_isStill dn_Model_isStill rfl (by decide) (Nat.le_of_ble_eq_true rfl) (Nat.le_of_ble_eq_true rfl) nr_I sm_0 (by decide) rfl (fun r11 M12 => ?_)
        refine j_if_ne (pc := 43) (tgt := 49) d_Model_rounds_43 (by decide) (fun _ => ?_) (fun _ => ?_)
        · refine j_aload_n (pc := 49) (q := 0) d_Model_rounds_49 rfl rfl ?_
          refine j_iconst (pc := 50) d_Model_rounds_50 k_i_0 ?_
          refine j_callV1 (pc := 51) d_Model_rounds_51 (C_Model_isGood n 0 M12) cV_Model_335 cd_Model_isGood dn_Model_isGood rfl (by decide) (Nat.le_of_ble_eq_true rfl) (Nat.le_of_ble_eq_true rfl) nr_I sm_0 (by decide) rfl (fun r13 M14 => ?_)
          refine j_if_eq (pc := 54) (tgt := 59) d_Model_rounds_54 (by decide) (fun _ => ?_) (fun _ => ?_)
          · refine j_aload_n (pc := 59) (q := 0) d_Model_rounds_59 rfl rfl ?_
            refine j_callV0 (pc := 60) d_Model_rounds_60 (C_Model_layRounds n M14) cV_Model_372 cd_Model_layRounds dn_Model_layRounds rfl (by decide) (Nat.le_of_ble_eq_true rfl) (Nat.le_of_ble_eq_true rfl) nr_U sm_0 (by decide) rfl (fun r15 M16 => ?_)
            refine j_iconst (pc := 63) d_Model_rounds_63 k_i_0 ?_
            refine j_istore (pc := 64) d_Model_rounds_64 (by decide) rfl ?_
            refine j_iconst (pc := 66) d_Model_rounds_66 k_i_0 ?_
            refine j_istore (pc := 67) d_Model_rounds_67 (by decide) rfl ?_
            refine j_lv [2, 1, 0] rfl ?_
            refine X_Model_rounds_L69_ok  (fun y35 M36 => ?_) n 0 0 M16
            refine j_iload (pc := 172) (q := 0) d_Model_rounds_172 rfl ?_
            refine j_if_eq (pc := 174) (tgt := 181) d_Model_rounds_174 (by decide) (fun _ => ?_) (fun _ => ?_)
            · refine j_bipush (pc := 181) d_Model_rounds_181 k_b_m4 ?_
              exact j_ireturn (pc := 183) d_Model_rounds_183 rfl
            · refine j_iconst (pc := 177) d_Model_rounds_177 k_i_2 ?_
              refine j_goto (pc := 178) (tgt := 183) d_Model_rounds_178 (by decide) ?_
              exact j_ireturn (pc := 183) d_Model_rounds_183 rfl
          · refine j_iconst (pc := 57) d_Model_rounds_57 k_i_0 ?_
            exact j_ireturn (pc := 58) d_Model_rounds_58 rfl
        · refine j_bipush (pc := 46) d_Model_rounds_46 k_b_m4 ?_
          exact j_ireturn (pc := 48) d_Model_rounds_48 rfl
      · refine j_iconst (pc := 23) d_Model_rounds_23 k_i_m1 ?_
        exact j_ireturn (pc := 24) d_Model_rounds_24 rfl
-- Model.lose (I)I
def mt_Model_lose : Mt := ("ShakeHandsModel", b_Model_lose, 2, some .int, 8, SHm)
theorem d_Model_lose_0 : decode b_Model_lose 0 = .ok (.iload_n 1, 1) := by decide +kernel
theorem d_Model_lose_1 : decode b_Model_lose 1 = .ok (.invokestatic 272, 3) := by decide +kernel
theorem d_Model_lose_4 : decode b_Model_lose 4 = .ok (.ifCond .ne 5, 3) := by decide +kernel
theorem d_Model_lose_7 : decode b_Model_lose 7 = .ok (.iconst (-1), 1) := by decide +kernel
theorem d_Model_lose_8 : decode b_Model_lose 8 = .ok (.ireturn, 1) := by decide +kernel
theorem d_Model_lose_9 : decode b_Model_lose 9 = .ok (.aload_n 0, 1) := by decide +kernel
theorem d_Model_lose_10 : decode b_Model_lose 10 = .ok (.iconst 1, 1) := by decide +kernel
theorem d_Model_lose_11 : decode b_Model_lose 11 = .ok (.iload_n 1, 1) := by decide +kernel
theorem d_Model_lose_12 : decode b_Model_lose 12 = .ok (.iconst 0, 1) := by decide +kernel
theorem d_Model_lose_13 : decode b_Model_lose 13 = .ok (.iconst 0, 1) := by decide +kernel
theorem d_Model_lose_14 : decode b_Model_lose 14 = .ok (.invokevirtual 358, 3) := by decide +kernel
theorem d_Model_lose_17 : decode b_Model_lose 17 = .ok (.aload_n 0, 1) := by decide +kernel
theorem d_Model_lose_18 : decode b_Model_lose 18 = .ok (.invokevirtual 362, 3) := by decide +kernel
theorem d_Model_lose_21 : decode b_Model_lose 21 = .ok (.ireturn, 1) := by decide +kernel
def X_Model_lose (n : Nat) (p1 : Int32) (M : Mem) : Option (Int32 × Mem) :=
  bd (X_Model_isThing n p1 M) fun r1 M2 =>
  (if r1 = 0 then
    some ((-1), M2)
    else
    bd (X_Model_asks n 1 p1 0 0 M2) fun _ M4 =>
    bd (X_Model_fewestHands n M4) fun r5 M6 =>
    some (r5, M6))
set_option maxRecDepth 20000 in
set_option maxHeartbeats 4000000 in
theorem C_Model_lose (n : Nat)   (p1 : Int32) (M : Mem) : Ct y_Model_lose mt_Model_lose wI [Value.ref 0, Value.int p1] M (X_Model_lose n p1 M) := by
  refine ct_of (by decide +kernel) rfl (Nat.le_of_ble_eq_true rfl) ?_
  show J _ _ _ [(0, Value.ref 0), (1, Value.int p1)] _ _ _
  unfold X_Model_lose
  refine j_iload_n (pc := 0) (q := 1) d_Model_lose_0 rfl rfl ?_
  refine j_callS1 (pc := 1) d_Model_lose_1 (C_Model_isThing n p1 M) cS_Model_272 cd_Model_isThing dn_Model_isThing rfl (by decide) (Nat.le_of_ble_eq_true rfl) (Nat.le_of_ble_eq_true rfl) nr_I (fun r1 M2 => ?_)
  refine j_if_ne (pc := 4) (tgt := 9) d_Model_lose_4 (by decide) (fun _ => ?_) (fun _ => ?_)
  · refine j_aload_n (pc := 9) (q := 0) d_Model_lose_9 rfl rfl ?_
    refine j_iconst (pc := 10) d_Model_lose_10 k_i_1 ?_
    refine j_iload_n (pc := 11) (q := 1) d_Model_lose_11 rfl rfl ?_
    refine j_iconst (pc := 12) d_Model_lose_12 k_i_0 ?_
    refine j_iconst (pc := 13) d_Model_lose_13 k_i_0 ?_
    refine j_callV4 (pc := 14) d_Model_lose_14 (C_Model_asks n 1 p1 0 0 M2) cV_Model_358 cd_Model_asks dn_Model_asks rfl (by decide) (Nat.le_of_ble_eq_true rfl) (Nat.le_of_ble_eq_true rfl) nr_U sm_0 (by decide) rfl (fun r3 M4 => ?_)
    refine j_aload_n (pc := 17) (q := 0) d_Model_lose_17 rfl rfl ?_
    refine j_callV0 (pc := 18) d_Model_lose_18 (C_Model_fewestHands n M4) cV_Model_362 cd_Model_fewestHands dn_Model_fewestHands rfl (by decide) (Nat.le_of_ble_eq_true rfl) (Nat.le_of_ble_eq_true rfl) nr_I sm_0 (by decide) rfl (fun r5 M6 => ?_)
    exact j_ireturn (pc := 21) d_Model_lose_21 rfl
  · refine j_iconst (pc := 7) d_Model_lose_7 k_i_m1 ?_
    exact j_ireturn (pc := 8) d_Model_lose_8 rfl
-- Model.aDay (I)V
def mt_Model_aDay : Mt := ("ShakeHandsModel", b_Model_aDay, 3, none, 6, SHm)
theorem d_Model_aDay_0 : decode b_Model_aDay 0 = .ok (.iconst 0, 1) := by decide +kernel
theorem d_Model_aDay_1 : decode b_Model_aDay 1 = .ok (.istore_n 2, 1) := by decide +kernel
theorem d_Model_aDay_2 : decode b_Model_aDay 2 = .ok (.iload_n 2, 1) := by decide +kernel
theorem d_Model_aDay_3 : decode b_Model_aDay 3 = .ok (.aload_n 0, 1) := by decide +kernel
theorem d_Model_aDay_4 : decode b_Model_aDay 4 = .ok (.getfield 131, 3) := by decide +kernel
theorem d_Model_aDay_7 : decode b_Model_aDay 7 = .ok (.if_icmp .ge 24, 3) := by decide +kernel
theorem d_Model_aDay_10 : decode b_Model_aDay 10 = .ok (.aload_n 0, 1) := by decide +kernel
theorem d_Model_aDay_11 : decode b_Model_aDay 11 = .ok (.iload_n 1, 1) := by decide +kernel
theorem d_Model_aDay_12 : decode b_Model_aDay 12 = .ok (.aload_n 0, 1) := by decide +kernel
theorem d_Model_aDay_13 : decode b_Model_aDay 13 = .ok (.getfield 23, 3) := by decide +kernel
theorem d_Model_aDay_16 : decode b_Model_aDay 16 = .ok (.iload_n 2, 1) := by decide +kernel
theorem d_Model_aDay_17 : decode b_Model_aDay 17 = .ok (.iaload, 1) := by decide +kernel
theorem d_Model_aDay_18 : decode b_Model_aDay 18 = .ok (.aload_n 0, 1) := by decide +kernel
theorem d_Model_aDay_19 : decode b_Model_aDay 19 = .ok (.invokevirtual 221, 3) := by decide +kernel
theorem d_Model_aDay_22 : decode b_Model_aDay 22 = .ok (.invokevirtual 282, 3) := by decide +kernel
theorem d_Model_aDay_25 : decode b_Model_aDay 25 = .ok (.iinc 2 1, 3) := by decide +kernel
theorem d_Model_aDay_28 : decode b_Model_aDay 28 = .ok (.goto (-26), 3) := by decide +kernel
theorem d_Model_aDay_31 : decode b_Model_aDay 31 = .ok (.return_, 1) := by decide +kernel
def X_Model_aDay_L2 (n : Nat) (a1 : Int32) : Nat → Int32 → Mem → Option (Unit × Mem)
    | 0, _, _ => none
    | m + 1, v2, M => (if (M.1 0 6) ≤ v2 then
    some ((), M)
    else
    gd v2 8 (
      bd (X_Model_worn n M) fun r1 M2 =>
      bd (X_Model_shakes n a1 (M.1 5 v2.toNatClampNeg) r1 M2) fun _ M4 =>
      X_Model_aDay_L2 n a1 m (v2 + 1) M4))
def X_Model_aDay (n : Nat) (p1 : Int32) (M : Mem) : Option (Unit × Mem) :=
  X_Model_aDay_L2 n p1 n 0 M
set_option maxRecDepth 20000 in
set_option maxHeartbeats 4000000 in
theorem X_Model_aDay_L2_ok {n : Nat} {a1 : Int32} : ∀ (m : Nat) (v2 : Int32) (M : Mem), J (mt_Model_aDay) wU 2 [(0, Value.ref 0), (1, Value.int a1), (2, Value.int v2)] [] M (X_Model_aDay_L2 n a1 m v2 M) := by
  intro m
  induction m with
  | zero => intro _ _; exact j_none
  | succ m ih =>
    intro v2 M
    show J _ _ _ _ _ _ ((if (M.1 0 6) ≤ v2 then
some ((), M)
else
gd v2 8 (
bd (X_Model_worn n M) fun r1 M2 =>
bd (X_Model_shakes n a1 (M.1 5 v2.toNatClampNeg) r1 M2) fun _ M4 =>
X_Model_aDay_L2 n a1 m (v2 + 1) M4)))
    refine j_iload_n (pc := 2) (q := 2) d_Model_aDay_2 rfl rfl ?_
    refine j_aload_n (pc := 3) (q := 0) d_Model_aDay_3 rfl rfl ?_
    refine j_getI (pc := 4) d_Model_aDay_4 fl_Model_131 sm_0 (by decide) rfl ?_
    refine j_icmp_ge (pc := 7) (tgt := 31) d_Model_aDay_7 (by decide) (fun _ => ?_) (fun _ => ?_)
    · exact j_return (pc := 31) d_Model_aDay_31 rfl
    · refine j_aload_n (pc := 10) (q := 0) d_Model_aDay_10 rfl rfl ?_
      refine j_iload_n (pc := 11) (q := 1) d_Model_aDay_11 rfl rfl ?_
      refine j_aload_n (pc := 12) (q := 0) d_Model_aDay_12 rfl rfl ?_
      refine j_getA (pc := 13) d_Model_aDay_13 fl_Model_23 sm_0 (by decide) rfl ?_
      refine j_iload_n (pc := 16) (q := 2) d_Model_aDay_16 rfl rfl ?_
      refine j_iald (pc := 17) d_Model_aDay_17 sm_5 (fun _ => ?_)
      refine j_aload_n (pc := 18) (q := 0) d_Model_aDay_18 rfl rfl ?_
      refine j_callV0 (pc := 19) d_Model_aDay_19 (C_Model_worn n M) cV_Model_221 cd_Model_worn dn_Model_worn rfl (by decide) (Nat.le_of_ble_eq_true rfl) (Nat.le_of_ble_eq_true rfl) nr_I sm_0 (by decide) rfl (fun r1 M2 => ?_)
      refine j_callV3 (pc := 22) d_Model_aDay_22 (C_Model_shakes n a1 (M.1 5 v2.toNatClampNeg) r1 M2) cV_Model_282 cd_Model_shakes dn_Model_shakes rfl (by decide) (Nat.le_of_ble_eq_true rfl) (Nat.le_of_ble_eq_true rfl) nr_U sm_0 (by decide) rfl (fun r3 M4 => ?_)
      refine j_iinc (pc := 25) (q := 2) d_Model_aDay_25 rfl (congrArg (v2 + ·) k_i_1) (by decide) rfl ?_
      refine j_goto (pc := 28) (tgt := 2) d_Model_aDay_28 (by decide) ?_
      refine j_lv [1, 2, 0] rfl ?_
      exact ih (v2 + 1) M4
set_option maxRecDepth 20000 in
set_option maxHeartbeats 4000000 in
theorem C_Model_aDay (n : Nat)   (p1 : Int32) (M : Mem) : Ct y_Model_aDay mt_Model_aDay wU [Value.ref 0, Value.int p1] M (X_Model_aDay n p1 M) := by
  refine ct_of (by decide +kernel) rfl (Nat.le_of_ble_eq_true rfl) ?_
  show J _ _ _ [(0, Value.ref 0), (1, Value.int p1)] _ _ _
  unfold X_Model_aDay
  refine j_iconst (pc := 0) d_Model_aDay_0 k_i_0 ?_
  refine j_istore_n (pc := 1) d_Model_aDay_1 rfl (by decide) rfl ?_
  refine j_lv [1, 2, 0] rfl ?_
  exact X_Model_aDay_L2_ok   n 0 M
-- Model.lives (I)I
def mt_Model_lives : Mt := ("ShakeHandsModel", b_Model_lives, 3, some .int, 7, SHm)
theorem d_Model_lives_0 : decode b_Model_lives 0 = .ok (.iload_n 1, 1) := by decide +kernel
theorem d_Model_lives_1 : decode b_Model_lives 1 = .ok (.invokestatic 272, 3) := by decide +kernel
theorem d_Model_lives_4 : decode b_Model_lives 4 = .ok (.ifCond .ne 5, 3) := by decide +kernel
theorem d_Model_lives_7 : decode b_Model_lives 7 = .ok (.iconst (-1), 1) := by decide +kernel
theorem d_Model_lives_8 : decode b_Model_lives 8 = .ok (.ireturn, 1) := by decide +kernel
theorem d_Model_lives_9 : decode b_Model_lives 9 = .ok (.aload_n 0, 1) := by decide +kernel
theorem d_Model_lives_10 : decode b_Model_lives 10 = .ok (.iconst 0, 1) := by decide +kernel
theorem d_Model_lives_11 : decode b_Model_lives 11 = .ok (.invokevirtual 256, 3) := by decide +kernel
theorem d_Model_lives_14 : decode b_Model_lives 14 = .ok (.iconst 0, 1) := by decide +kernel
theorem d_Model_lives_15 : decode b_Model_lives 15 = .ok (.istore_n 2, 1) := by decide +kernel
theorem d_Model_lives_16 : decode b_Model_lives 16 = .ok (.iload_n 2, 1) := by decide +kernel
theorem d_Model_lives_17 : decode b_Model_lives 17 = .ok (.sipush 200, 3) := by decide +kernel
theorem d_Model_lives_20 : decode b_Model_lives 20 = .ok (.if_icmp .gt 25, 3) := by decide +kernel
theorem d_Model_lives_23 : decode b_Model_lives 23 = .ok (.aload_n 0, 1) := by decide +kernel
theorem d_Model_lives_24 : decode b_Model_lives 24 = .ok (.iconst 0, 1) := by decide +kernel
theorem d_Model_lives_25 : decode b_Model_lives 25 = .ok (.iload_n 1, 1) := by decide +kernel
theorem d_Model_lives_26 : decode b_Model_lives 26 = .ok (.invokevirtual 262, 3) := by decide +kernel
theorem d_Model_lives_29 : decode b_Model_lives 29 = .ok (.ifCond .ne 5, 3) := by decide +kernel
theorem d_Model_lives_32 : decode b_Model_lives 32 = .ok (.iload_n 2, 1) := by decide +kernel
theorem d_Model_lives_33 : decode b_Model_lives 33 = .ok (.ireturn, 1) := by decide +kernel
theorem d_Model_lives_34 : decode b_Model_lives 34 = .ok (.aload_n 0, 1) := by decide +kernel
theorem d_Model_lives_35 : decode b_Model_lives 35 = .ok (.iconst 0, 1) := by decide +kernel
theorem d_Model_lives_36 : decode b_Model_lives 36 = .ok (.invokevirtual 378, 3) := by decide +kernel
theorem d_Model_lives_39 : decode b_Model_lives 39 = .ok (.iinc 2 1, 3) := by decide +kernel
theorem d_Model_lives_42 : decode b_Model_lives 42 = .ok (.goto (-26), 3) := by decide +kernel
theorem d_Model_lives_45 : decode b_Model_lives 45 = .ok (.bipush (-4), 2) := by decide +kernel
theorem d_Model_lives_47 : decode b_Model_lives 47 = .ok (.ireturn, 1) := by decide +kernel
def X_Model_lives_L16 (n : Nat) (a1 : Int32) : Nat → Int32 → Mem → Option (Int32 × Mem)
    | 0, _, _ => none
    | m + 1, v2, M => (if 200 < v2 then
    some ((-4), M)
    else
    bd (X_Model_whoIn n 0 a1 M) fun r5 M6 =>
    (if r5 = 0 then
      some (v2, M6)
      else
      bd (X_Model_aDay n 0 M6) fun _ M8 =>
      X_Model_lives_L16 n a1 m (v2 + 1) M8))
def X_Model_lives (n : Nat) (p1 : Int32) (M : Mem) : Option (Int32 × Mem) :=
  bd (X_Model_isThing n p1 M) fun r1 M2 =>
  (if r1 = 0 then
    some ((-1), M2)
    else
    bd (X_Model_begins n 0 M2) fun _ M4 =>
    X_Model_lives_L16 n p1 n 0 M4)
set_option maxRecDepth 20000 in
set_option maxHeartbeats 4000000 in
theorem X_Model_lives_L16_ok {n : Nat} {a1 : Int32} : ∀ (m : Nat) (v2 : Int32) (M : Mem), J (mt_Model_lives) wI 16 [(0, Value.ref 0), (1, Value.int a1), (2, Value.int v2)] [] M (X_Model_lives_L16 n a1 m v2 M) := by
  intro m
  induction m with
  | zero => intro _ _; exact j_none
  | succ m ih =>
    intro v2 M
    show J _ _ _ _ _ _ ((if 200 < v2 then
some ((-4), M)
else
bd (X_Model_whoIn n 0 a1 M) fun r5 M6 =>
(if r5 = 0 then
some (v2, M6)
else
bd (X_Model_aDay n 0 M6) fun _ M8 =>
X_Model_lives_L16 n a1 m (v2 + 1) M8)))
    refine j_iload_n (pc := 16) (q := 2) d_Model_lives_16 rfl rfl ?_
    refine j_sipush (pc := 17) d_Model_lives_17 k_s_200 ?_
    refine j_icmp_gt (pc := 20) (tgt := 45) d_Model_lives_20 (by decide) (fun _ => ?_) (fun _ => ?_)
    · refine j_bipush (pc := 45) d_Model_lives_45 k_b_m4 ?_
      exact j_ireturn (pc := 47) d_Model_lives_47 rfl
    · refine j_aload_n (pc := 23) (q := 0) d_Model_lives_23 rfl rfl ?_
      refine j_iconst (pc := 24) d_Model_lives_24 k_i_0 ?_
      refine j_iload_n (pc := 25) (q := 1) d_Model_lives_25 rfl rfl ?_
      refine j_callV2 (pc := 26) d_Model_lives_26 (C_Model_whoIn n 0 a1 M) cV_Model_262 cd_Model_whoIn dn_Model_whoIn rfl (by decide) (Nat.le_of_ble_eq_true rfl) (Nat.le_of_ble_eq_true rfl) nr_I sm_0 (by decide) rfl (fun r5 M6 => ?_)
      refine j_if_ne (pc := 29) (tgt := 34) d_Model_lives_29 (by decide) (fun _ => ?_) (fun _ => ?_)
      · refine j_aload_n (pc := 34) (q := 0) d_Model_lives_34 rfl rfl ?_
        refine j_iconst (pc := 35) d_Model_lives_35 k_i_0 ?_
        refine j_callV1 (pc := 36) d_Model_lives_36 (C_Model_aDay n 0 M6) cV_Model_378 cd_Model_aDay dn_Model_aDay rfl (by decide) (Nat.le_of_ble_eq_true rfl) (Nat.le_of_ble_eq_true rfl) nr_U sm_0 (by decide) rfl (fun r7 M8 => ?_)
        refine j_iinc (pc := 39) (q := 2) d_Model_lives_39 rfl (congrArg (v2 + ·) k_i_1) (by decide) rfl ?_
        refine j_goto (pc := 42) (tgt := 16) d_Model_lives_42 (by decide) ?_
        refine j_lv [1, 2, 0] rfl ?_
        exact ih (v2 + 1) M8
      · refine j_iload_n (pc := 32) (q := 2) d_Model_lives_32 rfl rfl ?_
        exact j_ireturn (pc := 33) d_Model_lives_33 rfl
set_option maxRecDepth 20000 in
set_option maxHeartbeats 4000000 in
theorem C_Model_lives (n : Nat)   (p1 : Int32) (M : Mem) : Ct y_Model_lives mt_Model_lives wI [Value.ref 0, Value.int p1] M (X_Model_lives n p1 M) := by
  refine ct_of (by decide +kernel) rfl (Nat.le_of_ble_eq_true rfl) ?_
  show J _ _ _ [(0, Value.ref 0), (1, Value.int p1)] _ _ _
  unfold X_Model_lives
  refine j_iload_n (pc := 0) (q := 1) d_Model_lives_0 rfl rfl ?_
  refine j_callS1 (pc := 1) d_Model_lives_1 (C_Model_isThing n p1 M) cS_Model_272 cd_Model_isThing dn_Model_isThing rfl (by decide) (Nat.le_of_ble_eq_true rfl) (Nat.le_of_ble_eq_true rfl) nr_I (fun r1 M2 => ?_)
  refine j_if_ne (pc := 4) (tgt := 9) d_Model_lives_4 (by decide) (fun _ => ?_) (fun _ => ?_)
  · refine j_aload_n (pc := 9) (q := 0) d_Model_lives_9 rfl rfl ?_
    refine j_iconst (pc := 10) d_Model_lives_10 k_i_0 ?_
    refine j_callV1 (pc := 11) d_Model_lives_11 (C_Model_begins n 0 M2) cV_Model_256 cd_Model_begins dn_Model_begins rfl (by decide) (Nat.le_of_ble_eq_true rfl) (Nat.le_of_ble_eq_true rfl) nr_U sm_0 (by decide) rfl (fun r3 M4 => ?_)
    refine j_iconst (pc := 14) d_Model_lives_14 k_i_0 ?_
    refine j_istore_n (pc := 15) d_Model_lives_15 rfl (by decide) rfl ?_
    refine j_lv [1, 2, 0] rfl ?_
    exact X_Model_lives_L16_ok   n 0 M4
  · refine j_iconst (pc := 7) d_Model_lives_7 k_i_m1 ?_
    exact j_ireturn (pc := 8) d_Model_lives_8 rfl
-- Model.isAs (II)Z
def mt_Model_isAs : Mt := ("ShakeHandsModel", b_Model_isAs, 5, some .boolean, 2, SHm)
theorem d_Model_isAs_0 : decode b_Model_isAs 0 = .ok (.iconst 1, 1) := by decide +kernel
theorem d_Model_isAs_1 : decode b_Model_isAs 1 = .ok (.istore_n 3, 1) := by decide +kernel
theorem d_Model_isAs_2 : decode b_Model_isAs 2 = .ok (.iconst 0, 1) := by decide +kernel
theorem d_Model_isAs_3 : decode b_Model_isAs 3 = .ok (.istore 4, 2) := by decide +kernel
theorem d_Model_isAs_5 : decode b_Model_isAs 5 = .ok (.iload 4, 2) := by decide +kernel
theorem d_Model_isAs_7 : decode b_Model_isAs 7 = .ok (.bipush 6, 2) := by decide +kernel
theorem d_Model_isAs_9 : decode b_Model_isAs 9 = .ok (.if_icmp .ge 47, 3) := by decide +kernel
theorem d_Model_isAs_12 : decode b_Model_isAs 12 = .ok (.iload_n 3, 1) := by decide +kernel
theorem d_Model_isAs_13 : decode b_Model_isAs 13 = .ok (.ifCond .eq 35, 3) := by decide +kernel
theorem d_Model_isAs_16 : decode b_Model_isAs 16 = .ok (.aload_n 0, 1) := by decide +kernel
theorem d_Model_isAs_17 : decode b_Model_isAs 17 = .ok (.getfield 68, 3) := by decide +kernel
theorem d_Model_isAs_20 : decode b_Model_isAs 20 = .ok (.bipush 6, 2) := by decide +kernel
theorem d_Model_isAs_22 : decode b_Model_isAs 22 = .ok (.iload_n 1, 1) := by decide +kernel
theorem d_Model_isAs_23 : decode b_Model_isAs 23 = .ok (.imul, 1) := by decide +kernel
theorem d_Model_isAs_24 : decode b_Model_isAs 24 = .ok (.iload 4, 2) := by decide +kernel
theorem d_Model_isAs_26 : decode b_Model_isAs 26 = .ok (.iadd, 1) := by decide +kernel
theorem d_Model_isAs_27 : decode b_Model_isAs 27 = .ok (.laload, 1) := by decide +kernel
theorem d_Model_isAs_28 : decode b_Model_isAs 28 = .ok (.aload_n 0, 1) := by decide +kernel
theorem d_Model_isAs_29 : decode b_Model_isAs 29 = .ok (.getfield 68, 3) := by decide +kernel
theorem d_Model_isAs_32 : decode b_Model_isAs 32 = .ok (.bipush 6, 2) := by decide +kernel
theorem d_Model_isAs_34 : decode b_Model_isAs 34 = .ok (.iload_n 2, 1) := by decide +kernel
theorem d_Model_isAs_35 : decode b_Model_isAs 35 = .ok (.imul, 1) := by decide +kernel
theorem d_Model_isAs_36 : decode b_Model_isAs 36 = .ok (.iload 4, 2) := by decide +kernel
theorem d_Model_isAs_38 : decode b_Model_isAs 38 = .ok (.iadd, 1) := by decide +kernel
theorem d_Model_isAs_39 : decode b_Model_isAs 39 = .ok (.laload, 1) := by decide +kernel
theorem d_Model_isAs_40 : decode b_Model_isAs 40 = .ok (.lcmp, 1) := by decide +kernel
theorem d_Model_isAs_41 : decode b_Model_isAs 41 = .ok (.ifCond .ne 7, 3) := by decide +kernel
theorem d_Model_isAs_44 : decode b_Model_isAs 44 = .ok (.iconst 1, 1) := by decide +kernel
theorem d_Model_isAs_45 : decode b_Model_isAs 45 = .ok (.goto 4, 3) := by decide +kernel
theorem d_Model_isAs_48 : decode b_Model_isAs 48 = .ok (.iconst 0, 1) := by decide +kernel
theorem d_Model_isAs_49 : decode b_Model_isAs 49 = .ok (.istore_n 3, 1) := by decide +kernel
theorem d_Model_isAs_50 : decode b_Model_isAs 50 = .ok (.iinc 4 1, 3) := by decide +kernel
theorem d_Model_isAs_53 : decode b_Model_isAs 53 = .ok (.goto (-48), 3) := by decide +kernel
theorem d_Model_isAs_56 : decode b_Model_isAs 56 = .ok (.iload_n 3, 1) := by decide +kernel
theorem d_Model_isAs_57 : decode b_Model_isAs 57 = .ok (.ireturn, 1) := by decide +kernel
def X_Model_isAs_L5 (n : Nat) (a1 : Int32) (a2 : Int32) (M : Mem) : Nat → Int32 → Int32 → Option (Int32 × Mem)
    | 0, _, _ => none
    | m + 1, v3, v4 => (if 6 ≤ v4 then
    zr v3 M
    else
    nm (fun (u1 : Int32) => (X_Model_isAs_L5 n a1 a2 M m u1 (v4 + 1) : Option (Int32 × Mem))) fun k49 =>
    (if v3 = 0 then
      k49 0
      else
      gd (((6 : Int32) * a1) + v4) 1206 (
        gd (((6 : Int32) * a2) + v4) 1206 (
          (if (lg_cmp (M.2 20 (((6 : Int32) * a1) + v4).toNatClampNeg) (M.2 20 (((6 : Int32) * a2) + v4).toNatClampNeg)) = 0 then
            k49 1
            else
            k49 0)))))
def X_Model_isAs (n : Nat) (p1 : Int32) (p2 : Int32) (M : Mem) : Option (Int32 × Mem) :=
  X_Model_isAs_L5 n p1 p2 M n 1 0
set_option maxRecDepth 20000 in
set_option maxHeartbeats 4000000 in
theorem X_Model_isAs_L5_ok {n : Nat} {a1 : Int32} {a2 : Int32} {M : Mem} : ∀ (m : Nat) (v3 : Int32) (v4 : Int32), J (mt_Model_isAs) wI 5 [(0, Value.ref 0), (1, Value.int a1), (2, Value.int a2), (3, Value.int v3), (4, Value.int v4)] [] M (X_Model_isAs_L5 n a1 a2 M m v3 v4) := by
  intro m
  induction m with
  | zero => intro _ _; exact j_none
  | succ m ih =>
    intro v3 v4
    show J _ _ _ _ _ _ ((if 6 ≤ v4 then
zr v3 M
else
nm (fun (u1 : Int32) => (X_Model_isAs_L5 n a1 a2 M m u1 (v4 + 1) : Option (Int32 × Mem))) fun k49 =>
(if v3 = 0 then
k49 0
else
gd (((6 : Int32) * a1) + v4) 1206 (
gd (((6 : Int32) * a2) + v4) 1206 (
(if (lg_cmp (M.2 20 (((6 : Int32) * a1) + v4).toNatClampNeg) (M.2 20 (((6 : Int32) * a2) + v4).toNatClampNeg)) = 0 then
k49 1
else
k49 0))))))
    refine j_iload (pc := 5) (q := 4) d_Model_isAs_5 rfl ?_
    refine j_bipush (pc := 7) d_Model_isAs_7 k_b_6 ?_
    refine j_icmp_ge (pc := 9) (tgt := 56) d_Model_isAs_9 (by decide) (fun _ => ?_) (fun _ => ?_)
    · refine j_iload_n (pc := 56) (q := 3) d_Model_isAs_56 rfl rfl ?_
      exact j_zr (pc := 57) d_Model_isAs_57 rfl
    · refine j_iload_n (pc := 12) (q := 3) d_Model_isAs_12 rfl rfl ?_
      refine j_nmk (fun k => ∀ (u1 : Int32), J (mt_Model_isAs) wI 49 [(0, Value.ref 0), (1, Value.int a1), (2, Value.int a2), (4, Value.int v4)] [Value.int u1] M (k u1)) (fun u1 => ?_) (fun k49 hk49 => ?_)
      · refine j_istore_n (pc := 49) d_Model_isAs_49 rfl (by decide) rfl ?_
        refine j_iinc (pc := 50) (q := 4) d_Model_isAs_50 rfl (congrArg (v4 + ·) k_i_1) (by decide) rfl ?_
        refine j_goto (pc := 53) (tgt := 5) d_Model_isAs_53 (by decide) ?_
        refine j_lv [2, 3, 4, 1, 0] rfl ?_
        exact ih u1 (v4 + 1)
      · refine j_if_eq (pc := 13) (tgt := 48) d_Model_isAs_13 (by decide) (fun _ => ?_) (fun _ => ?_)
        · refine j_iconst (pc := 48) d_Model_isAs_48 k_i_0 ?_
          refine j_lv [0, 1, 2, 4] rfl ?_
          exact hk49 0
        · refine j_aload_n (pc := 16) (q := 0) d_Model_isAs_16 rfl rfl ?_
          refine j_getA (pc := 17) d_Model_isAs_17 fl_Model_68 sm_0 (by decide) rfl ?_
          refine j_bipush (pc := 20) d_Model_isAs_20 k_b_6 ?_
          refine j_iload_n (pc := 22) (q := 1) d_Model_isAs_22 rfl rfl ?_
          refine j_imul (pc := 23) d_Model_isAs_23 ?_
          refine j_iload (pc := 24) (q := 4) d_Model_isAs_24 rfl ?_
          refine j_iadd (pc := 26) d_Model_isAs_26 ?_
          refine j_lald (pc := 27) d_Model_isAs_27 sm_20 (fun _ => ?_)
          refine j_aload_n (pc := 28) (q := 0) d_Model_isAs_28 rfl rfl ?_
          refine j_getA (pc := 29) d_Model_isAs_29 fl_Model_68 sm_0 (by decide) rfl ?_
          refine j_bipush (pc := 32) d_Model_isAs_32 k_b_6 ?_
          refine j_iload_n (pc := 34) (q := 2) d_Model_isAs_34 rfl rfl ?_
          refine j_imul (pc := 35) d_Model_isAs_35 ?_
          refine j_iload (pc := 36) (q := 4) d_Model_isAs_36 rfl ?_
          refine j_iadd (pc := 38) d_Model_isAs_38 ?_
          refine j_lald (pc := 39) d_Model_isAs_39 sm_20 (fun _ => ?_)
          refine j_lcmp (pc := 40) d_Model_isAs_40 ?_
          refine j_if_ne (pc := 41) (tgt := 48) d_Model_isAs_41 (by decide) (fun _ => ?_) (fun _ => ?_)
          · refine j_iconst (pc := 48) d_Model_isAs_48 k_i_0 ?_
            refine j_lv [0, 1, 2, 4] rfl ?_
            exact hk49 0
          · refine j_iconst (pc := 44) d_Model_isAs_44 k_i_1 ?_
            refine j_goto (pc := 45) (tgt := 49) d_Model_isAs_45 (by decide) ?_
            refine j_lv [0, 1, 2, 4] rfl ?_
            exact hk49 1
set_option maxRecDepth 20000 in
set_option maxHeartbeats 4000000 in
theorem C_Model_isAs (n : Nat)   (p1 : Int32) (p2 : Int32) (M : Mem) : Ct y_Model_isAs mt_Model_isAs wI [Value.ref 0, Value.int p1, Value.int p2] M (X_Model_isAs n p1 p2 M) := by
  refine ct_of (by decide +kernel) rfl (Nat.le_of_ble_eq_true rfl) ?_
  show J _ _ _ [(0, Value.ref 0), (1, Value.int p1), (2, Value.int p2)] _ _ _
  unfold X_Model_isAs
  refine j_iconst (pc := 0) d_Model_isAs_0 k_i_1 ?_
  refine j_istore_n (pc := 1) d_Model_isAs_1 rfl (by decide) rfl ?_
  refine j_iconst (pc := 2) d_Model_isAs_2 k_i_0 ?_
  refine j_istore (pc := 3) d_Model_isAs_3 (by decide) rfl ?_
  refine j_lv [2, 3, 4, 1, 0] rfl ?_
  exact X_Model_isAs_L5_ok   n 1 0
-- Model.notes (I)V
def mt_Model_notes : Mt := ("ShakeHandsModel", b_Model_notes, 6, none, 2, SHm)
theorem d_Model_notes_0 : decode b_Model_notes 0 = .ok (.iconst 0, 1) := by decide +kernel
theorem d_Model_notes_1 : decode b_Model_notes 1 = .ok (.istore_n 2, 1) := by decide +kernel
theorem d_Model_notes_2 : decode b_Model_notes 2 = .ok (.iload_n 2, 1) := by decide +kernel
theorem d_Model_notes_3 : decode b_Model_notes 3 = .ok (.bipush 6, 2) := by decide +kernel
theorem d_Model_notes_5 : decode b_Model_notes 5 = .ok (.if_icmp .ge 67, 3) := by decide +kernel
theorem d_Model_notes_8 : decode b_Model_notes 8 = .ok (.lconst 0, 1) := by decide +kernel
theorem d_Model_notes_9 : decode b_Model_notes 9 = .ok (.lstore_n 3, 1) := by decide +kernel
theorem d_Model_notes_10 : decode b_Model_notes 10 = .ok (.aload_n 0, 1) := by decide +kernel
theorem d_Model_notes_11 : decode b_Model_notes 11 = .ok (.getfield 53, 3) := by decide +kernel
theorem d_Model_notes_14 : decode b_Model_notes 14 = .ok (.bipush 10, 2) := by decide +kernel
theorem d_Model_notes_16 : decode b_Model_notes 16 = .ok (.iload_n 2, 1) := by decide +kernel
theorem d_Model_notes_17 : decode b_Model_notes 17 = .ok (.imul, 1) := by decide +kernel
theorem d_Model_notes_18 : decode b_Model_notes 18 = .ok (.iaload, 1) := by decide +kernel
theorem d_Model_notes_19 : decode b_Model_notes 19 = .ok (.istore 5, 2) := by decide +kernel
theorem d_Model_notes_21 : decode b_Model_notes 21 = .ok (.iload 5, 2) := by decide +kernel
theorem d_Model_notes_23 : decode b_Model_notes 23 = .ok (.ifCond .le 31, 3) := by decide +kernel
theorem d_Model_notes_26 : decode b_Model_notes 26 = .ok (.ldc2_w 381, 3) := by decide +kernel
theorem d_Model_notes_29 : decode b_Model_notes 29 = .ok (.lload_n 3, 1) := by decide +kernel
theorem d_Model_notes_30 : decode b_Model_notes 30 = .ok (.lmul, 1) := by decide +kernel
theorem d_Model_notes_31 : decode b_Model_notes 31 = .ok (.aload_n 0, 1) := by decide +kernel
theorem d_Model_notes_32 : decode b_Model_notes 32 = .ok (.getfield 53, 3) := by decide +kernel
theorem d_Model_notes_35 : decode b_Model_notes 35 = .ok (.bipush 10, 2) := by decide +kernel
theorem d_Model_notes_37 : decode b_Model_notes 37 = .ok (.iload_n 2, 1) := by decide +kernel
theorem d_Model_notes_38 : decode b_Model_notes 38 = .ok (.imul, 1) := by decide +kernel
theorem d_Model_notes_39 : decode b_Model_notes 39 = .ok (.iload 5, 2) := by decide +kernel
theorem d_Model_notes_41 : decode b_Model_notes 41 = .ok (.iadd, 1) := by decide +kernel
theorem d_Model_notes_42 : decode b_Model_notes 42 = .ok (.iaload, 1) := by decide +kernel
theorem d_Model_notes_43 : decode b_Model_notes 43 = .ok (.i2l, 1) := by decide +kernel
theorem d_Model_notes_44 : decode b_Model_notes 44 = .ok (.ladd, 1) := by decide +kernel
theorem d_Model_notes_45 : decode b_Model_notes 45 = .ok (.lconst 1, 1) := by decide +kernel
theorem d_Model_notes_46 : decode b_Model_notes 46 = .ok (.ladd, 1) := by decide +kernel
theorem d_Model_notes_47 : decode b_Model_notes 47 = .ok (.lstore_n 3, 1) := by decide +kernel
theorem d_Model_notes_48 : decode b_Model_notes 48 = .ok (.iinc 5 (-1), 3) := by decide +kernel
theorem d_Model_notes_51 : decode b_Model_notes 51 = .ok (.goto (-30), 3) := by decide +kernel
theorem d_Model_notes_54 : decode b_Model_notes 54 = .ok (.aload_n 0, 1) := by decide +kernel
theorem d_Model_notes_55 : decode b_Model_notes 55 = .ok (.getfield 68, 3) := by decide +kernel
theorem d_Model_notes_58 : decode b_Model_notes 58 = .ok (.bipush 6, 2) := by decide +kernel
theorem d_Model_notes_60 : decode b_Model_notes 60 = .ok (.iload_n 1, 1) := by decide +kernel
theorem d_Model_notes_61 : decode b_Model_notes 61 = .ok (.imul, 1) := by decide +kernel
theorem d_Model_notes_62 : decode b_Model_notes 62 = .ok (.iload_n 2, 1) := by decide +kernel
theorem d_Model_notes_63 : decode b_Model_notes 63 = .ok (.iadd, 1) := by decide +kernel
theorem d_Model_notes_64 : decode b_Model_notes 64 = .ok (.lload_n 3, 1) := by decide +kernel
theorem d_Model_notes_65 : decode b_Model_notes 65 = .ok (.lastore, 1) := by decide +kernel
theorem d_Model_notes_66 : decode b_Model_notes 66 = .ok (.iinc 2 1, 3) := by decide +kernel
theorem d_Model_notes_69 : decode b_Model_notes 69 = .ok (.goto (-67), 3) := by decide +kernel
theorem d_Model_notes_72 : decode b_Model_notes 72 = .ok (.return_, 1) := by decide +kernel
def X_Model_notes_L21 (n : Nat) (a1 : Int32) (a2 : Int32) (kx54 : Int64 → Option (Unit × Mem)) (M : Mem) : Nat → Int64 → Int32 → Option (Unit × Mem)
    | 0, _, _ => none
    | m + 1, v3, v5 => (if v5 ≤ 0 then
    kx54 v3
    else
    gd (((10 : Int32) * a2) + v5) 600 (
      nm ((((17 : Int64) * v3) + (((M.1 15 (((10 : Int32) * a2) + v5).toNatClampNeg) : Int32).toInt64)) + 1) fun x2 =>
      X_Model_notes_L21 n a1 a2 kx54 M m x2 (v5 + (-1))))
def X_Model_notes_L2 (n : Nat) (a1 : Int32) : Nat → Int32 → Mem → Option (Unit × Mem)
    | 0, _, _ => none
    | m + 1, v2, M => (if 6 ≤ v2 then
    some ((), M)
    else
    gd ((10 : Int32) * v2) 600 (
      nm (M.1 15 ((10 : Int32) * v2).toNatClampNeg) fun x1 =>
      X_Model_notes_L21 n a1 v2 (fun y3 => gd (((6 : Int32) * a1) + v2) 1206 (
          X_Model_notes_L2 n a1 m (v2 + 1) (sl M 20 ((((6 : Int32) * a1) + v2).toNatClampNeg) y3))) M n 0 x1))
def X_Model_notes (n : Nat) (p1 : Int32) (M : Mem) : Option (Unit × Mem) :=
  X_Model_notes_L2 n p1 n 0 M
set_option maxRecDepth 20000 in
set_option maxHeartbeats 4000000 in
theorem X_Model_notes_L21_ok {n : Nat} {a1 : Int32} {a2 : Int32} {kx54 : Int64 → Option (Unit × Mem)} {M : Mem} (hkx54 : ∀ (w3 : Int64), J (mt_Model_notes) wU 54 [(0, Value.ref 0), (1, Value.int a1), (2, Value.int a2), (3, Value.long w3)] [] M (kx54 w3)) : ∀ (m : Nat) (v3 : Int64) (v5 : Int32), J (mt_Model_notes) wU 21 [(0, Value.ref 0), (1, Value.int a1), (2, Value.int a2), (3, Value.long v3), (5, Value.int v5)] [] M (X_Model_notes_L21 n a1 a2 kx54 M m v3 v5) := by
  intro m
  induction m with
  | zero => intro _ _; exact j_none
  | succ m ih =>
    intro v3 v5
    show J _ _ _ _ _ _ ((if v5 ≤ 0 then
kx54 v3
else
gd (((10 : Int32) * a2) + v5) 600 (
nm ((((17 : Int64) * v3) + (((M.1 15 (((10 : Int32) * a2) + v5).toNatClampNeg) : Int32).toInt64)) + 1) fun x2 =>
X_Model_notes_L21 n a1 a2 kx54 M m x2 (v5 + (-1)))))
    refine j_iload (pc := 21) (q := 4) d_Model_notes_21 rfl ?_
    refine j_if_le (pc := 23) (tgt := 54) d_Model_notes_23 (by decide) (fun _ => ?_) (fun _ => ?_)
    · refine j_lv [0, 1, 2, 3] rfl ?_
      exact hkx54 v3
    · refine j_ldc2 (pc := 26) d_Model_notes_26 cl_Model_381 ?_
      refine j_lload_n (pc := 29) (q := 3) d_Model_notes_29 rfl rfl ?_
      refine j_lmul (pc := 30) d_Model_notes_30 ?_
      refine j_aload_n (pc := 31) (q := 0) d_Model_notes_31 rfl rfl ?_
      refine j_getA (pc := 32) d_Model_notes_32 fl_Model_53 sm_0 (by decide) rfl ?_
      refine j_bipush (pc := 35) d_Model_notes_35 k_b_10 ?_
      refine j_iload_n (pc := 37) (q := 2) d_Model_notes_37 rfl rfl ?_
      refine j_imul (pc := 38) d_Model_notes_38 ?_
      refine j_iload (pc := 39) (q := 4) d_Model_notes_39 rfl ?_
      refine j_iadd (pc := 41) d_Model_notes_41 ?_
      refine j_iald (pc := 42) d_Model_notes_42 sm_15 (fun _ => ?_)
      refine j_i2l (pc := 43) d_Model_notes_43 ?_
      refine j_ladd (pc := 44) d_Model_notes_44 ?_
      refine j_lconst (pc := 45) d_Model_notes_45 k_l_1 ?_
      refine j_ladd (pc := 46) d_Model_notes_46 ?_
      refine j_nml (fun x2 => ?_)
      refine j_lstore_n (pc := 47) d_Model_notes_47 rfl (by decide) rfl ?_
      refine j_iinc (pc := 48) (q := 4) d_Model_notes_48 rfl (congrArg (v5 + ·) k_i_m1) (by decide) rfl ?_
      refine j_goto (pc := 51) (tgt := 21) d_Model_notes_51 (by decide) ?_
      refine j_lv [2, 3, 4, 1, 0] rfl ?_
      exact ih x2 (v5 + (-1))
set_option maxRecDepth 20000 in
set_option maxHeartbeats 4000000 in
theorem X_Model_notes_L2_ok {n : Nat} {a1 : Int32} : ∀ (m : Nat) (v2 : Int32) (M : Mem), J (mt_Model_notes) wU 2 [(0, Value.ref 0), (1, Value.int a1), (2, Value.int v2)] [] M (X_Model_notes_L2 n a1 m v2 M) := by
  intro m
  induction m with
  | zero => intro _ _; exact j_none
  | succ m ih =>
    intro v2 M
    show J _ _ _ _ _ _ ((if 6 ≤ v2 then
some ((), M)
else
gd ((10 : Int32) * v2) 600 (
nm (M.1 15 ((10 : Int32) * v2).toNatClampNeg) fun x1 =>
X_Model_notes_L21 n a1 v2 (fun y3 => gd (((6 : Int32) * a1) + v2) 1206 (
X_Model_notes_L2 n a1 m (v2 + 1) (sl M 20 ((((6 : Int32) * a1) + v2).toNatClampNeg) y3))) M n 0 x1)))
    refine j_iload_n (pc := 2) (q := 2) d_Model_notes_2 rfl rfl ?_
    refine j_bipush (pc := 3) d_Model_notes_3 k_b_6 ?_
    refine j_icmp_ge (pc := 5) (tgt := 72) d_Model_notes_5 (by decide) (fun _ => ?_) (fun _ => ?_)
    · exact j_return (pc := 72) d_Model_notes_72 rfl
    · refine j_lconst (pc := 8) d_Model_notes_8 k_l_0 ?_
      refine j_lstore_n (pc := 9) d_Model_notes_9 rfl (by decide) rfl ?_
      refine j_aload_n (pc := 10) (q := 1) d_Model_notes_10 rfl rfl ?_
      refine j_getA (pc := 11) d_Model_notes_11 fl_Model_53 sm_0 (by decide) rfl ?_
      refine j_bipush (pc := 14) d_Model_notes_14 k_b_10 ?_
      refine j_iload_n (pc := 16) (q := 3) d_Model_notes_16 rfl rfl ?_
      refine j_imul (pc := 17) d_Model_notes_17 ?_
      refine j_iald (pc := 18) d_Model_notes_18 sm_15 (fun _ => ?_)
      refine j_nmi (fun x1 => ?_)
      refine j_istore (pc := 19) d_Model_notes_19 (by decide) rfl ?_
      refine j_lv [2, 3, 4, 1, 0] rfl ?_
      refine X_Model_notes_L21_ok  (fun y3 => ?_) n 0 x1
      refine j_aload_n (pc := 54) (q := 0) d_Model_notes_54 rfl rfl ?_
      refine j_getA (pc := 55) d_Model_notes_55 fl_Model_68 sm_0 (by decide) rfl ?_
      refine j_bipush (pc := 58) d_Model_notes_58 k_b_6 ?_
      refine j_iload_n (pc := 60) (q := 1) d_Model_notes_60 rfl rfl ?_
      refine j_imul (pc := 61) d_Model_notes_61 ?_
      refine j_iload_n (pc := 62) (q := 2) d_Model_notes_62 rfl rfl ?_
      refine j_iadd (pc := 63) d_Model_notes_63 ?_
      refine j_lload_n (pc := 64) (q := 3) d_Model_notes_64 rfl rfl ?_
      refine j_last (pc := 65) d_Model_notes_65 sm_20 (fun _ => ?_)
      refine j_iinc (pc := 66) (q := 2) d_Model_notes_66 rfl (congrArg (v2 + ·) k_i_1) (by decide) rfl ?_
      refine j_goto (pc := 69) (tgt := 2) d_Model_notes_69 (by decide) ?_
      refine j_lv [1, 2, 0] rfl ?_
      exact ih (v2 + 1) (sl M 20 ((((6 : Int32) * a1) + v2).toNatClampNeg) y3)
set_option maxRecDepth 20000 in
set_option maxHeartbeats 4000000 in
theorem C_Model_notes (n : Nat)   (p1 : Int32) (M : Mem) : Ct y_Model_notes mt_Model_notes wU [Value.ref 0, Value.int p1] M (X_Model_notes n p1 M) := by
  refine ct_of (by decide +kernel) rfl (Nat.le_of_ble_eq_true rfl) ?_
  show J _ _ _ [(0, Value.ref 0), (1, Value.int p1)] _ _ _
  unfold X_Model_notes
  refine j_iconst (pc := 0) d_Model_notes_0 k_i_0 ?_
  refine j_istore_n (pc := 1) d_Model_notes_1 rfl (by decide) rfl ?_
  refine j_lv [1, 2, 0] rfl ?_
  exact X_Model_notes_L2_ok   n 0 M
-- Model.comes (I)I
def mt_Model_comes : Mt := ("ShakeHandsModel", b_Model_comes, 4, some .int, 7, SHm)
theorem d_Model_comes_0 : decode b_Model_comes 0 = .ok (.iload_n 1, 1) := by decide +kernel
theorem d_Model_comes_1 : decode b_Model_comes 1 = .ok (.i2l, 1) := by decide +kernel
theorem d_Model_comes_2 : decode b_Model_comes 2 = .ok (.lconst 0, 1) := by decide +kernel
theorem d_Model_comes_3 : decode b_Model_comes 3 = .ok (.lconst 1, 1) := by decide +kernel
theorem d_Model_comes_4 : decode b_Model_comes 4 = .ok (.invokestatic 143, 3) := by decide +kernel
theorem d_Model_comes_7 : decode b_Model_comes 7 = .ok (.ifCond .ne 5, 3) := by decide +kernel
theorem d_Model_comes_10 : decode b_Model_comes 10 = .ok (.iconst (-1), 1) := by decide +kernel
theorem d_Model_comes_11 : decode b_Model_comes 11 = .ok (.ireturn, 1) := by decide +kernel
theorem d_Model_comes_12 : decode b_Model_comes 12 = .ok (.aload_n 0, 1) := by decide +kernel
theorem d_Model_comes_13 : decode b_Model_comes 13 = .ok (.iconst 0, 1) := by decide +kernel
theorem d_Model_comes_14 : decode b_Model_comes 14 = .ok (.invokevirtual 256, 3) := by decide +kernel
theorem d_Model_comes_17 : decode b_Model_comes 17 = .ok (.aload_n 0, 1) := by decide +kernel
theorem d_Model_comes_18 : decode b_Model_comes 18 = .ok (.iconst 0, 1) := by decide +kernel
theorem d_Model_comes_19 : decode b_Model_comes 19 = .ok (.invokevirtual 383, 3) := by decide +kernel
theorem d_Model_comes_22 : decode b_Model_comes 22 = .ok (.iconst 1, 1) := by decide +kernel
theorem d_Model_comes_23 : decode b_Model_comes 23 = .ok (.istore_n 2, 1) := by decide +kernel
theorem d_Model_comes_24 : decode b_Model_comes 24 = .ok (.iload_n 2, 1) := by decide +kernel
theorem d_Model_comes_25 : decode b_Model_comes 25 = .ok (.sipush 200, 3) := by decide +kernel
theorem d_Model_comes_28 : decode b_Model_comes 28 = .ok (.if_icmp .gt 53, 3) := by decide +kernel
theorem d_Model_comes_31 : decode b_Model_comes 31 = .ok (.aload_n 0, 1) := by decide +kernel
theorem d_Model_comes_32 : decode b_Model_comes 32 = .ok (.iconst 0, 1) := by decide +kernel
theorem d_Model_comes_33 : decode b_Model_comes 33 = .ok (.invokevirtual 378, 3) := by decide +kernel
theorem d_Model_comes_36 : decode b_Model_comes 36 = .ok (.aload_n 0, 1) := by decide +kernel
theorem d_Model_comes_37 : decode b_Model_comes 37 = .ok (.iload_n 2, 1) := by decide +kernel
theorem d_Model_comes_38 : decode b_Model_comes 38 = .ok (.invokevirtual 383, 3) := by decide +kernel
theorem d_Model_comes_41 : decode b_Model_comes 41 = .ok (.iconst 0, 1) := by decide +kernel
theorem d_Model_comes_42 : decode b_Model_comes 42 = .ok (.istore_n 3, 1) := by decide +kernel
theorem d_Model_comes_43 : decode b_Model_comes 43 = .ok (.iload_n 3, 1) := by decide +kernel
theorem d_Model_comes_44 : decode b_Model_comes 44 = .ok (.iload_n 2, 1) := by decide +kernel
theorem d_Model_comes_45 : decode b_Model_comes 45 = .ok (.if_icmp .ge 30, 3) := by decide +kernel
theorem d_Model_comes_48 : decode b_Model_comes 48 = .ok (.aload_n 0, 1) := by decide +kernel
theorem d_Model_comes_49 : decode b_Model_comes 49 = .ok (.iload_n 3, 1) := by decide +kernel
theorem d_Model_comes_50 : decode b_Model_comes 50 = .ok (.iload_n 2, 1) := by decide +kernel
theorem d_Model_comes_51 : decode b_Model_comes 51 = .ok (.invokevirtual 386, 3) := by decide +kernel
theorem d_Model_comes_54 : decode b_Model_comes 54 = .ok (.ifCond .eq 15, 3) := by decide +kernel
theorem d_Model_comes_57 : decode b_Model_comes 57 = .ok (.iload_n 1, 1) := by decide +kernel
theorem d_Model_comes_58 : decode b_Model_comes 58 = .ok (.ifCond .ne 7, 3) := by decide +kernel
theorem d_Model_comes_61 : decode b_Model_comes 61 = .ok (.iload_n 3, 1) := by decide +kernel
theorem d_Model_comes_62 : decode b_Model_comes 62 = .ok (.goto 6, 3) := by decide +kernel
theorem d_Model_comes_65 : decode b_Model_comes 65 = .ok (.iload_n 2, 1) := by decide +kernel
theorem d_Model_comes_66 : decode b_Model_comes 66 = .ok (.iload_n 3, 1) := by decide +kernel
theorem d_Model_comes_67 : decode b_Model_comes 67 = .ok (.isub, 1) := by decide +kernel
theorem d_Model_comes_68 : decode b_Model_comes 68 = .ok (.ireturn, 1) := by decide +kernel
theorem d_Model_comes_69 : decode b_Model_comes 69 = .ok (.iinc 3 1, 3) := by decide +kernel
theorem d_Model_comes_72 : decode b_Model_comes 72 = .ok (.goto (-29), 3) := by decide +kernel
theorem d_Model_comes_75 : decode b_Model_comes 75 = .ok (.iinc 2 1, 3) := by decide +kernel
theorem d_Model_comes_78 : decode b_Model_comes 78 = .ok (.goto (-54), 3) := by decide +kernel
theorem d_Model_comes_81 : decode b_Model_comes 81 = .ok (.bipush (-4), 2) := by decide +kernel
theorem d_Model_comes_83 : decode b_Model_comes 83 = .ok (.ireturn, 1) := by decide +kernel
def X_Model_comes_L43 (n : Nat) (a1 : Int32) (a2 : Int32) (kx75 : Mem → Option (Int32 × Mem)) (kx57 : Int32 → Mem → Option (Int32 × Mem)) : Nat → Int32 → Mem → Option (Int32 × Mem)
    | 0, _, _ => none
    | m + 1, v3, M => (if a2 ≤ v3 then
    kx75 M
    else
    bd (X_Model_isAs n v3 a2 M) fun r11 M12 =>
    (if r11 = 0 then
      X_Model_comes_L43 n a1 a2 kx75 kx57 m (v3 + 1) M12
      else
      kx57 v3 M12))
def X_Model_comes_L24 (n : Nat) (a1 : Int32) (kx57 : Int32 → Int32 → Mem → Option (Int32 × Mem)) : Nat → Int32 → Mem → Option (Int32 × Mem)
    | 0, _, _ => none
    | m + 1, v2, M => (if 200 < v2 then
    some ((-4), M)
    else
    bd (X_Model_aDay n 0 M) fun _ M8 =>
    bd (X_Model_notes n v2 M8) fun _ M10 =>
    X_Model_comes_L43 n a1 v2 (fun M13 => X_Model_comes_L24 n a1 kx57 m (v2 + 1) M13) (fun y14 M15 => kx57 v2 y14 M15) n 0 M10)
def X_Model_comes (n : Nat) (p1 : Int32) (M : Mem) : Option (Int32 × Mem) :=
  bd (X_Model_in n (p1.toInt64) 0 1 M) fun r1 M2 =>
  (if r1 = 0 then
    some ((-1), M2)
    else
    bd (X_Model_begins n 0 M2) fun _ M4 =>
    bd (X_Model_notes n 0 M4) fun _ M6 =>
    X_Model_comes_L24 n p1 (fun y16 y17 M18 => (if p1 = 0 then
        some (y17, M18)
        else
        some ((y16 - y17), M18))) n 1 M6)
set_option maxRecDepth 20000 in
set_option maxHeartbeats 4000000 in
theorem X_Model_comes_L43_ok {n : Nat} {a1 : Int32} {a2 : Int32} {kx75 : Mem → Option (Int32 × Mem)} {kx57 : Int32 → Mem → Option (Int32 × Mem)} (hkx75 : ∀ (M : Mem), J (mt_Model_comes) wI 75 [(0, Value.ref 0), (1, Value.int a1), (2, Value.int a2)] [] M (kx75 M)) (hkx57 : ∀ (w3 : Int32) (M : Mem), J (mt_Model_comes) wI 57 [(1, Value.int a1), (2, Value.int a2), (3, Value.int w3)] [] M (kx57 w3 M)) : ∀ (m : Nat) (v3 : Int32) (M : Mem), J (mt_Model_comes) wI 43 [(0, Value.ref 0), (1, Value.int a1), (2, Value.int a2), (3, Value.int v3)] [] M (X_Model_comes_L43 n a1 a2 kx75 kx57 m v3 M) := by
  intro m
  induction m with
  | zero => intro _ _; exact j_none
  | succ m ih =>
    intro v3 M
    show J _ _ _ _ _ _ ((if a2 ≤ v3 then
kx75 M
else
bd (X_Model_isAs n v3 a2 M) fun r11 M12 =>
(if r11 = 0 then
X_Model_comes_L43 n a1 a2 kx75 kx57 m (v3 + 1) M12
else
kx57 v3 M12)))
    refine j_iload_n (pc := 43) (q := 3) d_Model_comes_43 rfl rfl ?_
    refine j_iload_n (pc := 44) (q := 2) d_Model_comes_44 rfl rfl ?_
    refine j_icmp_ge (pc := 45) (tgt := 75) d_Model_comes_45 (by decide) (fun _ => ?_) (fun _ => ?_)
    · refine j_lv [0, 1, 2] rfl ?_
      exact hkx75 M
    · refine j_aload_n (pc := 48) (q := 0) d_Model_comes_48 rfl rfl ?_
      refine j_iload_n (pc := 49) (q := 3) d_Model_comes_49 rfl rfl ?_
      refine j_iload_n (pc := 50) (q := 2) d_Model_comes_50 rfl rfl ?_
      refine j_callV2 (pc := 51) d_Model_comes_51 (C_Model_isAs n v3 a2 M) cV_Model_386 cd_Model_isAs dn_Model_isAs rfl (by decide) (Nat.le_of_ble_eq_true rfl) (Nat.le_of_ble_eq_true rfl) nr_I sm_0 (by decide) rfl (fun r11 M12 => ?_)
      refine j_if_eq (pc := 54) (tgt := 69) d_Model_comes_54 (by decide) (fun _ => ?_) (fun _ => ?_)
      · refine j_iinc (pc := 69) (q := 3) d_Model_comes_69 rfl (congrArg (v3 + ·) k_i_1) (by decide) rfl ?_
        refine j_goto (pc := 72) (tgt := 43) d_Model_comes_72 (by decide) ?_
        refine j_lv [1, 2, 3, 0] rfl ?_
        exact ih (v3 + 1) M12
      · refine j_lv [1, 2, 3] rfl ?_
        exact hkx57 v3 M12
set_option maxRecDepth 20000 in
set_option maxHeartbeats 4000000 in
theorem X_Model_comes_L24_ok {n : Nat} {a1 : Int32} {kx57 : Int32 → Int32 → Mem → Option (Int32 × Mem)} (hkx57 : ∀ (w2 : Int32) (w3 : Int32) (M : Mem), J (mt_Model_comes) wI 57 [(1, Value.int a1), (2, Value.int w2), (3, Value.int w3)] [] M (kx57 w2 w3 M)) : ∀ (m : Nat) (v2 : Int32) (M : Mem), J (mt_Model_comes) wI 24 [(0, Value.ref 0), (1, Value.int a1), (2, Value.int v2)] [] M (X_Model_comes_L24 n a1 kx57 m v2 M) := by
  intro m
  induction m with
  | zero => intro _ _; exact j_none
  | succ m ih =>
    intro v2 M
    show J _ _ _ _ _ _ ((if 200 < v2 then
some ((-4), M)
else
bd (X_Model_aDay n 0 M) fun _ M8 =>
bd (X_Model_notes n v2 M8) fun _ M10 =>
X_Model_comes_L43 n a1 v2 (fun M13 => X_Model_comes_L24 n a1 kx57 m (v2 + 1) M13) (fun y14 M15 => kx57 v2 y14 M15) n 0 M10))
    refine j_iload_n (pc := 24) (q := 2) d_Model_comes_24 rfl rfl ?_
    refine j_sipush (pc := 25) d_Model_comes_25 k_s_200 ?_
    refine j_icmp_gt (pc := 28) (tgt := 81) d_Model_comes_28 (by decide) (fun _ => ?_) (fun _ => ?_)
    · refine j_bipush (pc := 81) d_Model_comes_81 k_b_m4 ?_
      exact j_ireturn (pc := 83) d_Model_comes_83 rfl
    · refine j_aload_n (pc := 31) (q := 0) d_Model_comes_31 rfl rfl ?_
      refine j_iconst (pc := 32) d_Model_comes_32 k_i_0 ?_
      refine j_callV1 (pc := 33) d_Model_comes_33 (C_Model_aDay n 0 M) cV_Model_378 cd_Model_aDay dn_Model_aDay rfl (by decide) (Nat.le_of_ble_eq_true rfl) (Nat.le_of_ble_eq_true rfl) nr_U sm_0 (by decide) rfl (fun r7 M8 => ?_)
      refine j_aload_n (pc := 36) (q := 0) d_Model_comes_36 rfl rfl ?_
      refine j_iload_n (pc := 37) (q := 2) d_Model_comes_37 rfl rfl ?_
      refine j_callV1 (pc := 38) d_Model_comes_38 (C_Model_notes n v2 M8) cV_Model_383 cd_Model_notes dn_Model_notes rfl (by decide) (Nat.le_of_ble_eq_true rfl) (Nat.le_of_ble_eq_true rfl) nr_U sm_0 (by decide) rfl (fun r9 M10 => ?_)
      refine j_iconst (pc := 41) d_Model_comes_41 k_i_0 ?_
      refine j_istore_n (pc := 42) d_Model_comes_42 rfl (by decide) rfl ?_
      refine j_lv [1, 2, 3, 0] rfl ?_
      refine X_Model_comes_L43_ok  (fun M13 => ?_) (fun y14 M15 => ?_) n 0 M10
      · refine j_iinc (pc := 75) (q := 2) d_Model_comes_75 rfl (congrArg (v2 + ·) k_i_1) (by decide) rfl ?_
        refine j_goto (pc := 78) (tgt := 24) d_Model_comes_78 (by decide) ?_
        refine j_lv [1, 2, 0] rfl ?_
        exact ih (v2 + 1) M13
      · exact hkx57 v2 y14 M15
set_option maxRecDepth 20000 in
set_option maxHeartbeats 4000000 in
theorem C_Model_comes (n : Nat)   (p1 : Int32) (M : Mem) : Ct y_Model_comes mt_Model_comes wI [Value.ref 0, Value.int p1] M (X_Model_comes n p1 M) := by
  refine ct_of (by decide +kernel) rfl (Nat.le_of_ble_eq_true rfl) ?_
  show J _ _ _ [(0, Value.ref 0), (1, Value.int p1)] _ _ _
  unfold X_Model_comes
  refine j_iload_n (pc := 0) (q := 1) d_Model_comes_0 rfl rfl ?_
  refine j_i2l (pc := 1) d_Model_comes_1 ?_
  refine j_lconst (pc := 2) d_Model_comes_2 k_l_0 ?_
  refine j_lconst (pc := 3) d_Model_comes_3 k_l_1 ?_
  refine j_callS3 (pc := 4) d_Model_comes_4 (C_Model_in n (p1.toInt64) 0 1 M) cS_Model_143 cd_Model_in dn_Model_in rfl (by decide) (Nat.le_of_ble_eq_true rfl) (Nat.le_of_ble_eq_true rfl) nr_I (fun r1 M2 => ?_)
  refine j_if_ne (pc := 7) (tgt := 12) d_Model_comes_7 (by decide) (fun _ => ?_) (fun _ => ?_)
  · refine j_aload_n (pc := 12) (q := 0) d_Model_comes_12 rfl rfl ?_
    refine j_iconst (pc := 13) d_Model_comes_13 k_i_0 ?_
    refine j_callV1 (pc := 14) d_Model_comes_14 (C_Model_begins n 0 M2) cV_Model_256 cd_Model_begins dn_Model_begins rfl (by decide) (Nat.le_of_ble_eq_true rfl) (Nat.le_of_ble_eq_true rfl) nr_U sm_0 (by decide) rfl (fun r3 M4 => ?_)
    refine j_aload_n (pc := 17) (q := 0) d_Model_comes_17 rfl rfl ?_
    refine j_iconst (pc := 18) d_Model_comes_18 k_i_0 ?_
    refine j_callV1 (pc := 19) d_Model_comes_19 (C_Model_notes n 0 M4) cV_Model_383 cd_Model_notes dn_Model_notes rfl (by decide) (Nat.le_of_ble_eq_true rfl) (Nat.le_of_ble_eq_true rfl) nr_U sm_0 (by decide) rfl (fun r5 M6 => ?_)
    refine j_iconst (pc := 22) d_Model_comes_22 k_i_1 ?_
    refine j_istore_n (pc := 23) d_Model_comes_23 rfl (by decide) rfl ?_
    refine j_lv [1, 2, 0] rfl ?_
    refine X_Model_comes_L24_ok  (fun y16 y17 M18 => ?_) n 1 M6
    refine j_iload_n (pc := 57) (q := 0) d_Model_comes_57 rfl rfl ?_
    refine j_if_ne (pc := 58) (tgt := 65) d_Model_comes_58 (by decide) (fun _ => ?_) (fun _ => ?_)
    · refine j_iload_n (pc := 65) (q := 1) d_Model_comes_65 rfl rfl ?_
      refine j_iload_n (pc := 66) (q := 2) d_Model_comes_66 rfl rfl ?_
      refine j_isub (pc := 67) d_Model_comes_67 ?_
      exact j_ireturn (pc := 68) d_Model_comes_68 rfl
    · refine j_iload_n (pc := 61) (q := 2) d_Model_comes_61 rfl rfl ?_
      refine j_goto (pc := 62) (tgt := 68) d_Model_comes_62 (by decide) ?_
      exact j_ireturn (pc := 68) d_Model_comes_68 rfl
  · refine j_iconst (pc := 10) d_Model_comes_10 k_i_m1 ?_
    exact j_ireturn (pc := 11) d_Model_comes_11 rfl
-- Model.days (I)I
def mt_Model_days : Mt := ("ShakeHandsModel", b_Model_days, 3, some .int, 7, SHm)
theorem d_Model_days_0 : decode b_Model_days 0 = .ok (.iload_n 1, 1) := by decide +kernel
theorem d_Model_days_1 : decode b_Model_days 1 = .ok (.i2l, 1) := by decide +kernel
theorem d_Model_days_2 : decode b_Model_days 2 = .ok (.lconst 1, 1) := by decide +kernel
theorem d_Model_days_3 : decode b_Model_days 3 = .ok (.ldc2_w 389, 3) := by decide +kernel
theorem d_Model_days_6 : decode b_Model_days 6 = .ok (.invokestatic 143, 3) := by decide +kernel
theorem d_Model_days_9 : decode b_Model_days 9 = .ok (.ifCond .ne 5, 3) := by decide +kernel
theorem d_Model_days_12 : decode b_Model_days 12 = .ok (.iconst (-1), 1) := by decide +kernel
theorem d_Model_days_13 : decode b_Model_days 13 = .ok (.ireturn, 1) := by decide +kernel
theorem d_Model_days_14 : decode b_Model_days 14 = .ok (.aload_n 0, 1) := by decide +kernel
theorem d_Model_days_15 : decode b_Model_days 15 = .ok (.iconst 0, 1) := by decide +kernel
theorem d_Model_days_16 : decode b_Model_days 16 = .ok (.invokevirtual 256, 3) := by decide +kernel
theorem d_Model_days_19 : decode b_Model_days 19 = .ok (.iconst 0, 1) := by decide +kernel
theorem d_Model_days_20 : decode b_Model_days 20 = .ok (.istore_n 2, 1) := by decide +kernel
theorem d_Model_days_21 : decode b_Model_days 21 = .ok (.iload_n 2, 1) := by decide +kernel
theorem d_Model_days_22 : decode b_Model_days 22 = .ok (.iload_n 1, 1) := by decide +kernel
theorem d_Model_days_23 : decode b_Model_days 23 = .ok (.if_icmp .ge 14, 3) := by decide +kernel
theorem d_Model_days_26 : decode b_Model_days 26 = .ok (.aload_n 0, 1) := by decide +kernel
theorem d_Model_days_27 : decode b_Model_days 27 = .ok (.iconst 0, 1) := by decide +kernel
theorem d_Model_days_28 : decode b_Model_days 28 = .ok (.invokevirtual 378, 3) := by decide +kernel
theorem d_Model_days_31 : decode b_Model_days 31 = .ok (.iinc 2 1, 3) := by decide +kernel
theorem d_Model_days_34 : decode b_Model_days 34 = .ok (.goto (-13), 3) := by decide +kernel
theorem d_Model_days_37 : decode b_Model_days 37 = .ok (.aload_n 0, 1) := by decide +kernel
theorem d_Model_days_38 : decode b_Model_days 38 = .ok (.iconst 0, 1) := by decide +kernel
theorem d_Model_days_39 : decode b_Model_days 39 = .ok (.invokevirtual 286, 3) := by decide +kernel
theorem d_Model_days_42 : decode b_Model_days 42 = .ok (.aload_n 0, 1) := by decide +kernel
theorem d_Model_days_43 : decode b_Model_days 43 = .ok (.iconst 0, 1) := by decide +kernel
theorem d_Model_days_44 : decode b_Model_days 44 = .ok (.invokevirtual 259, 3) := by decide +kernel
theorem d_Model_days_47 : decode b_Model_days 47 = .ok (.ireturn, 1) := by decide +kernel
def X_Model_days_L21 (n : Nat) (a1 : Int32) (kx37 : Mem → Option (Int32 × Mem)) : Nat → Int32 → Mem → Option (Int32 × Mem)
    | 0, _, _ => none
    | m + 1, v2, M => (if a1 ≤ v2 then
    kx37 M
    else
    bd (X_Model_aDay n 0 M) fun _ M6 =>
    X_Model_days_L21 n a1 kx37 m (v2 + 1) M6)
def X_Model_days (n : Nat) (p1 : Int32) (M : Mem) : Option (Int32 × Mem) :=
  bd (X_Model_in n (p1.toInt64) 1 99 M) fun r1 M2 =>
  (if r1 = 0 then
    some ((-1), M2)
    else
    bd (X_Model_begins n 0 M2) fun _ M4 =>
    X_Model_days_L21 n p1 (fun M7 => bd (X_Model_becomes n 0 M7) fun _ M9 =>
      bd (X_Model_anyIn n 0 M9) fun r10 M11 =>
      some (r10, M11)) n 0 M4)
set_option maxRecDepth 20000 in
set_option maxHeartbeats 4000000 in
theorem X_Model_days_L21_ok {n : Nat} {a1 : Int32} {kx37 : Mem → Option (Int32 × Mem)} (hkx37 : ∀ (M : Mem), J (mt_Model_days) wI 37 [(0, Value.ref 0)] [] M (kx37 M)) : ∀ (m : Nat) (v2 : Int32) (M : Mem), J (mt_Model_days) wI 21 [(0, Value.ref 0), (1, Value.int a1), (2, Value.int v2)] [] M (X_Model_days_L21 n a1 kx37 m v2 M) := by
  intro m
  induction m with
  | zero => intro _ _; exact j_none
  | succ m ih =>
    intro v2 M
    show J _ _ _ _ _ _ ((if a1 ≤ v2 then
kx37 M
else
bd (X_Model_aDay n 0 M) fun _ M6 =>
X_Model_days_L21 n a1 kx37 m (v2 + 1) M6))
    refine j_iload_n (pc := 21) (q := 2) d_Model_days_21 rfl rfl ?_
    refine j_iload_n (pc := 22) (q := 1) d_Model_days_22 rfl rfl ?_
    refine j_icmp_ge (pc := 23) (tgt := 37) d_Model_days_23 (by decide) (fun _ => ?_) (fun _ => ?_)
    · refine j_lv [0] rfl ?_
      exact hkx37 M
    · refine j_aload_n (pc := 26) (q := 0) d_Model_days_26 rfl rfl ?_
      refine j_iconst (pc := 27) d_Model_days_27 k_i_0 ?_
      refine j_callV1 (pc := 28) d_Model_days_28 (C_Model_aDay n 0 M) cV_Model_378 cd_Model_aDay dn_Model_aDay rfl (by decide) (Nat.le_of_ble_eq_true rfl) (Nat.le_of_ble_eq_true rfl) nr_U sm_0 (by decide) rfl (fun r5 M6 => ?_)
      refine j_iinc (pc := 31) (q := 2) d_Model_days_31 rfl (congrArg (v2 + ·) k_i_1) (by decide) rfl ?_
      refine j_goto (pc := 34) (tgt := 21) d_Model_days_34 (by decide) ?_
      refine j_lv [1, 2, 0] rfl ?_
      exact ih (v2 + 1) M6
set_option maxRecDepth 20000 in
set_option maxHeartbeats 4000000 in
theorem C_Model_days (n : Nat)   (p1 : Int32) (M : Mem) : Ct y_Model_days mt_Model_days wI [Value.ref 0, Value.int p1] M (X_Model_days n p1 M) := by
  refine ct_of (by decide +kernel) rfl (Nat.le_of_ble_eq_true rfl) ?_
  show J _ _ _ [(0, Value.ref 0), (1, Value.int p1)] _ _ _
  unfold X_Model_days
  refine j_iload_n (pc := 0) (q := 1) d_Model_days_0 rfl rfl ?_
  refine j_i2l (pc := 1) d_Model_days_1 ?_
  refine j_lconst (pc := 2) d_Model_days_2 k_l_1 ?_
  refine j_ldc2 (pc := 3) d_Model_days_3 cl_Model_389 ?_
  refine j_callS3 (pc := 6) d_Model_days_6 (C_Model_in n (p1.toInt64) 1 99 M) cS_Model_143 cd_Model_in dn_Model_in rfl (by decide) (Nat.le_of_ble_eq_true rfl) (Nat.le_of_ble_eq_true rfl) nr_I (fun r1 M2 => ?_)
  refine j_if_ne (pc := 9) (tgt := 14) d_Model_days_9 (by decide) (fun _ => ?_) (fun _ => ?_)
  · refine j_aload_n (pc := 14) (q := 0) d_Model_days_14 rfl rfl ?_
    refine j_iconst (pc := 15) d_Model_days_15 k_i_0 ?_
    refine j_callV1 (pc := 16) d_Model_days_16 (C_Model_begins n 0 M2) cV_Model_256 cd_Model_begins dn_Model_begins rfl (by decide) (Nat.le_of_ble_eq_true rfl) (Nat.le_of_ble_eq_true rfl) nr_U sm_0 (by decide) rfl (fun r3 M4 => ?_)
    refine j_iconst (pc := 19) d_Model_days_19 k_i_0 ?_
    refine j_istore_n (pc := 20) d_Model_days_20 rfl (by decide) rfl ?_
    refine j_lv [1, 2, 0] rfl ?_
    refine X_Model_days_L21_ok  (fun M7 => ?_) n 0 M4
    refine j_aload_n (pc := 37) (q := 0) d_Model_days_37 rfl rfl ?_
    refine j_iconst (pc := 38) d_Model_days_38 k_i_0 ?_
    refine j_callV1 (pc := 39) d_Model_days_39 (C_Model_becomes n 0 M7) cV_Model_286 cd_Model_becomes dn_Model_becomes rfl (by decide) (Nat.le_of_ble_eq_true rfl) (Nat.le_of_ble_eq_true rfl) nr_U sm_0 (by decide) rfl (fun r8 M9 => ?_)
    refine j_aload_n (pc := 42) (q := 0) d_Model_days_42 rfl rfl ?_
    refine j_iconst (pc := 43) d_Model_days_43 k_i_0 ?_
    refine j_callV1 (pc := 44) d_Model_days_44 (C_Model_anyIn n 0 M9) cV_Model_259 cd_Model_anyIn dn_Model_anyIn rfl (by decide) (Nat.le_of_ble_eq_true rfl) (Nat.le_of_ble_eq_true rfl) nr_I sm_0 (by decide) rfl (fun r10 M11 => ?_)
    exact j_ireturn (pc := 47) d_Model_days_47 rfl
  · refine j_iconst (pc := 12) d_Model_days_12 k_i_m1 ?_
    exact j_ireturn (pc := 13) d_Model_days_13 rfl
-- Model.seen ()I
def mt_Model_seen : Mt := ("ShakeHandsModel", b_Model_seen, 3, some .int, 2, SHm)
theorem d_Model_seen_0 : decode b_Model_seen 0 = .ok (.iconst 0, 1) := by decide +kernel
theorem d_Model_seen_1 : decode b_Model_seen 1 = .ok (.istore_n 1, 1) := by decide +kernel
theorem d_Model_seen_2 : decode b_Model_seen 2 = .ok (.iconst 0, 1) := by decide +kernel
theorem d_Model_seen_3 : decode b_Model_seen 3 = .ok (.istore_n 2, 1) := by decide +kernel
theorem d_Model_seen_4 : decode b_Model_seen 4 = .ok (.iload_n 2, 1) := by decide +kernel
theorem d_Model_seen_5 : decode b_Model_seen 5 = .ok (.aload_n 0, 1) := by decide +kernel
theorem d_Model_seen_6 : decode b_Model_seen 6 = .ok (.getfield 119, 3) := by decide +kernel
theorem d_Model_seen_9 : decode b_Model_seen 9 = .ok (.if_icmp .ge 21, 3) := by decide +kernel
theorem d_Model_seen_12 : decode b_Model_seen 12 = .ok (.iload_n 1, 1) := by decide +kernel
theorem d_Model_seen_13 : decode b_Model_seen 13 = .ok (.aload_n 0, 1) := by decide +kernel
theorem d_Model_seen_14 : decode b_Model_seen 14 = .ok (.getfield 7, 3) := by decide +kernel
theorem d_Model_seen_17 : decode b_Model_seen 17 = .ok (.bipush 66, 2) := by decide +kernel
theorem d_Model_seen_19 : decode b_Model_seen 19 = .ok (.iload_n 2, 1) := by decide +kernel
theorem d_Model_seen_20 : decode b_Model_seen 20 = .ok (.iadd, 1) := by decide +kernel
theorem d_Model_seen_21 : decode b_Model_seen 21 = .ok (.iaload, 1) := by decide +kernel
theorem d_Model_seen_22 : decode b_Model_seen 22 = .ok (.iadd, 1) := by decide +kernel
theorem d_Model_seen_23 : decode b_Model_seen 23 = .ok (.istore_n 1, 1) := by decide +kernel
theorem d_Model_seen_24 : decode b_Model_seen 24 = .ok (.iinc 2 1, 3) := by decide +kernel
theorem d_Model_seen_27 : decode b_Model_seen 27 = .ok (.goto (-23), 3) := by decide +kernel
theorem d_Model_seen_30 : decode b_Model_seen 30 = .ok (.iload_n 1, 1) := by decide +kernel
theorem d_Model_seen_31 : decode b_Model_seen 31 = .ok (.ireturn, 1) := by decide +kernel
def X_Model_seen_L4 (n : Nat) (M : Mem) : Nat → Int32 → Int32 → Option (Int32 × Mem)
    | 0, _, _ => none
    | m + 1, v1, v2 => (if (M.1 0 2) ≤ v2 then
    some (v1, M)
    else
    gd ((66 : Int32) + v2) 234 (
      nm (v1 + (M.1 1 ((66 : Int32) + v2).toNatClampNeg)) fun x1 =>
      X_Model_seen_L4 n M m x1 (v2 + 1)))
def X_Model_seen (n : Nat) (M : Mem) : Option (Int32 × Mem) :=
  X_Model_seen_L4 n M n 0 0
set_option maxRecDepth 20000 in
set_option maxHeartbeats 4000000 in
theorem X_Model_seen_L4_ok {n : Nat} {M : Mem} : ∀ (m : Nat) (v1 : Int32) (v2 : Int32), J (mt_Model_seen) wI 4 [(0, Value.ref 0), (1, Value.int v1), (2, Value.int v2)] [] M (X_Model_seen_L4 n M m v1 v2) := by
  intro m
  induction m with
  | zero => intro _ _; exact j_none
  | succ m ih =>
    intro v1 v2
    show J _ _ _ _ _ _ ((if (M.1 0 2) ≤ v2 then
some (v1, M)
else
gd ((66 : Int32) + v2) 234 (
nm (v1 + (M.1 1 ((66 : Int32) + v2).toNatClampNeg)) fun x1 =>
X_Model_seen_L4 n M m x1 (v2 + 1))))
    refine j_iload_n (pc := 4) (q := 2) d_Model_seen_4 rfl rfl ?_
    refine j_aload_n (pc := 5) (q := 0) d_Model_seen_5 rfl rfl ?_
    refine j_getI (pc := 6) d_Model_seen_6 fl_Model_119 sm_0 (by decide) rfl ?_
    refine j_icmp_ge (pc := 9) (tgt := 30) d_Model_seen_9 (by decide) (fun _ => ?_) (fun _ => ?_)
    · refine j_iload_n (pc := 30) (q := 1) d_Model_seen_30 rfl rfl ?_
      exact j_ireturn (pc := 31) d_Model_seen_31 rfl
    · refine j_iload_n (pc := 12) (q := 1) d_Model_seen_12 rfl rfl ?_
      refine j_aload_n (pc := 13) (q := 0) d_Model_seen_13 rfl rfl ?_
      refine j_getA (pc := 14) d_Model_seen_14 fl_Model_7 sm_0 (by decide) rfl ?_
      refine j_bipush (pc := 17) d_Model_seen_17 k_b_66 ?_
      refine j_iload_n (pc := 19) (q := 2) d_Model_seen_19 rfl rfl ?_
      refine j_iadd (pc := 20) d_Model_seen_20 ?_
      refine j_iald (pc := 21) d_Model_seen_21 sm_1 (fun _ => ?_)
      refine j_iadd (pc := 22) d_Model_seen_22 ?_
      refine j_nmi (fun x1 => ?_)
      refine j_istore_n (pc := 23) d_Model_seen_23 rfl (by decide) rfl ?_
      refine j_iinc (pc := 24) (q := 2) d_Model_seen_24 rfl (congrArg (v2 + ·) k_i_1) (by decide) rfl ?_
      refine j_goto (pc := 27) (tgt := 4) d_Model_seen_27 (by decide) ?_
      refine j_lv [2, 1, 0] rfl ?_
      exact ih x1 (v2 + 1)
set_option maxRecDepth 20000 in
set_option maxHeartbeats 4000000 in
theorem C_Model_seen (n : Nat)    (M : Mem) : Ct y_Model_seen mt_Model_seen wI [Value.ref 0] M (X_Model_seen n M) := by
  refine ct_of (by decide +kernel) rfl (Nat.le_of_ble_eq_true rfl) ?_
  show J _ _ _ [(0, Value.ref 0)] _ _ _
  unfold X_Model_seen
  refine j_iconst (pc := 0) d_Model_seen_0 k_i_0 ?_
  refine j_istore_n (pc := 1) d_Model_seen_1 rfl (by decide) rfl ?_
  refine j_iconst (pc := 2) d_Model_seen_2 k_i_0 ?_
  refine j_istore_n (pc := 3) d_Model_seen_3 rfl (by decide) rfl ?_
  refine j_lv [2, 1, 0] rfl ?_
  exact X_Model_seen_L4_ok   n 0 0
-- Model.saw (II)I
def mt_Model_saw : Mt := ("ShakeHandsModel", b_Model_saw, 3, some .int, 4, SHm)
theorem d_Model_saw_0 : decode b_Model_saw 0 = .ok (.aload_n 0, 1) := by decide +kernel
theorem d_Model_saw_1 : decode b_Model_saw 1 = .ok (.iload_n 1, 1) := by decide +kernel
theorem d_Model_saw_2 : decode b_Model_saw 2 = .ok (.invokevirtual 268, 3) := by decide +kernel
theorem d_Model_saw_5 : decode b_Model_saw 5 = .ok (.ifCond .eq 15, 3) := by decide +kernel
theorem d_Model_saw_8 : decode b_Model_saw 8 = .ok (.iload_n 2, 1) := by decide +kernel
theorem d_Model_saw_9 : decode b_Model_saw 9 = .ok (.i2l, 1) := by decide +kernel
theorem d_Model_saw_10 : decode b_Model_saw 10 = .ok (.lconst 0, 1) := by decide +kernel
theorem d_Model_saw_11 : decode b_Model_saw 11 = .ok (.ldc2_w 391, 3) := by decide +kernel
theorem d_Model_saw_14 : decode b_Model_saw 14 = .ok (.invokestatic 143, 3) := by decide +kernel
theorem d_Model_saw_17 : decode b_Model_saw 17 = .ok (.ifCond .ne 5, 3) := by decide +kernel
theorem d_Model_saw_20 : decode b_Model_saw 20 = .ok (.iconst (-1), 1) := by decide +kernel
theorem d_Model_saw_21 : decode b_Model_saw 21 = .ok (.ireturn, 1) := by decide +kernel
theorem d_Model_saw_22 : decode b_Model_saw 22 = .ok (.aload_n 0, 1) := by decide +kernel
theorem d_Model_saw_23 : decode b_Model_saw 23 = .ok (.getfield 7, 3) := by decide +kernel
theorem d_Model_saw_26 : decode b_Model_saw 26 = .ok (.bipush 66, 2) := by decide +kernel
theorem d_Model_saw_28 : decode b_Model_saw 28 = .ok (.iload_n 1, 1) := by decide +kernel
theorem d_Model_saw_29 : decode b_Model_saw 29 = .ok (.iadd, 1) := by decide +kernel
theorem d_Model_saw_30 : decode b_Model_saw 30 = .ok (.iconst 1, 1) := by decide +kernel
theorem d_Model_saw_31 : decode b_Model_saw 31 = .ok (.iastore, 1) := by decide +kernel
theorem d_Model_saw_32 : decode b_Model_saw 32 = .ok (.aload_n 0, 1) := by decide +kernel
theorem d_Model_saw_33 : decode b_Model_saw 33 = .ok (.getfield 7, 3) := by decide +kernel
theorem d_Model_saw_36 : decode b_Model_saw 36 = .ok (.bipush 72, 2) := by decide +kernel
theorem d_Model_saw_38 : decode b_Model_saw 38 = .ok (.iload_n 1, 1) := by decide +kernel
theorem d_Model_saw_39 : decode b_Model_saw 39 = .ok (.iadd, 1) := by decide +kernel
theorem d_Model_saw_40 : decode b_Model_saw 40 = .ok (.iload_n 2, 1) := by decide +kernel
theorem d_Model_saw_41 : decode b_Model_saw 41 = .ok (.iastore, 1) := by decide +kernel
theorem d_Model_saw_42 : decode b_Model_saw 42 = .ok (.aload_n 0, 1) := by decide +kernel
theorem d_Model_saw_43 : decode b_Model_saw 43 = .ok (.invokevirtual 393, 3) := by decide +kernel
theorem d_Model_saw_46 : decode b_Model_saw 46 = .ok (.ireturn, 1) := by decide +kernel
def X_Model_saw (n : Nat) (p1 : Int32) (p2 : Int32) (M : Mem) : Option (Int32 × Mem) :=
  bd (X_Model_isOne n p1 M) fun r1 M2 =>
  (if r1 = 0 then
    some ((-1), M2)
    else
    bd (X_Model_in n (p2.toInt64) 0 65535 M2) fun r3 M4 =>
    (if r3 = 0 then
      some ((-1), M4)
      else
      gd ((66 : Int32) + p1) 234 (
        gd ((72 : Int32) + p1) 234 (
          nm (si (si M4 1 (((66 : Int32) + p1).toNatClampNeg) 1) 1 (((72 : Int32) + p1).toNatClampNeg) p2) fun N5 =>
          bd (X_Model_seen n N5) fun r6 M7 =>
          some (r6, M7)))))
set_option maxRecDepth 20000 in
set_option maxHeartbeats 4000000 in
theorem C_Model_saw (n : Nat)   (p1 : Int32) (p2 : Int32) (M : Mem) : Ct y_Model_saw mt_Model_saw wI [Value.ref 0, Value.int p1, Value.int p2] M (X_Model_saw n p1 p2 M) := by
  refine ct_of (by decide +kernel) rfl (Nat.le_of_ble_eq_true rfl) ?_
  show J _ _ _ [(0, Value.ref 0), (1, Value.int p1), (2, Value.int p2)] _ _ _
  unfold X_Model_saw
  refine j_aload_n (pc := 0) (q := 0) d_Model_saw_0 rfl rfl ?_
  refine j_iload_n (pc := 1) (q := 1) d_Model_saw_1 rfl rfl ?_
  refine j_callV1 (pc := 2) d_Model_saw_2 (C_Model_isOne n p1 M) cV_Model_268 cd_Model_isOne dn_Model_isOne rfl (by decide) (Nat.le_of_ble_eq_true rfl) (Nat.le_of_ble_eq_true rfl) nr_I sm_0 (by decide) rfl (fun r1 M2 => ?_)
  refine j_if_eq (pc := 5) (tgt := 20) d_Model_saw_5 (by decide) (fun _ => ?_) (fun _ => ?_)
  · refine j_iconst (pc := 20) d_Model_saw_20 k_i_m1 ?_
    exact j_ireturn (pc := 21) d_Model_saw_21 rfl
  · refine j_iload_n (pc := 8) (q := 2) d_Model_saw_8 rfl rfl ?_
    refine j_i2l (pc := 9) d_Model_saw_9 ?_
    refine j_lconst (pc := 10) d_Model_saw_10 k_l_0 ?_
    refine j_ldc2 (pc := 11) d_Model_saw_11 cl_Model_391 ?_
    refine j_callS3 (pc := 14) d_Model_saw_14 (C_Model_in n (p2.toInt64) 0 65535 M2) cS_Model_143 cd_Model_in dn_Model_in rfl (by decide) (Nat.le_of_ble_eq_true rfl) (Nat.le_of_ble_eq_true rfl) nr_I (fun r3 M4 => ?_)
    refine j_if_ne (pc := 17) (tgt := 22) d_Model_saw_17 (by decide) (fun _ => ?_) (fun _ => ?_)
    · refine j_aload_n (pc := 22) (q := 0) d_Model_saw_22 rfl rfl ?_
      refine j_getA (pc := 23) d_Model_saw_23 fl_Model_7 sm_0 (by decide) rfl ?_
      refine j_bipush (pc := 26) d_Model_saw_26 k_b_66 ?_
      refine j_iload_n (pc := 28) (q := 1) d_Model_saw_28 rfl rfl ?_
      refine j_iadd (pc := 29) d_Model_saw_29 ?_
      refine j_iconst (pc := 30) d_Model_saw_30 k_i_1 ?_
      refine j_iast (pc := 31) d_Model_saw_31 sm_1 (fun _ => ?_)
      refine j_aload_n (pc := 32) (q := 0) d_Model_saw_32 rfl rfl ?_
      refine j_getA (pc := 33) d_Model_saw_33 fl_Model_7 sm_0 (by decide) rfl ?_
      refine j_bipush (pc := 36) d_Model_saw_36 k_b_72 ?_
      refine j_iload_n (pc := 38) (q := 1) d_Model_saw_38 rfl rfl ?_
      refine j_iadd (pc := 39) d_Model_saw_39 ?_
      refine j_iload_n (pc := 40) (q := 2) d_Model_saw_40 rfl rfl ?_
      refine j_iast (pc := 41) d_Model_saw_41 sm_1 (fun _ => ?_)
      refine j_aload_n (pc := 42) (q := 0) d_Model_saw_42 rfl rfl ?_
      refine j_nmM (fun N5 => ?_)
      refine j_callV0 (pc := 43) d_Model_saw_43 (C_Model_seen n N5) cV_Model_393 cd_Model_seen dn_Model_seen rfl (by decide) (Nat.le_of_ble_eq_true rfl) (Nat.le_of_ble_eq_true rfl) nr_I sm_0 (by decide) rfl (fun r6 M7 => ?_)
      exact j_ireturn (pc := 46) d_Model_saw_46 rfl
    · refine j_iconst (pc := 20) d_Model_saw_20 k_i_m1 ?_
      exact j_ireturn (pc := 21) d_Model_saw_21 rfl
-- Model.blind ()I
def mt_Model_blind : Mt := ("ShakeHandsModel", b_Model_blind, 3, some .int, 3, SHm)
theorem d_Model_blind_0 : decode b_Model_blind 0 = .ok (.aload_n 0, 1) := by decide +kernel
theorem d_Model_blind_1 : decode b_Model_blind 1 = .ok (.invokevirtual 393, 3) := by decide +kernel
theorem d_Model_blind_4 : decode b_Model_blind 4 = .ok (.istore_n 1, 1) := by decide +kernel
theorem d_Model_blind_5 : decode b_Model_blind 5 = .ok (.iconst 0, 1) := by decide +kernel
theorem d_Model_blind_6 : decode b_Model_blind 6 = .ok (.istore_n 2, 1) := by decide +kernel
theorem d_Model_blind_7 : decode b_Model_blind 7 = .ok (.iload_n 2, 1) := by decide +kernel
theorem d_Model_blind_8 : decode b_Model_blind 8 = .ok (.bipush 6, 2) := by decide +kernel
theorem d_Model_blind_10 : decode b_Model_blind 10 = .ok (.if_icmp .ge 29, 3) := by decide +kernel
theorem d_Model_blind_13 : decode b_Model_blind 13 = .ok (.aload_n 0, 1) := by decide +kernel
theorem d_Model_blind_14 : decode b_Model_blind 14 = .ok (.getfield 7, 3) := by decide +kernel
theorem d_Model_blind_17 : decode b_Model_blind 17 = .ok (.bipush 66, 2) := by decide +kernel
theorem d_Model_blind_19 : decode b_Model_blind 19 = .ok (.iload_n 2, 1) := by decide +kernel
theorem d_Model_blind_20 : decode b_Model_blind 20 = .ok (.iadd, 1) := by decide +kernel
theorem d_Model_blind_21 : decode b_Model_blind 21 = .ok (.iconst 0, 1) := by decide +kernel
theorem d_Model_blind_22 : decode b_Model_blind 22 = .ok (.iastore, 1) := by decide +kernel
theorem d_Model_blind_23 : decode b_Model_blind 23 = .ok (.aload_n 0, 1) := by decide +kernel
theorem d_Model_blind_24 : decode b_Model_blind 24 = .ok (.getfield 7, 3) := by decide +kernel
theorem d_Model_blind_27 : decode b_Model_blind 27 = .ok (.bipush 72, 2) := by decide +kernel
theorem d_Model_blind_29 : decode b_Model_blind 29 = .ok (.iload_n 2, 1) := by decide +kernel
theorem d_Model_blind_30 : decode b_Model_blind 30 = .ok (.iadd, 1) := by decide +kernel
theorem d_Model_blind_31 : decode b_Model_blind 31 = .ok (.iconst 0, 1) := by decide +kernel
theorem d_Model_blind_32 : decode b_Model_blind 32 = .ok (.iastore, 1) := by decide +kernel
theorem d_Model_blind_33 : decode b_Model_blind 33 = .ok (.iinc 2 1, 3) := by decide +kernel
theorem d_Model_blind_36 : decode b_Model_blind 36 = .ok (.goto (-29), 3) := by decide +kernel
theorem d_Model_blind_39 : decode b_Model_blind 39 = .ok (.iload_n 1, 1) := by decide +kernel
theorem d_Model_blind_40 : decode b_Model_blind 40 = .ok (.ireturn, 1) := by decide +kernel
def X_Model_blind_L7 (n : Nat) (a1 : Int32) : Nat → Int32 → Mem → Option (Int32 × Mem)
    | 0, _, _ => none
    | m + 1, v2, M => (if 6 ≤ v2 then
    some (a1, M)
    else
    gd ((66 : Int32) + v2) 234 (
      gd ((72 : Int32) + v2) 234 (
        X_Model_blind_L7 n a1 m (v2 + 1) (si (si M 1 (((66 : Int32) + v2).toNatClampNeg) 0) 1 (((72 : Int32) + v2).toNatClampNeg) 0))))
def X_Model_blind (n : Nat) (M : Mem) : Option (Int32 × Mem) :=
  bd (X_Model_seen n M) fun r1 M2 =>
  X_Model_blind_L7 n r1 n 0 M2
set_option maxRecDepth 20000 in
set_option maxHeartbeats 4000000 in
theorem X_Model_blind_L7_ok {n : Nat} {a1 : Int32} : ∀ (m : Nat) (v2 : Int32) (M : Mem), J (mt_Model_blind) wI 7 [(0, Value.ref 0), (1, Value.int a1), (2, Value.int v2)] [] M (X_Model_blind_L7 n a1 m v2 M) := by
  intro m
  induction m with
  | zero => intro _ _; exact j_none
  | succ m ih =>
    intro v2 M
    show J _ _ _ _ _ _ ((if 6 ≤ v2 then
some (a1, M)
else
gd ((66 : Int32) + v2) 234 (
gd ((72 : Int32) + v2) 234 (
X_Model_blind_L7 n a1 m (v2 + 1) (si (si M 1 (((66 : Int32) + v2).toNatClampNeg) 0) 1 (((72 : Int32) + v2).toNatClampNeg) 0)))))
    refine j_iload_n (pc := 7) (q := 2) d_Model_blind_7 rfl rfl ?_
    refine j_bipush (pc := 8) d_Model_blind_8 k_b_6 ?_
    refine j_icmp_ge (pc := 10) (tgt := 39) d_Model_blind_10 (by decide) (fun _ => ?_) (fun _ => ?_)
    · refine j_iload_n (pc := 39) (q := 1) d_Model_blind_39 rfl rfl ?_
      exact j_ireturn (pc := 40) d_Model_blind_40 rfl
    · refine j_aload_n (pc := 13) (q := 0) d_Model_blind_13 rfl rfl ?_
      refine j_getA (pc := 14) d_Model_blind_14 fl_Model_7 sm_0 (by decide) rfl ?_
      refine j_bipush (pc := 17) d_Model_blind_17 k_b_66 ?_
      refine j_iload_n (pc := 19) (q := 2) d_Model_blind_19 rfl rfl ?_
      refine j_iadd (pc := 20) d_Model_blind_20 ?_
      refine j_iconst (pc := 21) d_Model_blind_21 k_i_0 ?_
      refine j_iast (pc := 22) d_Model_blind_22 sm_1 (fun _ => ?_)
      refine j_aload_n (pc := 23) (q := 0) d_Model_blind_23 rfl rfl ?_
      refine j_getA (pc := 24) d_Model_blind_24 fl_Model_7 sm_0 (by decide) rfl ?_
      refine j_bipush (pc := 27) d_Model_blind_27 k_b_72 ?_
      refine j_iload_n (pc := 29) (q := 2) d_Model_blind_29 rfl rfl ?_
      refine j_iadd (pc := 30) d_Model_blind_30 ?_
      refine j_iconst (pc := 31) d_Model_blind_31 k_i_0 ?_
      refine j_iast (pc := 32) d_Model_blind_32 sm_1 (fun _ => ?_)
      refine j_iinc (pc := 33) (q := 2) d_Model_blind_33 rfl (congrArg (v2 + ·) k_i_1) (by decide) rfl ?_
      refine j_goto (pc := 36) (tgt := 7) d_Model_blind_36 (by decide) ?_
      refine j_lv [1, 2, 0] rfl ?_
      exact ih (v2 + 1) (si (si M 1 (((66 : Int32) + v2).toNatClampNeg) 0) 1 (((72 : Int32) + v2).toNatClampNeg) 0)
set_option maxRecDepth 20000 in
set_option maxHeartbeats 4000000 in
theorem C_Model_blind (n : Nat)    (M : Mem) : Ct y_Model_blind mt_Model_blind wI [Value.ref 0] M (X_Model_blind n M) := by
  refine ct_of (by decide +kernel) rfl (Nat.le_of_ble_eq_true rfl) ?_
  show J _ _ _ [(0, Value.ref 0)] _ _ _
  unfold X_Model_blind
  refine j_aload_n (pc := 0) (q := 0) d_Model_blind_0 rfl rfl ?_
  refine j_callV0 (pc := 1) d_Model_blind_1 (C_Model_seen n M) cV_Model_393 cd_Model_seen dn_Model_seen rfl (by decide) (Nat.le_of_ble_eq_true rfl) (Nat.le_of_ble_eq_true rfl) nr_I sm_0 (by decide) rfl (fun r1 M2 => ?_)
  refine j_istore_n (pc := 4) d_Model_blind_4 rfl (by decide) rfl ?_
  refine j_iconst (pc := 5) d_Model_blind_5 k_i_0 ?_
  refine j_istore_n (pc := 6) d_Model_blind_6 rfl (by decide) rfl ?_
  refine j_lv [2, 1, 0] rfl ?_
  exact X_Model_blind_L7_ok   n 0 M2
-- Model.fits (II)I
def mt_Model_fits : Mt := ("ShakeHandsModel", b_Model_fits, 4, some .int, 7, SHm)
theorem d_Model_fits_0 : decode b_Model_fits 0 = .ok (.iload_n 1, 1) := by decide +kernel
theorem d_Model_fits_1 : decode b_Model_fits 1 = .ok (.i2l, 1) := by decide +kernel
theorem d_Model_fits_2 : decode b_Model_fits 2 = .ok (.lconst 0, 1) := by decide +kernel
theorem d_Model_fits_3 : decode b_Model_fits 3 = .ok (.ldc2_w 396, 3) := by decide +kernel
theorem d_Model_fits_6 : decode b_Model_fits 6 = .ok (.invokestatic 143, 3) := by decide +kernel
theorem d_Model_fits_9 : decode b_Model_fits 9 = .ok (.ifCond .eq 15, 3) := by decide +kernel
theorem d_Model_fits_12 : decode b_Model_fits 12 = .ok (.iload_n 2, 1) := by decide +kernel
theorem d_Model_fits_13 : decode b_Model_fits 13 = .ok (.i2l, 1) := by decide +kernel
theorem d_Model_fits_14 : decode b_Model_fits 14 = .ok (.lconst 0, 1) := by decide +kernel
theorem d_Model_fits_15 : decode b_Model_fits 15 = .ok (.ldc2_w 227, 3) := by decide +kernel
theorem d_Model_fits_18 : decode b_Model_fits 18 = .ok (.invokestatic 143, 3) := by decide +kernel
theorem d_Model_fits_21 : decode b_Model_fits 21 = .ok (.ifCond .ne 5, 3) := by decide +kernel
theorem d_Model_fits_24 : decode b_Model_fits 24 = .ok (.iconst (-1), 1) := by decide +kernel
theorem d_Model_fits_25 : decode b_Model_fits 25 = .ok (.ireturn, 1) := by decide +kernel
theorem d_Model_fits_26 : decode b_Model_fits 26 = .ok (.aload_n 0, 1) := by decide +kernel
theorem d_Model_fits_27 : decode b_Model_fits 27 = .ok (.iconst 2, 1) := by decide +kernel
theorem d_Model_fits_28 : decode b_Model_fits 28 = .ok (.iconst 0, 1) := by decide +kernel
theorem d_Model_fits_29 : decode b_Model_fits 29 = .ok (.iconst 0, 1) := by decide +kernel
theorem d_Model_fits_30 : decode b_Model_fits 30 = .ok (.iconst 0, 1) := by decide +kernel
theorem d_Model_fits_31 : decode b_Model_fits 31 = .ok (.invokevirtual 358, 3) := by decide +kernel
theorem d_Model_fits_34 : decode b_Model_fits 34 = .ok (.aload_n 0, 1) := by decide +kernel
theorem d_Model_fits_35 : decode b_Model_fits 35 = .ok (.iload_n 1, 1) := by decide +kernel
theorem d_Model_fits_36 : decode b_Model_fits 36 = .ok (.iconst 0, 1) := by decide +kernel
theorem d_Model_fits_37 : decode b_Model_fits 37 = .ok (.invokevirtual 347, 3) := by decide +kernel
theorem d_Model_fits_40 : decode b_Model_fits 40 = .ok (.istore_n 3, 1) := by decide +kernel
theorem d_Model_fits_41 : decode b_Model_fits 41 = .ok (.iload_n 2, 1) := by decide +kernel
theorem d_Model_fits_42 : decode b_Model_fits 42 = .ok (.ifCond .ne 7, 3) := by decide +kernel
theorem d_Model_fits_45 : decode b_Model_fits 45 = .ok (.iload_n 3, 1) := by decide +kernel
theorem d_Model_fits_46 : decode b_Model_fits 46 = .ok (.goto 28, 3) := by decide +kernel
theorem d_Model_fits_49 : decode b_Model_fits 49 = .ok (.iload_n 3, 1) := by decide +kernel
theorem d_Model_fits_50 : decode b_Model_fits 50 = .ok (.ifCond .ne 8, 3) := by decide +kernel
theorem d_Model_fits_53 : decode b_Model_fits 53 = .ok (.bipush (-4), 2) := by decide +kernel
theorem d_Model_fits_55 : decode b_Model_fits 55 = .ok (.goto 19, 3) := by decide +kernel
theorem d_Model_fits_58 : decode b_Model_fits 58 = .ok (.iload_n 2, 1) := by decide +kernel
theorem d_Model_fits_59 : decode b_Model_fits 59 = .ok (.iconst 1, 1) := by decide +kernel
theorem d_Model_fits_60 : decode b_Model_fits 60 = .ok (.if_icmp .ne 10, 3) := by decide +kernel
theorem d_Model_fits_63 : decode b_Model_fits 63 = .ok (.aload_n 0, 1) := by decide +kernel
theorem d_Model_fits_64 : decode b_Model_fits 64 = .ok (.getfield 326, 3) := by decide +kernel
theorem d_Model_fits_67 : decode b_Model_fits 67 = .ok (.goto 7, 3) := by decide +kernel
theorem d_Model_fits_70 : decode b_Model_fits 70 = .ok (.aload_n 0, 1) := by decide +kernel
theorem d_Model_fits_71 : decode b_Model_fits 71 = .ok (.getfield 329, 3) := by decide +kernel
theorem d_Model_fits_74 : decode b_Model_fits 74 = .ok (.ireturn, 1) := by decide +kernel
def X_Model_fits (n : Nat) (p1 : Int32) (p2 : Int32) (M : Mem) : Option (Int32 × Mem) :=
  bd (X_Model_in n (p1.toInt64) 0 4 M) fun r1 M2 =>
  (if r1 = 0 then
    some ((-1), M2)
    else
    bd (X_Model_in n (p2.toInt64) 0 2 M2) fun r3 M4 =>
    (if r3 = 0 then
      some ((-1), M4)
      else
      bd (X_Model_asks n 2 0 0 0 M4) fun _ M6 =>
      bd (X_Model_layRows n p1 0 M6) fun r7 M8 =>
      (if p2 = 0 then
        some (r7, M8)
        else
        (if r7 = 0 then
          some ((-4), M8)
          else
          (if p2 = 1 then
            some ((M8.1 0 44), M8)
            else
            some ((M8.1 0 45), M8))))))
set_option maxRecDepth 20000 in
set_option maxHeartbeats 4000000 in
theorem C_Model_fits (n : Nat)   (p1 : Int32) (p2 : Int32) (M : Mem) : Ct y_Model_fits mt_Model_fits wI [Value.ref 0, Value.int p1, Value.int p2] M (X_Model_fits n p1 p2 M) := by
  refine ct_of (by decide +kernel) rfl (Nat.le_of_ble_eq_true rfl) ?_
  show J _ _ _ [(0, Value.ref 0), (1, Value.int p1), (2, Value.int p2)] _ _ _
  unfold X_Model_fits
  refine j_iload_n (pc := 0) (q := 1) d_Model_fits_0 rfl rfl ?_
  refine j_i2l (pc := 1) d_Model_fits_1 ?_
  refine j_lconst (pc := 2) d_Model_fits_2 k_l_0 ?_
  refine j_ldc2 (pc := 3) d_Model_fits_3 cl_Model_396 ?_
  refine j_callS3 (pc := 6) d_Model_fits_6 (C_Model_in n (p1.toInt64) 0 4 M) cS_Model_143 cd_Model_in dn_Model_in rfl (by decide) (Nat.le_of_ble_eq_true rfl) (Nat.le_of_ble_eq_true rfl) nr_I (fun r1 M2 => ?_)
  refine j_if_eq (pc := 9) (tgt := 24) d_Model_fits_9 (by decide) (fun _ => ?_) (fun _ => ?_)
  · refine j_iconst (pc := 24) d_Model_fits_24 k_i_m1 ?_
    exact j_ireturn (pc := 25) d_Model_fits_25 rfl
  · refine j_iload_n (pc := 12) (q := 2) d_Model_fits_12 rfl rfl ?_
    refine j_i2l (pc := 13) d_Model_fits_13 ?_
    refine j_lconst (pc := 14) d_Model_fits_14 k_l_0 ?_
    refine j_ldc2 (pc := 15) d_Model_fits_15 cl_Model_227 ?_
    refine j_callS3 (pc := 18) d_Model_fits_18 (C_Model_in n (p2.toInt64) 0 2 M2) cS_Model_143 cd_Model_in dn_Model_in rfl (by decide) (Nat.le_of_ble_eq_true rfl) (Nat.le_of_ble_eq_true rfl) nr_I (fun r3 M4 => ?_)
    refine j_if_ne (pc := 21) (tgt := 26) d_Model_fits_21 (by decide) (fun _ => ?_) (fun _ => ?_)
    · refine j_aload_n (pc := 26) (q := 0) d_Model_fits_26 rfl rfl ?_
      refine j_iconst (pc := 27) d_Model_fits_27 k_i_2 ?_
      refine j_iconst (pc := 28) d_Model_fits_28 k_i_0 ?_
      refine j_iconst (pc := 29) d_Model_fits_29 k_i_0 ?_
      refine j_iconst (pc := 30) d_Model_fits_30 k_i_0 ?_
      refine j_callV4 (pc := 31) d_Model_fits_31 (C_Model_asks n 2 0 0 0 M4) cV_Model_358 cd_Model_asks dn_Model_asks rfl (by decide) (Nat.le_of_ble_eq_true rfl) (Nat.le_of_ble_eq_true rfl) nr_U sm_0 (by decide) rfl (fun r5 M6 => ?_)
      refine j_aload_n (pc := 34) (q := 0) d_Model_fits_34 rfl rfl ?_
      refine j_iload_n (pc := 35) (q := 1) d_Model_fits_35 rfl rfl ?_
      refine j_iconst (pc := 36) d_Model_fits_36 k_i_0 ?_
      refine j_callV2 (pc := 37) d_Model_fits_37 (C_Model_layRows n p1 0 M6) cV_Model_347 cd_Model_layRows dn_Model_layRows rfl (by decide) (Nat.le_of_ble_eq_true rfl) (Nat.le_of_ble_eq_true rfl) nr_I sm_0 (by decide) rfl (fun r7 M8 => ?_)
      refine j_istore_n (pc := 40) d_Model_fits_40 rfl (by decide) rfl ?_
      refine j_iload_n (pc := 41) (q := 3) d_Model_fits_41 rfl rfl ?_
      refine j_if_ne (pc := 42) (tgt := 49) d_Model_fits_42 (by decide) (fun _ => ?_) (fun _ => ?_)
      · refine j_iload_n (pc := 49) (q := 0) d_Model_fits_49 rfl rfl ?_
        refine j_if_ne (pc := 50) (tgt := 58) d_Model_fits_50 (by decide) (fun _ => ?_) (fun _ => ?_)
        · refine j_iload_n (pc := 58) (q := 3) d_Model_fits_58 rfl rfl ?_
          refine j_iconst (pc := 59) d_Model_fits_59 k_i_1 ?_
          refine j_icmp_ne (pc := 60) (tgt := 70) d_Model_fits_60 (by decide) (fun _ => ?_) (fun _ => ?_)
          · refine j_aload_n (pc := 70) (q := 1) d_Model_fits_70 rfl rfl ?_
            refine j_getI (pc := 71) d_Model_fits_71 fl_Model_329 sm_0 (by decide) rfl ?_
            exact j_ireturn (pc := 74) d_Model_fits_74 rfl
          · refine j_aload_n (pc := 63) (q := 1) d_Model_fits_63 rfl rfl ?_
            refine j_getI (pc := 64) d_Model_fits_64 fl_Model_326 sm_0 (by decide) rfl ?_
            refine j_goto (pc := 67) (tgt := 74) d_Model_fits_67 (by decide) ?_
            exact j_ireturn (pc := 74) d_Model_fits_74 rfl
        · refine j_bipush (pc := 53) d_Model_fits_53 k_b_m4 ?_
          refine j_goto (pc := 55) (tgt := 74) d_Model_fits_55 (by decide) ?_
          exact j_ireturn (pc := 74) d_Model_fits_74 rfl
      · refine j_iload_n (pc := 45) (q := 0) d_Model_fits_45 rfl rfl ?_
        refine j_goto (pc := 46) (tgt := 74) d_Model_fits_46 (by decide) ?_
        exact j_ireturn (pc := 74) d_Model_fits_74 rfl
    · refine j_iconst (pc := 24) d_Model_fits_24 k_i_m1 ?_
      exact j_ireturn (pc := 25) d_Model_fits_25 rfl
-- Model.least ()I
def mt_Model_least : Mt := ("ShakeHandsModel", b_Model_least, 1, some .int, 8, SHm)
theorem d_Model_least_0 : decode b_Model_least 0 = .ok (.aload_n 0, 1) := by decide +kernel
theorem d_Model_least_1 : decode b_Model_least 1 = .ok (.iconst 2, 1) := by decide +kernel
theorem d_Model_least_2 : decode b_Model_least 2 = .ok (.iconst 0, 1) := by decide +kernel
theorem d_Model_least_3 : decode b_Model_least 3 = .ok (.iconst 0, 1) := by decide +kernel
theorem d_Model_least_4 : decode b_Model_least 4 = .ok (.iconst 0, 1) := by decide +kernel
theorem d_Model_least_5 : decode b_Model_least 5 = .ok (.invokevirtual 358, 3) := by decide +kernel
theorem d_Model_least_8 : decode b_Model_least 8 = .ok (.aload_n 0, 1) := by decide +kernel
theorem d_Model_least_9 : decode b_Model_least 9 = .ok (.invokevirtual 362, 3) := by decide +kernel
theorem d_Model_least_12 : decode b_Model_least 12 = .ok (.ireturn, 1) := by decide +kernel
def X_Model_least (n : Nat) (M : Mem) : Option (Int32 × Mem) :=
  bd (X_Model_asks n 2 0 0 0 M) fun _ M2 =>
  bd (X_Model_fewestHands n M2) fun r3 M4 =>
  some (r3, M4)
set_option maxRecDepth 20000 in
set_option maxHeartbeats 4000000 in
theorem C_Model_least (n : Nat)    (M : Mem) : Ct y_Model_least mt_Model_least wI [Value.ref 0] M (X_Model_least n M) := by
  refine ct_of (by decide +kernel) rfl (Nat.le_of_ble_eq_true rfl) ?_
  show J _ _ _ [(0, Value.ref 0)] _ _ _
  unfold X_Model_least
  refine j_aload_n (pc := 0) (q := 0) d_Model_least_0 rfl rfl ?_
  refine j_iconst (pc := 1) d_Model_least_1 k_i_2 ?_
  refine j_iconst (pc := 2) d_Model_least_2 k_i_0 ?_
  refine j_iconst (pc := 3) d_Model_least_3 k_i_0 ?_
  refine j_iconst (pc := 4) d_Model_least_4 k_i_0 ?_
  refine j_callV4 (pc := 5) d_Model_least_5 (C_Model_asks n 2 0 0 0 M) cV_Model_358 cd_Model_asks dn_Model_asks rfl (by decide) (Nat.le_of_ble_eq_true rfl) (Nat.le_of_ble_eq_true rfl) nr_U sm_0 (by decide) rfl (fun r1 M2 => ?_)
  refine j_aload_n (pc := 8) (q := 0) d_Model_least_8 rfl rfl ?_
  refine j_callV0 (pc := 9) d_Model_least_9 (C_Model_fewestHands n M2) cV_Model_362 cd_Model_fewestHands dn_Model_fewestHands rfl (by decide) (Nat.le_of_ble_eq_true rfl) (Nat.le_of_ble_eq_true rfl) nr_I sm_0 (by decide) rfl (fun r3 M4 => ?_)
  exact j_ireturn (pc := 12) d_Model_least_12 rfl
-- Model.sits (I)V
def mt_Model_sits : Mt := ("ShakeHandsModel", b_Model_sits, 8, none, 2, SHm)
theorem d_Model_sits_0 : decode b_Model_sits 0 = .ok (.iload_n 1, 1) := by decide +kernel
theorem d_Model_sits_1 : decode b_Model_sits 1 = .ok (.istore_n 2, 1) := by decide +kernel
theorem d_Model_sits_2 : decode b_Model_sits 2 = .ok (.iconst 1, 1) := by decide +kernel
theorem d_Model_sits_3 : decode b_Model_sits 3 = .ok (.istore_n 3, 1) := by decide +kernel
theorem d_Model_sits_4 : decode b_Model_sits 4 = .ok (.iconst 0, 1) := by decide +kernel
theorem d_Model_sits_5 : decode b_Model_sits 5 = .ok (.istore 4, 2) := by decide +kernel
theorem d_Model_sits_7 : decode b_Model_sits 7 = .ok (.iconst 2, 1) := by decide +kernel
theorem d_Model_sits_8 : decode b_Model_sits 8 = .ok (.istore 5, 2) := by decide +kernel
theorem d_Model_sits_10 : decode b_Model_sits 10 = .ok (.iload 5, 2) := by decide +kernel
theorem d_Model_sits_12 : decode b_Model_sits 12 = .ok (.aload_n 0, 1) := by decide +kernel
theorem d_Model_sits_13 : decode b_Model_sits 13 = .ok (.getfield 119, 3) := by decide +kernel
theorem d_Model_sits_16 : decode b_Model_sits 16 = .ok (.if_icmp .gt 14, 3) := by decide +kernel
theorem d_Model_sits_19 : decode b_Model_sits 19 = .ok (.iload_n 3, 1) := by decide +kernel
theorem d_Model_sits_20 : decode b_Model_sits 20 = .ok (.iload 5, 2) := by decide +kernel
theorem d_Model_sits_22 : decode b_Model_sits 22 = .ok (.imul, 1) := by decide +kernel
theorem d_Model_sits_23 : decode b_Model_sits 23 = .ok (.istore_n 3, 1) := by decide +kernel
theorem d_Model_sits_24 : decode b_Model_sits 24 = .ok (.iinc 5 1, 3) := by decide +kernel
theorem d_Model_sits_27 : decode b_Model_sits 27 = .ok (.goto (-17), 3) := by decide +kernel
theorem d_Model_sits_30 : decode b_Model_sits 30 = .ok (.iconst 0, 1) := by decide +kernel
theorem d_Model_sits_31 : decode b_Model_sits 31 = .ok (.istore 5, 2) := by decide +kernel
theorem d_Model_sits_33 : decode b_Model_sits 33 = .ok (.iload 5, 2) := by decide +kernel
theorem d_Model_sits_35 : decode b_Model_sits 35 = .ok (.aload_n 0, 1) := by decide +kernel
theorem d_Model_sits_36 : decode b_Model_sits 36 = .ok (.getfield 119, 3) := by decide +kernel
theorem d_Model_sits_39 : decode b_Model_sits 39 = .ok (.if_icmp .ge 92, 3) := by decide +kernel
theorem d_Model_sits_42 : decode b_Model_sits 42 = .ok (.iload_n 3, 1) := by decide +kernel
theorem d_Model_sits_43 : decode b_Model_sits 43 = .ok (.aload_n 0, 1) := by decide +kernel
theorem d_Model_sits_44 : decode b_Model_sits 44 = .ok (.getfield 119, 3) := by decide +kernel
theorem d_Model_sits_47 : decode b_Model_sits 47 = .ok (.iload 5, 2) := by decide +kernel
theorem d_Model_sits_49 : decode b_Model_sits 49 = .ok (.isub, 1) := by decide +kernel
theorem d_Model_sits_50 : decode b_Model_sits 50 = .ok (.idiv, 1) := by decide +kernel
theorem d_Model_sits_51 : decode b_Model_sits 51 = .ok (.istore_n 3, 1) := by decide +kernel
theorem d_Model_sits_52 : decode b_Model_sits 52 = .ok (.iload_n 2, 1) := by decide +kernel
theorem d_Model_sits_53 : decode b_Model_sits 53 = .ok (.iload_n 3, 1) := by decide +kernel
theorem d_Model_sits_54 : decode b_Model_sits 54 = .ok (.idiv, 1) := by decide +kernel
theorem d_Model_sits_55 : decode b_Model_sits 55 = .ok (.istore 6, 2) := by decide +kernel
theorem d_Model_sits_57 : decode b_Model_sits 57 = .ok (.iload_n 2, 1) := by decide +kernel
theorem d_Model_sits_58 : decode b_Model_sits 58 = .ok (.iload_n 3, 1) := by decide +kernel
theorem d_Model_sits_59 : decode b_Model_sits 59 = .ok (.irem, 1) := by decide +kernel
theorem d_Model_sits_60 : decode b_Model_sits 60 = .ok (.istore_n 2, 1) := by decide +kernel
theorem d_Model_sits_61 : decode b_Model_sits 61 = .ok (.iconst 0, 1) := by decide +kernel
theorem d_Model_sits_62 : decode b_Model_sits 62 = .ok (.istore 7, 2) := by decide +kernel
theorem d_Model_sits_64 : decode b_Model_sits 64 = .ok (.iload 4, 2) := by decide +kernel
theorem d_Model_sits_66 : decode b_Model_sits 66 = .ok (.iload 7, 2) := by decide +kernel
theorem d_Model_sits_68 : decode b_Model_sits 68 = .ok (.ishr, 1) := by decide +kernel
theorem d_Model_sits_69 : decode b_Model_sits 69 = .ok (.iconst 1, 1) := by decide +kernel
theorem d_Model_sits_70 : decode b_Model_sits 70 = .ok (.iand, 1) := by decide +kernel
theorem d_Model_sits_71 : decode b_Model_sits 71 = .ok (.iconst 1, 1) := by decide +kernel
theorem d_Model_sits_72 : decode b_Model_sits 72 = .ok (.if_icmp .eq 8, 3) := by decide +kernel
theorem d_Model_sits_75 : decode b_Model_sits 75 = .ok (.iload 6, 2) := by decide +kernel
theorem d_Model_sits_77 : decode b_Model_sits 77 = .ok (.ifCond .le 30, 3) := by decide +kernel
theorem d_Model_sits_80 : decode b_Model_sits 80 = .ok (.iload 6, 2) := by decide +kernel
theorem d_Model_sits_82 : decode b_Model_sits 82 = .ok (.iload 4, 2) := by decide +kernel
theorem d_Model_sits_84 : decode b_Model_sits 84 = .ok (.iload 7, 2) := by decide +kernel
theorem d_Model_sits_86 : decode b_Model_sits 86 = .ok (.ishr, 1) := by decide +kernel
theorem d_Model_sits_87 : decode b_Model_sits 87 = .ok (.iconst 1, 1) := by decide +kernel
theorem d_Model_sits_88 : decode b_Model_sits 88 = .ok (.iand, 1) := by decide +kernel
theorem d_Model_sits_89 : decode b_Model_sits 89 = .ok (.iconst 1, 1) := by decide +kernel
theorem d_Model_sits_90 : decode b_Model_sits 90 = .ok (.if_icmp .ne 7, 3) := by decide +kernel
theorem d_Model_sits_93 : decode b_Model_sits 93 = .ok (.iconst 0, 1) := by decide +kernel
theorem d_Model_sits_94 : decode b_Model_sits 94 = .ok (.goto 4, 3) := by decide +kernel
theorem d_Model_sits_97 : decode b_Model_sits 97 = .ok (.iconst 1, 1) := by decide +kernel
theorem d_Model_sits_98 : decode b_Model_sits 98 = .ok (.isub, 1) := by decide +kernel
theorem d_Model_sits_99 : decode b_Model_sits 99 = .ok (.istore 6, 2) := by decide +kernel
theorem d_Model_sits_101 : decode b_Model_sits 101 = .ok (.iinc 7 1, 3) := by decide +kernel
theorem d_Model_sits_104 : decode b_Model_sits 104 = .ok (.goto (-40), 3) := by decide +kernel
theorem d_Model_sits_107 : decode b_Model_sits 107 = .ok (.aload_n 0, 1) := by decide +kernel
theorem d_Model_sits_108 : decode b_Model_sits 108 = .ok (.getfield 72, 3) := by decide +kernel
theorem d_Model_sits_111 : decode b_Model_sits 111 = .ok (.iload 5, 2) := by decide +kernel
theorem d_Model_sits_113 : decode b_Model_sits 113 = .ok (.iload 7, 2) := by decide +kernel
theorem d_Model_sits_115 : decode b_Model_sits 115 = .ok (.iastore, 1) := by decide +kernel
theorem d_Model_sits_116 : decode b_Model_sits 116 = .ok (.iload 4, 2) := by decide +kernel
theorem d_Model_sits_118 : decode b_Model_sits 118 = .ok (.iconst 1, 1) := by decide +kernel
theorem d_Model_sits_119 : decode b_Model_sits 119 = .ok (.iload 7, 2) := by decide +kernel
theorem d_Model_sits_121 : decode b_Model_sits 121 = .ok (.ishl, 1) := by decide +kernel
theorem d_Model_sits_122 : decode b_Model_sits 122 = .ok (.ior, 1) := by decide +kernel
theorem d_Model_sits_123 : decode b_Model_sits 123 = .ok (.istore 4, 2) := by decide +kernel
theorem d_Model_sits_125 : decode b_Model_sits 125 = .ok (.iinc 5 1, 3) := by decide +kernel
theorem d_Model_sits_128 : decode b_Model_sits 128 = .ok (.goto (-95), 3) := by decide +kernel
theorem d_Model_sits_131 : decode b_Model_sits 131 = .ok (.return_, 1) := by decide +kernel
def X_Model_sits_L10 (n : Nat) (a2 : Int32) (a4 : Int32) (kx30 : Int32 → Option (Unit × Mem)) (M : Mem) : Nat → Int32 → Int32 → Option (Unit × Mem)
    | 0, _, _ => none
    | m + 1, v3, v5 => (if (M.1 0 2) < v5 then
    kx30 v3
    else
    nm (v3 * v5) fun x1 =>
    X_Model_sits_L10 n a2 a4 kx30 M m x1 (v5 + 1))
def X_Model_sits_L64 (n : Nat) (a2 : Int32) (a3 : Int32) (a4 : Int32) (a5 : Int32) (kx107 : Int32 → Option (Unit × Mem)) (M : Mem) : Nat → Int32 → Int32 → Option (Unit × Mem)
    | 0, _, _ => none
    | m + 1, v6, v7 => nm (nm (fun (u6 : Int32) => (nm (v6 - u6) fun x7 =>
        X_Model_sits_L64 n a2 a3 a4 a5 kx107 M m x7 (v7 + 1) : Option (Unit × Mem))) fun k98 =>
    (if ((a4 >>> (v7 &&& 31)) &&& 1) = 1 then
      k98 0
      else
      k98 1) : Option (Unit × Mem)) fun k80 =>
  (if ((a4 >>> (v7 &&& 31)) &&& 1) = 1 then
    k80
    else
    (if v6 ≤ 0 then
      kx107 v7
      else
      k80))
def X_Model_sits_L33 (n : Nat) : Nat → Int32 → Int32 → Int32 → Int32 → Mem → Option (Unit × Mem)
    | 0, _, _, _, _, _ => none
    | m + 1, v2, v3, v4, v5, M => (if (M.1 0 2) ≤ v5 then
    some ((), M)
    else
    (if ((M.1 0 2) - v5) = 0 then none else
      nm (v3 / ((M.1 0 2) - v5)) fun x3 =>
      (if x3 = 0 then none else
        nm (v2 / x3) fun x4 =>
        (if x3 = 0 then none else
          nm (v2 - v2 / x3 * x3) fun x5 =>
          X_Model_sits_L64 n x5 x3 v4 v5 (fun y8 => gd v5 6 (
              nm (v4 ||| ((1 : Int32) <<< (y8 &&& 31))) fun x9 =>
              X_Model_sits_L33 n m x5 x3 x9 (v5 + 1) (si M 21 (v5.toNatClampNeg) y8))) M n x4 0))))
def X_Model_sits (n : Nat) (p1 : Int32) (M : Mem) : Option (Unit × Mem) :=
  X_Model_sits_L10 n p1 0 (fun y2 => X_Model_sits_L33 n n p1 y2 0 0 M) M n 1 2
set_option maxRecDepth 20000 in
set_option maxHeartbeats 4000000 in
theorem X_Model_sits_L10_ok {n : Nat} {a2 : Int32} {a4 : Int32} {kx30 : Int32 → Option (Unit × Mem)} {M : Mem} (hkx30 : ∀ (w3 : Int32), J (mt_Model_sits) wU 30 [(0, Value.ref 0), (2, Value.int a2), (3, Value.int w3), (4, Value.int a4)] [] M (kx30 w3)) : ∀ (m : Nat) (v3 : Int32) (v5 : Int32), J (mt_Model_sits) wU 10 [(0, Value.ref 0), (2, Value.int a2), (3, Value.int v3), (4, Value.int a4), (5, Value.int v5)] [] M (X_Model_sits_L10 n a2 a4 kx30 M m v3 v5) := by
  intro m
  induction m with
  | zero => intro _ _; exact j_none
  | succ m ih =>
    intro v3 v5
    show J _ _ _ _ _ _ ((if (M.1 0 2) < v5 then
kx30 v3
else
nm (v3 * v5) fun x1 =>
X_Model_sits_L10 n a2 a4 kx30 M m x1 (v5 + 1)))
    refine j_iload (pc := 10) (q := 4) d_Model_sits_10 rfl ?_
    refine j_aload_n (pc := 12) (q := 0) d_Model_sits_12 rfl rfl ?_
    refine j_getI (pc := 13) d_Model_sits_13 fl_Model_119 sm_0 (by decide) rfl ?_
    refine j_icmp_gt (pc := 16) (tgt := 30) d_Model_sits_16 (by decide) (fun _ => ?_) (fun _ => ?_)
    · refine j_lv [0, 1, 2, 3] rfl ?_
      exact hkx30 v3
    · refine j_iload_n (pc := 19) (q := 2) d_Model_sits_19 rfl rfl ?_
      refine j_iload (pc := 20) (q := 4) d_Model_sits_20 rfl ?_
      refine j_imul (pc := 22) d_Model_sits_22 ?_
      refine j_nmi (fun x1 => ?_)
      refine j_istore_n (pc := 23) d_Model_sits_23 rfl (by decide) rfl ?_
      refine j_iinc (pc := 24) (q := 4) d_Model_sits_24 rfl (congrArg (v5 + ·) k_i_1) (by decide) rfl ?_
      refine j_goto (pc := 27) (tgt := 10) d_Model_sits_27 (by decide) ?_
      refine j_lv [2, 3, 1, 4, 0] rfl ?_
      exact ih x1 (v5 + 1)
set_option maxRecDepth 20000 in
set_option maxHeartbeats 4000000 in
theorem X_Model_sits_L64_ok {n : Nat} {a2 : Int32} {a3 : Int32} {a4 : Int32} {a5 : Int32} {kx107 : Int32 → Option (Unit × Mem)} {M : Mem} (hkx107 : ∀ (w7 : Int32), J (mt_Model_sits) wU 107 [(0, Value.ref 0), (2, Value.int a2), (3, Value.int a3), (4, Value.int a4), (5, Value.int a5), (7, Value.int w7)] [] M (kx107 w7)) : ∀ (m : Nat) (v6 : Int32) (v7 : Int32), J (mt_Model_sits) wU 64 [(0, Value.ref 0), (2, Value.int a2), (3, Value.int a3), (4, Value.int a4), (5, Value.int a5), (6, Value.int v6), (7, Value.int v7)] [] M (X_Model_sits_L64 n a2 a3 a4 a5 kx107 M m v6 v7) := by
  intro m
  induction m with
  | zero => intro _ _; exact j_none
  | succ m ih =>
    intro v6 v7
    show J _ _ _ _ _ _ (nm (nm (fun (u6 : Int32) => (nm (v6 - u6) fun x7 =>
X_Model_sits_L64 n a2 a3 a4 a5 kx107 M m x7 (v7 + 1) : Option (Unit × Mem))) fun k98 =>
(if ((a4 >>> (v7 &&& 31)) &&& 1) = 1 then
k98 0
else
k98 1) : Option (Unit × Mem)) fun k80 =>
(if ((a4 >>> (v7 &&& 31)) &&& 1) = 1 then
k80
else
(if v6 ≤ 0 then
kx107 v7
else
k80)))
    refine j_iload (pc := 64) (q := 3) d_Model_sits_64 rfl ?_
    refine j_iload (pc := 66) (q := 6) d_Model_sits_66 rfl ?_
    refine j_ishr (pc := 68) d_Model_sits_68 ?_
    refine j_iconst (pc := 69) d_Model_sits_69 k_i_1 ?_
    refine j_iand (pc := 70) d_Model_sits_70 ?_
    refine j_iconst (pc := 71) d_Model_sits_71 k_i_1 ?_
    refine j_nmk (fun k => J (mt_Model_sits) wU 80 [(0, Value.ref 0), (2, Value.int a2), (3, Value.int a3), (4, Value.int a4), (5, Value.int a5), (6, Value.int v6), (7, Value.int v7)] [] M k) (?_) (fun k80 hk80 => ?_)
    · refine j_iload (pc := 80) (q := 5) d_Model_sits_80 rfl ?_
      refine j_iload (pc := 82) (q := 3) d_Model_sits_82 rfl ?_
      refine j_iload (pc := 84) (q := 6) d_Model_sits_84 rfl ?_
      refine j_ishr (pc := 86) d_Model_sits_86 ?_
      refine j_iconst (pc := 87) d_Model_sits_87 k_i_1 ?_
      refine j_iand (pc := 88) d_Model_sits_88 ?_
      refine j_iconst (pc := 89) d_Model_sits_89 k_i_1 ?_
      refine j_nmk (fun k => ∀ (u6 : Int32), J (mt_Model_sits) wU 98 [(0, Value.ref 0), (2, Value.int a2), (3, Value.int a3), (4, Value.int a4), (5, Value.int a5), (7, Value.int v7)] [Value.int u6, Value.int v6] M (k u6)) (fun u6 => ?_) (fun k98 hk98 => ?_)
      · refine j_isub (pc := 98) d_Model_sits_98 ?_
        refine j_nmi (fun x7 => ?_)
        refine j_istore (pc := 99) d_Model_sits_99 (by decide) rfl ?_
        refine j_iinc (pc := 101) (q := 6) d_Model_sits_101 rfl (congrArg (v7 + ·) k_i_1) (by decide) rfl ?_
        refine j_goto (pc := 104) (tgt := 64) d_Model_sits_104 (by decide) ?_
        refine j_lv [2, 3, 4, 5, 6, 1, 0] rfl ?_
        exact ih x7 (v7 + 1)
      · refine j_icmp_ne (pc := 90) (tgt := 97) d_Model_sits_90 (by decide) (fun _ => ?_) (fun _ => ?_)
        · refine j_iconst (pc := 97) d_Model_sits_97 k_i_1 ?_
          refine j_lv [0, 1, 2, 3, 4, 6] rfl ?_
          exact hk98 1
        · refine j_iconst (pc := 93) d_Model_sits_93 k_i_0 ?_
          refine j_goto (pc := 94) (tgt := 98) d_Model_sits_94 (by decide) ?_
          refine j_lv [0, 1, 2, 3, 4, 6] rfl ?_
          exact hk98 0
    · refine j_icmp_eq (pc := 72) (tgt := 80) d_Model_sits_72 (by decide) (fun _ => ?_) (fun _ => ?_)
      · exact hk80
      · refine j_iload (pc := 75) (q := 5) d_Model_sits_75 rfl ?_
        refine j_if_le (pc := 77) (tgt := 107) d_Model_sits_77 (by decide) (fun _ => ?_) (fun _ => ?_)
        · refine j_lv [0, 1, 2, 3, 4, 6] rfl ?_
          exact hkx107 v7
        · exact hk80
set_option maxRecDepth 20000 in
set_option maxHeartbeats 4000000 in
theorem X_Model_sits_L33_ok {n : Nat} : ∀ (m : Nat) (v2 : Int32) (v3 : Int32) (v4 : Int32) (v5 : Int32) (M : Mem), J (mt_Model_sits) wU 33 [(0, Value.ref 0), (2, Value.int v2), (3, Value.int v3), (4, Value.int v4), (5, Value.int v5)] [] M (X_Model_sits_L33 n m v2 v3 v4 v5 M) := by
  intro m
  induction m with
  | zero => intro _ _ _ _ _; exact j_none
  | succ m ih =>
    intro v2 v3 v4 v5 M
    show J _ _ _ _ _ _ ((if (M.1 0 2) ≤ v5 then
some ((), M)
else
(if ((M.1 0 2) - v5) = 0 then none else
nm (v3 / ((M.1 0 2) - v5)) fun x3 =>
(if x3 = 0 then none else
nm (v2 / x3) fun x4 =>
(if x3 = 0 then none else
nm (v2 - v2 / x3 * x3) fun x5 =>
X_Model_sits_L64 n x5 x3 v4 v5 (fun y8 => gd v5 6 (
nm (v4 ||| ((1 : Int32) <<< (y8 &&& 31))) fun x9 =>
X_Model_sits_L33 n m x5 x3 x9 (v5 + 1) (si M 21 (v5.toNatClampNeg) y8))) M n x4 0)))))
    refine j_iload (pc := 33) (q := 4) d_Model_sits_33 rfl ?_
    refine j_aload_n (pc := 35) (q := 0) d_Model_sits_35 rfl rfl ?_
    refine j_getI (pc := 36) d_Model_sits_36 fl_Model_119 sm_0 (by decide) rfl ?_
    refine j_icmp_ge (pc := 39) (tgt := 131) d_Model_sits_39 (by decide) (fun _ => ?_) (fun _ => ?_)
    · exact j_return (pc := 131) d_Model_sits_131 rfl
    · refine j_iload_n (pc := 42) (q := 2) d_Model_sits_42 rfl rfl ?_
      refine j_aload_n (pc := 43) (q := 0) d_Model_sits_43 rfl rfl ?_
      refine j_getI (pc := 44) d_Model_sits_44 fl_Model_119 sm_0 (by decide) rfl ?_
      refine j_iload (pc := 47) (q := 4) d_Model_sits_47 rfl ?_
      refine j_isub (pc := 49) d_Model_sits_49 ?_
      refine j_idiv (pc := 50) d_Model_sits_50 (fun _ => ?_)
      refine j_nmi (fun x3 => ?_)
      refine j_istore_n (pc := 51) d_Model_sits_51 rfl (by decide) rfl ?_
      refine j_iload_n (pc := 52) (q := 2) d_Model_sits_52 rfl rfl ?_
      refine j_iload_n (pc := 53) (q := 0) d_Model_sits_53 rfl rfl ?_
      refine j_idiv (pc := 54) d_Model_sits_54 (fun _ => ?_)
      refine j_nmi (fun x4 => ?_)
      refine j_istore (pc := 55) d_Model_sits_55 (by decide) rfl ?_
      refine j_iload_n (pc := 57) (q := 3) d_Model_sits_57 rfl rfl ?_
      refine j_iload_n (pc := 58) (q := 1) d_Model_sits_58 rfl rfl ?_
      refine j_irem (pc := 59) d_Model_sits_59 (fun _ => ?_)
      refine j_nmi (fun x5 => ?_)
      refine j_istore_n (pc := 60) d_Model_sits_60 rfl (by decide) rfl ?_
      refine j_iconst (pc := 61) d_Model_sits_61 k_i_0 ?_
      refine j_istore (pc := 62) d_Model_sits_62 (by decide) rfl ?_
      refine j_lv [4, 1, 3, 5, 6, 2, 0] rfl ?_
      refine X_Model_sits_L64_ok  (fun y8 => ?_) n x4 0
      refine j_aload_n (pc := 107) (q := 0) d_Model_sits_107 rfl rfl ?_
      refine j_getA (pc := 108) d_Model_sits_108 fl_Model_72 sm_0 (by decide) rfl ?_
      refine j_iload (pc := 111) (q := 4) d_Model_sits_111 rfl ?_
      refine j_iload (pc := 113) (q := 5) d_Model_sits_113 rfl ?_
      refine j_iast (pc := 115) d_Model_sits_115 sm_21 (fun _ => ?_)
      refine j_iload (pc := 116) (q := 3) d_Model_sits_116 rfl ?_
      refine j_iconst (pc := 118) d_Model_sits_118 k_i_1 ?_
      refine j_iload (pc := 119) (q := 5) d_Model_sits_119 rfl ?_
      refine j_ishl (pc := 121) d_Model_sits_121 ?_
      refine j_ior (pc := 122) d_Model_sits_122 ?_
      refine j_nmi (fun x9 => ?_)
      refine j_istore (pc := 123) d_Model_sits_123 (by decide) rfl ?_
      refine j_iinc (pc := 125) (q := 4) d_Model_sits_125 rfl (congrArg (v5 + ·) k_i_1) (by decide) rfl ?_
      refine j_goto (pc := 128) (tgt := 33) d_Model_sits_128 (by decide) ?_
      refine j_lv [2, 3, 4, 1, 0] rfl ?_
      exact ih x5 x3 x9 (v5 + 1) (si M 21 (v5.toNatClampNeg) y8)
set_option maxRecDepth 20000 in
set_option maxHeartbeats 4000000 in
theorem C_Model_sits (n : Nat)   (p1 : Int32) (M : Mem) : Ct y_Model_sits mt_Model_sits wU [Value.ref 0, Value.int p1] M (X_Model_sits n p1 M) := by
  refine ct_of (by decide +kernel) rfl (Nat.le_of_ble_eq_true rfl) ?_
  show J _ _ _ [(0, Value.ref 0), (1, Value.int p1)] _ _ _
  unfold X_Model_sits
  refine j_iload_n (pc := 0) (q := 1) d_Model_sits_0 rfl rfl ?_
  refine j_istore_n (pc := 1) d_Model_sits_1 rfl (by decide) rfl ?_
  refine j_iconst (pc := 2) d_Model_sits_2 k_i_1 ?_
  refine j_istore_n (pc := 3) d_Model_sits_3 rfl (by decide) rfl ?_
  refine j_iconst (pc := 4) d_Model_sits_4 k_i_0 ?_
  refine j_istore (pc := 5) d_Model_sits_5 (by decide) rfl ?_
  refine j_iconst (pc := 7) d_Model_sits_7 k_i_2 ?_
  refine j_istore (pc := 8) d_Model_sits_8 (by decide) rfl ?_
  refine j_lv [4, 3, 2, 1, 0] rfl ?_
  refine X_Model_sits_L10_ok  (fun y2 => ?_) n 1 2
  refine j_iconst (pc := 30) d_Model_sits_30 k_i_0 ?_
  refine j_istore (pc := 31) d_Model_sits_31 (by decide) rfl ?_
  refine j_lv [1, 2, 3, 4, 0] rfl ?_
  exact X_Model_sits_L33_ok   n p1 y2 0 0 M
-- Model.seats (III)I
def mt_Model_seats : Mt := ("ShakeHandsModel", b_Model_seats, 9, some .int, 6, SHm)
theorem d_Model_seats_0 : decode b_Model_seats 0 = .ok (.iload_n 1, 1) := by decide +kernel
theorem d_Model_seats_1 : decode b_Model_seats 1 = .ok (.invokestatic 272, 3) := by decide +kernel
theorem d_Model_seats_4 : decode b_Model_seats 4 = .ok (.ifCond .eq 26, 3) := by decide +kernel
theorem d_Model_seats_7 : decode b_Model_seats 7 = .ok (.aload_n 0, 1) := by decide +kernel
theorem d_Model_seats_8 : decode b_Model_seats 8 = .ok (.iload_n 2, 1) := by decide +kernel
theorem d_Model_seats_9 : decode b_Model_seats 9 = .ok (.invokevirtual 268, 3) := by decide +kernel
theorem d_Model_seats_12 : decode b_Model_seats 12 = .ok (.ifCond .eq 18, 3) := by decide +kernel
theorem d_Model_seats_15 : decode b_Model_seats 15 = .ok (.iload_n 3, 1) := by decide +kernel
theorem d_Model_seats_16 : decode b_Model_seats 16 = .ok (.ifCond .eq 16, 3) := by decide +kernel
theorem d_Model_seats_19 : decode b_Model_seats 19 = .ok (.aload_n 0, 1) := by decide +kernel
theorem d_Model_seats_20 : decode b_Model_seats 20 = .ok (.iload_n 3, 1) := by decide +kernel
theorem d_Model_seats_21 : decode b_Model_seats 21 = .ok (.bipush 10, 2) := by decide +kernel
theorem d_Model_seats_23 : decode b_Model_seats 23 = .ok (.isub, 1) := by decide +kernel
theorem d_Model_seats_24 : decode b_Model_seats 24 = .ok (.invokevirtual 268, 3) := by decide +kernel
theorem d_Model_seats_27 : decode b_Model_seats 27 = .ok (.ifCond .ne 5, 3) := by decide +kernel
theorem d_Model_seats_30 : decode b_Model_seats 30 = .ok (.iconst (-1), 1) := by decide +kernel
theorem d_Model_seats_31 : decode b_Model_seats 31 = .ok (.ireturn, 1) := by decide +kernel
theorem d_Model_seats_32 : decode b_Model_seats 32 = .ok (.aload_n 0, 1) := by decide +kernel
theorem d_Model_seats_33 : decode b_Model_seats 33 = .ok (.iload_n 1, 1) := by decide +kernel
theorem d_Model_seats_34 : decode b_Model_seats 34 = .ok (.invokevirtual 275, 3) := by decide +kernel
theorem d_Model_seats_37 : decode b_Model_seats 37 = .ok (.istore 4, 2) := by decide +kernel
theorem d_Model_seats_39 : decode b_Model_seats 39 = .ok (.iload 4, 2) := by decide +kernel
theorem d_Model_seats_41 : decode b_Model_seats 41 = .ok (.iload_n 2, 1) := by decide +kernel
theorem d_Model_seats_42 : decode b_Model_seats 42 = .ok (.ishr, 1) := by decide +kernel
theorem d_Model_seats_43 : decode b_Model_seats 43 = .ok (.iconst 1, 1) := by decide +kernel
theorem d_Model_seats_44 : decode b_Model_seats 44 = .ok (.iand, 1) := by decide +kernel
theorem d_Model_seats_45 : decode b_Model_seats 45 = .ok (.iconst 1, 1) := by decide +kernel
theorem d_Model_seats_46 : decode b_Model_seats 46 = .ok (.if_icmp .ne 6, 3) := by decide +kernel
theorem d_Model_seats_49 : decode b_Model_seats 49 = .ok (.bipush (-2), 2) := by decide +kernel
theorem d_Model_seats_51 : decode b_Model_seats 51 = .ok (.ireturn, 1) := by decide +kernel
theorem d_Model_seats_52 : decode b_Model_seats 52 = .ok (.iconst 1, 1) := by decide +kernel
theorem d_Model_seats_53 : decode b_Model_seats 53 = .ok (.istore 5, 2) := by decide +kernel
theorem d_Model_seats_55 : decode b_Model_seats 55 = .ok (.iconst 2, 1) := by decide +kernel
theorem d_Model_seats_56 : decode b_Model_seats 56 = .ok (.istore 6, 2) := by decide +kernel
theorem d_Model_seats_58 : decode b_Model_seats 58 = .ok (.iload 6, 2) := by decide +kernel
theorem d_Model_seats_60 : decode b_Model_seats 60 = .ok (.aload_n 0, 1) := by decide +kernel
theorem d_Model_seats_61 : decode b_Model_seats 61 = .ok (.getfield 119, 3) := by decide +kernel
theorem d_Model_seats_64 : decode b_Model_seats 64 = .ok (.if_icmp .gt 16, 3) := by decide +kernel
theorem d_Model_seats_67 : decode b_Model_seats 67 = .ok (.iload 5, 2) := by decide +kernel
theorem d_Model_seats_69 : decode b_Model_seats 69 = .ok (.iload 6, 2) := by decide +kernel
theorem d_Model_seats_71 : decode b_Model_seats 71 = .ok (.imul, 1) := by decide +kernel
theorem d_Model_seats_72 : decode b_Model_seats 72 = .ok (.istore 5, 2) := by decide +kernel
theorem d_Model_seats_74 : decode b_Model_seats 74 = .ok (.iinc 6 1, 3) := by decide +kernel
theorem d_Model_seats_77 : decode b_Model_seats 77 = .ok (.goto (-19), 3) := by decide +kernel
theorem d_Model_seats_80 : decode b_Model_seats 80 = .ok (.iconst 0, 1) := by decide +kernel
theorem d_Model_seats_81 : decode b_Model_seats 81 = .ok (.istore 6, 2) := by decide +kernel
theorem d_Model_seats_83 : decode b_Model_seats 83 = .ok (.iconst 0, 1) := by decide +kernel
theorem d_Model_seats_84 : decode b_Model_seats 84 = .ok (.istore 7, 2) := by decide +kernel
theorem d_Model_seats_86 : decode b_Model_seats 86 = .ok (.iload 7, 2) := by decide +kernel
theorem d_Model_seats_88 : decode b_Model_seats 88 = .ok (.iload 5, 2) := by decide +kernel
theorem d_Model_seats_90 : decode b_Model_seats 90 = .ok (.if_icmp .ge 125, 3) := by decide +kernel
theorem d_Model_seats_93 : decode b_Model_seats 93 = .ok (.aload_n 0, 1) := by decide +kernel
theorem d_Model_seats_94 : decode b_Model_seats 94 = .ok (.iload 7, 2) := by decide +kernel
theorem d_Model_seats_96 : decode b_Model_seats 96 = .ok (.invokevirtual 398, 3) := by decide +kernel
theorem d_Model_seats_99 : decode b_Model_seats 99 = .ok (.aload_n 0, 1) := by decide +kernel
theorem d_Model_seats_100 : decode b_Model_seats 100 = .ok (.iconst 0, 1) := by decide +kernel
theorem d_Model_seats_101 : decode b_Model_seats 101 = .ok (.invokevirtual 256, 3) := by decide +kernel
theorem d_Model_seats_104 : decode b_Model_seats 104 = .ok (.iconst 0, 1) := by decide +kernel
theorem d_Model_seats_105 : decode b_Model_seats 105 = .ok (.istore 8, 2) := by decide +kernel
theorem d_Model_seats_107 : decode b_Model_seats 107 = .ok (.iload 8, 2) := by decide +kernel
theorem d_Model_seats_109 : decode b_Model_seats 109 = .ok (.iconst 1, 1) := by decide +kernel
theorem d_Model_seats_110 : decode b_Model_seats 110 = .ok (.iadd, 1) := by decide +kernel
theorem d_Model_seats_111 : decode b_Model_seats 111 = .ok (.aload_n 0, 1) := by decide +kernel
theorem d_Model_seats_112 : decode b_Model_seats 112 = .ok (.getfield 119, 3) := by decide +kernel
theorem d_Model_seats_115 : decode b_Model_seats 115 = .ok (.if_icmp .ge 37, 3) := by decide +kernel
theorem d_Model_seats_118 : decode b_Model_seats 118 = .ok (.aload_n 0, 1) := by decide +kernel
theorem d_Model_seats_119 : decode b_Model_seats 119 = .ok (.iconst 0, 1) := by decide +kernel
theorem d_Model_seats_120 : decode b_Model_seats 120 = .ok (.aload_n 0, 1) := by decide +kernel
theorem d_Model_seats_121 : decode b_Model_seats 121 = .ok (.getfield 72, 3) := by decide +kernel
theorem d_Model_seats_124 : decode b_Model_seats 124 = .ok (.iload 8, 2) := by decide +kernel
theorem d_Model_seats_126 : decode b_Model_seats 126 = .ok (.iaload, 1) := by decide +kernel
theorem d_Model_seats_127 : decode b_Model_seats 127 = .ok (.aload_n 0, 1) := by decide +kernel
theorem d_Model_seats_128 : decode b_Model_seats 128 = .ok (.getfield 72, 3) := by decide +kernel
theorem d_Model_seats_131 : decode b_Model_seats 131 = .ok (.iload 8, 2) := by decide +kernel
theorem d_Model_seats_133 : decode b_Model_seats 133 = .ok (.iconst 1, 1) := by decide +kernel
theorem d_Model_seats_134 : decode b_Model_seats 134 = .ok (.iadd, 1) := by decide +kernel
theorem d_Model_seats_135 : decode b_Model_seats 135 = .ok (.iaload, 1) := by decide +kernel
theorem d_Model_seats_136 : decode b_Model_seats 136 = .ok (.invokestatic 87, 3) := by decide +kernel
theorem d_Model_seats_139 : decode b_Model_seats 139 = .ok (.aload_n 0, 1) := by decide +kernel
theorem d_Model_seats_140 : decode b_Model_seats 140 = .ok (.invokevirtual 221, 3) := by decide +kernel
theorem d_Model_seats_143 : decode b_Model_seats 143 = .ok (.invokevirtual 282, 3) := by decide +kernel
theorem d_Model_seats_146 : decode b_Model_seats 146 = .ok (.iinc 8 1, 3) := by decide +kernel
theorem d_Model_seats_149 : decode b_Model_seats 149 = .ok (.goto (-42), 3) := by decide +kernel
theorem d_Model_seats_152 : decode b_Model_seats 152 = .ok (.aload_n 0, 1) := by decide +kernel
theorem d_Model_seats_153 : decode b_Model_seats 153 = .ok (.iconst 0, 1) := by decide +kernel
theorem d_Model_seats_154 : decode b_Model_seats 154 = .ok (.iload_n 1, 1) := by decide +kernel
theorem d_Model_seats_155 : decode b_Model_seats 155 = .ok (.invokevirtual 262, 3) := by decide +kernel
theorem d_Model_seats_158 : decode b_Model_seats 158 = .ok (.iload 4, 2) := by decide +kernel
theorem d_Model_seats_160 : decode b_Model_seats 160 = .ok (.iconst (-1), 1) := by decide +kernel
theorem d_Model_seats_161 : decode b_Model_seats 161 = .ok (.ixor, 1) := by decide +kernel
theorem d_Model_seats_162 : decode b_Model_seats 162 = .ok (.iand, 1) := by decide +kernel
theorem d_Model_seats_163 : decode b_Model_seats 163 = .ok (.iconst 1, 1) := by decide +kernel
theorem d_Model_seats_164 : decode b_Model_seats 164 = .ok (.iload_n 2, 1) := by decide +kernel
theorem d_Model_seats_165 : decode b_Model_seats 165 = .ok (.ishl, 1) := by decide +kernel
theorem d_Model_seats_166 : decode b_Model_seats 166 = .ok (.if_icmp .ne 43, 3) := by decide +kernel
theorem d_Model_seats_169 : decode b_Model_seats 169 = .ok (.iconst 0, 1) := by decide +kernel
theorem d_Model_seats_170 : decode b_Model_seats 170 = .ok (.istore 8, 2) := by decide +kernel
theorem d_Model_seats_172 : decode b_Model_seats 172 = .ok (.iload 8, 2) := by decide +kernel
theorem d_Model_seats_174 : decode b_Model_seats 174 = .ok (.aload_n 0, 1) := by decide +kernel
theorem d_Model_seats_175 : decode b_Model_seats 175 = .ok (.getfield 119, 3) := by decide +kernel
theorem d_Model_seats_178 : decode b_Model_seats 178 = .ok (.if_icmp .ge 28, 3) := by decide +kernel
theorem d_Model_seats_181 : decode b_Model_seats 181 = .ok (.iload 6, 2) := by decide +kernel
theorem d_Model_seats_183 : decode b_Model_seats 183 = .ok (.ifCond .ne 23, 3) := by decide +kernel
theorem d_Model_seats_186 : decode b_Model_seats 186 = .ok (.aload_n 0, 1) := by decide +kernel
theorem d_Model_seats_187 : decode b_Model_seats 187 = .ok (.getfield 75, 3) := by decide +kernel
theorem d_Model_seats_190 : decode b_Model_seats 190 = .ok (.iload 8, 2) := by decide +kernel
theorem d_Model_seats_192 : decode b_Model_seats 192 = .ok (.aload_n 0, 1) := by decide +kernel
theorem d_Model_seats_193 : decode b_Model_seats 193 = .ok (.getfield 72, 3) := by decide +kernel
theorem d_Model_seats_196 : decode b_Model_seats 196 = .ok (.iload 8, 2) := by decide +kernel
theorem d_Model_seats_198 : decode b_Model_seats 198 = .ok (.iaload, 1) := by decide +kernel
theorem d_Model_seats_199 : decode b_Model_seats 199 = .ok (.iastore, 1) := by decide +kernel
theorem d_Model_seats_200 : decode b_Model_seats 200 = .ok (.iinc 8 1, 3) := by decide +kernel
theorem d_Model_seats_203 : decode b_Model_seats 203 = .ok (.goto (-31), 3) := by decide +kernel
theorem d_Model_seats_206 : decode b_Model_seats 206 = .ok (.iinc 6 1, 3) := by decide +kernel
theorem d_Model_seats_209 : decode b_Model_seats 209 = .ok (.iinc 7 1, 3) := by decide +kernel
theorem d_Model_seats_212 : decode b_Model_seats 212 = .ok (.goto (-126), 3) := by decide +kernel
theorem d_Model_seats_215 : decode b_Model_seats 215 = .ok (.iload_n 3, 1) := by decide +kernel
theorem d_Model_seats_216 : decode b_Model_seats 216 = .ok (.ifCond .ne 8, 3) := by decide +kernel
theorem d_Model_seats_219 : decode b_Model_seats 219 = .ok (.iload 6, 2) := by decide +kernel
theorem d_Model_seats_221 : decode b_Model_seats 221 = .ok (.goto 22, 3) := by decide +kernel
theorem d_Model_seats_224 : decode b_Model_seats 224 = .ok (.iload 6, 2) := by decide +kernel
theorem d_Model_seats_226 : decode b_Model_seats 226 = .ok (.ifCond .ne 8, 3) := by decide +kernel
theorem d_Model_seats_229 : decode b_Model_seats 229 = .ok (.bipush (-4), 2) := by decide +kernel
theorem d_Model_seats_231 : decode b_Model_seats 231 = .ok (.goto 12, 3) := by decide +kernel
theorem d_Model_seats_234 : decode b_Model_seats 234 = .ok (.aload_n 0, 1) := by decide +kernel
theorem d_Model_seats_235 : decode b_Model_seats 235 = .ok (.getfield 75, 3) := by decide +kernel
theorem d_Model_seats_238 : decode b_Model_seats 238 = .ok (.iload_n 3, 1) := by decide +kernel
theorem d_Model_seats_239 : decode b_Model_seats 239 = .ok (.bipush 10, 2) := by decide +kernel
theorem d_Model_seats_241 : decode b_Model_seats 241 = .ok (.isub, 1) := by decide +kernel
theorem d_Model_seats_242 : decode b_Model_seats 242 = .ok (.iaload, 1) := by decide +kernel
theorem d_Model_seats_243 : decode b_Model_seats 243 = .ok (.ireturn, 1) := by decide +kernel
def X_Model_seats_L58 (n : Nat) (a1 : Int32) (a2 : Int32) (a3 : Int32) (a4 : Int32) (kx80 : Int32 → Option (Int32 × Mem)) (M : Mem) : Nat → Int32 → Int32 → Option (Int32 × Mem)
    | 0, _, _ => none
    | m + 1, v5, v6 => (if (M.1 0 2) < v6 then
    kx80 v5
    else
    nm (v5 * v6) fun x8 =>
    X_Model_seats_L58 n a1 a2 a3 a4 kx80 M m x8 (v6 + 1))
def X_Model_seats_L107 (n : Nat) (a1 : Int32) (a2 : Int32) (a3 : Int32) (a4 : Int32) (a5 : Int32) (a6 : Int32) (a7 : Int32) (kx152 : Mem → Option (Int32 × Mem)) : Nat → Int32 → Mem → Option (Int32 × Mem)
    | 0, _, _ => none
    | m + 1, v8, M => (if (M.1 0 2) ≤ (v8 + 1) then
    kx152 M
    else
    gd v8 6 (
      gd (v8 + 1) 6 (
        bd (X_Model_pairOf n (M.1 21 v8.toNatClampNeg) (M.1 21 (v8 + 1).toNatClampNeg) M) fun r14 M15 =>
        bd (X_Model_worn n M15) fun r16 M17 =>
        bd (X_Model_shakes n 0 r14 r16 M17) fun _ M19 =>
        X_Model_seats_L107 n a1 a2 a3 a4 a5 a6 a7 kx152 m (v8 + 1) M19)))
def X_Model_seats_L172 (n : Nat) (a1 : Int32) (a2 : Int32) (a3 : Int32) (a4 : Int32) (a5 : Int32) (a6 : Int32) (a7 : Int32) (kx206 : Mem → Option (Int32 × Mem)) : Nat → Int32 → Mem → Option (Int32 × Mem)
    | 0, _, _ => none
    | m + 1, v8, M => (if (M.1 0 2) ≤ v8 then
    kx206 M
    else
    (if a6 = 0 then
      gd v8 6 (
        gd v8 6 (
          X_Model_seats_L172 n a1 a2 a3 a4 a5 a6 a7 kx206 m (v8 + 1) (si M 22 (v8.toNatClampNeg) (M.1 21 v8.toNatClampNeg))))
      else
      kx206 M))
def X_Model_seats_L86 (n : Nat) (a1 : Int32) (a2 : Int32) (a3 : Int32) (a4 : Int32) (a5 : Int32) (kx215 : Int32 → Mem → Option (Int32 × Mem)) : Nat → Int32 → Int32 → Mem → Option (Int32 × Mem)
    | 0, _, _, _ => none
    | m + 1, v6, v7, M => (if a5 ≤ v7 then
    kx215 v6 M
    else
    bd (X_Model_sits n v7 M) fun _ M11 =>
    bd (X_Model_begins n 0 M11) fun _ M13 =>
    X_Model_seats_L107 n a1 a2 a3 a4 a5 v6 v7 (fun M20 => bd (X_Model_whoIn n 0 a1 M20) fun r21 M22 =>
      nm (fun (z23 : Int32) (M24 : Mem) => (X_Model_seats_L86 n a1 a2 a3 a4 a5 kx215 m z23 (v7 + 1) M24 : Option (Int32 × Mem))) fun k209 =>
      (if (r21 &&& (a4 ^^^ (-1))) = ((1 : Int32) <<< (a2 &&& 31)) then
        X_Model_seats_L172 n a1 a2 a3 a4 a5 v6 v7 (fun M25 => k209 (v6 + 1) M25) n 0 M22
        else
        k209 v6 M22)) n 0 M13)
def X_Model_seats (n : Nat) (p1 : Int32) (p2 : Int32) (p3 : Int32) (M : Mem) : Option (Int32 × Mem) :=
  bd (X_Model_isThing n p1 M) fun r1 M2 =>
  (if r1 = 0 then
    some ((-1), M2)
    else
    bd (X_Model_isOne n p2 M2) fun r3 M4 =>
    (if r3 = 0 then
      some ((-1), M4)
      else
      nm (fun (M5 : Mem) => (bd (X_Model_whoNow n p1 M5) fun r6 M7 =>
          (if ((r6 >>> (p2 &&& 31)) &&& 1) = 1 then
            some ((-2), M7)
            else
            X_Model_seats_L58 n p1 p2 p3 r6 (fun y9 => X_Model_seats_L86 n p1 p2 p3 r6 y9 (fun y26 M27 => (if p3 = 0 then
                  some (y26, M27)
                  else
                  (if y26 = 0 then
                    some ((-4), M27)
                    else
                    gd (p3 - 10) 6 (
                      some ((M27.1 22 (p3 - 10).toNatClampNeg), M27))))) n 0 0 M7) M7 n 1 2) : Option (Int32 × Mem))) fun k32 =>
      (if p3 = 0 then
        k32 M4
        else
        bd (X_Model_isOne n (p3 - 10) M4) fun r28 M29 =>
        (if r28 = 0 then
          some ((-1), M29)
          else
          k32 M29))))
set_option maxRecDepth 20000 in
set_option maxHeartbeats 4000000 in
theorem X_Model_seats_L58_ok {n : Nat} {a1 : Int32} {a2 : Int32} {a3 : Int32} {a4 : Int32} {kx80 : Int32 → Option (Int32 × Mem)} {M : Mem} (hkx80 : ∀ (w5 : Int32), J (mt_Model_seats) wI 80 [(0, Value.ref 0), (1, Value.int a1), (2, Value.int a2), (3, Value.int a3), (4, Value.int a4), (5, Value.int w5)] [] M (kx80 w5)) : ∀ (m : Nat) (v5 : Int32) (v6 : Int32), J (mt_Model_seats) wI 58 [(0, Value.ref 0), (1, Value.int a1), (2, Value.int a2), (3, Value.int a3), (4, Value.int a4), (5, Value.int v5), (6, Value.int v6)] [] M (X_Model_seats_L58 n a1 a2 a3 a4 kx80 M m v5 v6) := by
  intro m
  induction m with
  | zero => intro _ _; exact j_none
  | succ m ih =>
    intro v5 v6
    show J _ _ _ _ _ _ ((if (M.1 0 2) < v6 then
kx80 v5
else
nm (v5 * v6) fun x8 =>
X_Model_seats_L58 n a1 a2 a3 a4 kx80 M m x8 (v6 + 1)))
    refine j_iload (pc := 58) (q := 6) d_Model_seats_58 rfl ?_
    refine j_aload_n (pc := 60) (q := 0) d_Model_seats_60 rfl rfl ?_
    refine j_getI (pc := 61) d_Model_seats_61 fl_Model_119 sm_0 (by decide) rfl ?_
    refine j_icmp_gt (pc := 64) (tgt := 80) d_Model_seats_64 (by decide) (fun _ => ?_) (fun _ => ?_)
    · refine j_lv [0, 1, 2, 3, 4, 5] rfl ?_
      exact hkx80 v5
    · refine j_iload (pc := 67) (q := 5) d_Model_seats_67 rfl ?_
      refine j_iload (pc := 69) (q := 6) d_Model_seats_69 rfl ?_
      refine j_imul (pc := 71) d_Model_seats_71 ?_
      refine j_nmi (fun x8 => ?_)
      refine j_istore (pc := 72) d_Model_seats_72 (by decide) rfl ?_
      refine j_iinc (pc := 74) (q := 6) d_Model_seats_74 rfl (congrArg (v6 + ·) k_i_1) (by decide) rfl ?_
      refine j_goto (pc := 77) (tgt := 58) d_Model_seats_77 (by decide) ?_
      refine j_lv [2, 3, 4, 5, 6, 1, 0] rfl ?_
      exact ih x8 (v6 + 1)
set_option maxRecDepth 20000 in
set_option maxHeartbeats 4000000 in
theorem X_Model_seats_L107_ok {n : Nat} {a1 : Int32} {a2 : Int32} {a3 : Int32} {a4 : Int32} {a5 : Int32} {a6 : Int32} {a7 : Int32} {kx152 : Mem → Option (Int32 × Mem)} (hkx152 : ∀ (M : Mem), J (mt_Model_seats) wI 152 [(0, Value.ref 0), (1, Value.int a1), (2, Value.int a2), (3, Value.int a3), (4, Value.int a4), (5, Value.int a5), (6, Value.int a6), (7, Value.int a7)] [] M (kx152 M)) : ∀ (m : Nat) (v8 : Int32) (M : Mem), J (mt_Model_seats) wI 107 [(0, Value.ref 0), (1, Value.int a1), (2, Value.int a2), (3, Value.int a3), (4, Value.int a4), (5, Value.int a5), (6, Value.int a6), (7, Value.int a7), (8, Value.int v8)] [] M (X_Model_seats_L107 n a1 a2 a3 a4 a5 a6 a7 kx152 m v8 M) := by
  intro m
  induction m with
  | zero => intro _ _; exact j_none
  | succ m ih =>
    intro v8 M
    show J _ _ _ _ _ _ ((if (M.1 0 2) ≤ (v8 + 1) then
kx152 M
else
gd v8 6 (
gd (v8 + 1) 6 (
bd (X_Model_pairOf n (M.1 21 v8.toNatClampNeg) (M.1 21 (v8 + 1).toNatClampNeg) M) fun r14 M15 =>
bd (X_Model_worn n M15) fun r16 M17 =>
bd (X_Model_shakes n 0 r14 r16 M17) fun _ M19 =>
X_Model_seats_L107 n a1 a2 a3 a4 a5 a6 a7 kx152 m (v8 + 1) M19))))
    refine j_iload (pc := 107) (q := 8) d_Model_seats_107 rfl ?_
    refine j_iconst (pc := 109) d_Model_seats_109 k_i_1 ?_
    refine j_iadd (pc := 110) d_Model_seats_110 ?_
    refine j_aload_n (pc := 111) (q := 0) d_Model_seats_111 rfl rfl ?_
    refine j_getI (pc := 112) d_Model_seats_112 fl_Model_119 sm_0 (by decide) rfl ?_
    refine j_icmp_ge (pc := 115) (tgt := 152) d_Model_seats_115 (by decide) (fun _ => ?_) (fun _ => ?_)
    · refine j_lv [0, 1, 2, 3, 4, 5, 6, 7] rfl ?_
      exact hkx152 M
    · refine j_aload_n (pc := 118) (q := 0) d_Model_seats_118 rfl rfl ?_
      refine j_iconst (pc := 119) d_Model_seats_119 k_i_0 ?_
      refine j_aload_n (pc := 120) (q := 0) d_Model_seats_120 rfl rfl ?_
      refine j_getA (pc := 121) d_Model_seats_121 fl_Model_72 sm_0 (by decide) rfl ?_
      refine j_iload (pc := 124) (q := 8) d_Model_seats_124 rfl ?_
      refine j_iald (pc := 126) d_Model_seats_126 sm_21 (fun _ => ?_)
      refine j_aload_n (pc := 127) (q := 0) d_Model_seats_127 rfl rfl ?_
      refine j_getA (pc := 128) d_Model_seats_128 fl_Model_72 sm_0 (by decide) rfl ?_
      refine j_iload (pc := 131) (q := 8) d_Model_seats_131 rfl ?_
      refine j_iconst (pc := 133) d_Model_seats_133 k_i_1 ?_
      refine j_iadd (pc := 134) d_Model_seats_134 ?_
      refine j_iald (pc := 135) d_Model_seats_135 sm_21 (fun _ => ?_)
      refine j_callS2 (pc := 136) d_Model_seats_136 (C_Model_pairOf n (M.1 21 v8.toNatClampNeg) (M.1 21 (v8 + 1).toNatClampNeg) M) cS_Model_87 cd_Model_pairOf dn_Model_pairOf rfl (by decide) (Nat.le_of_ble_eq_true rfl) (Nat.le_of_ble_eq_true rfl) nr_I (fun r14 M15 => ?_)
      refine j_aload_n (pc := 139) (q := 0) d_Model_seats_139 rfl rfl ?_
      refine j_callV0 (pc := 140) d_Model_seats_140 (C_Model_worn n M15) cV_Model_221 cd_Model_worn dn_Model_worn rfl (by decide) (Nat.le_of_ble_eq_true rfl) (Nat.le_of_ble_eq_true rfl) nr_I sm_0 (by decide) rfl (fun r16 M17 => ?_)
      refine j_callV3 (pc := 143) d_Model_seats_143 (C_Model_shakes n 0 r14 r16 M17) cV_Model_282 cd_Model_shakes dn_Model_shakes rfl (by decide) (Nat.le_of_ble_eq_true rfl) (Nat.le_of_ble_eq_true rfl) nr_U sm_0 (by decide) rfl (fun r18 M19 => ?_)
      refine j_iinc (pc := 146) (q := 8) d_Model_seats_146 rfl (congrArg (v8 + ·) k_i_1) (by decide) rfl ?_
      refine j_goto (pc := 149) (tgt := 107) d_Model_seats_149 (by decide) ?_
      refine j_lv [1, 2, 3, 4, 5, 6, 7, 8, 0] rfl ?_
      exact ih (v8 + 1) M19
set_option maxRecDepth 20000 in
set_option maxHeartbeats 4000000 in
theorem X_Model_seats_L172_ok {n : Nat} {a1 : Int32} {a2 : Int32} {a3 : Int32} {a4 : Int32} {a5 : Int32} {a6 : Int32} {a7 : Int32} {kx206 : Mem → Option (Int32 × Mem)} (hkx206 : ∀ (M : Mem), J (mt_Model_seats) wI 206 [(0, Value.ref 0), (1, Value.int a1), (2, Value.int a2), (3, Value.int a3), (4, Value.int a4), (5, Value.int a5), (6, Value.int a6), (7, Value.int a7)] [] M (kx206 M)) : ∀ (m : Nat) (v8 : Int32) (M : Mem), J (mt_Model_seats) wI 172 [(0, Value.ref 0), (1, Value.int a1), (2, Value.int a2), (3, Value.int a3), (4, Value.int a4), (5, Value.int a5), (6, Value.int a6), (7, Value.int a7), (8, Value.int v8)] [] M (X_Model_seats_L172 n a1 a2 a3 a4 a5 a6 a7 kx206 m v8 M) := by
  intro m
  induction m with
  | zero => intro _ _; exact j_none
  | succ m ih =>
    intro v8 M
    show J _ _ _ _ _ _ ((if (M.1 0 2) ≤ v8 then
kx206 M
else
(if a6 = 0 then
gd v8 6 (
gd v8 6 (
X_Model_seats_L172 n a1 a2 a3 a4 a5 a6 a7 kx206 m (v8 + 1) (si M 22 (v8.toNatClampNeg) (M.1 21 v8.toNatClampNeg))))
else
kx206 M)))
    refine j_iload (pc := 172) (q := 8) d_Model_seats_172 rfl ?_
    refine j_aload_n (pc := 174) (q := 0) d_Model_seats_174 rfl rfl ?_
    refine j_getI (pc := 175) d_Model_seats_175 fl_Model_119 sm_0 (by decide) rfl ?_
    refine j_icmp_ge (pc := 178) (tgt := 206) d_Model_seats_178 (by decide) (fun _ => ?_) (fun _ => ?_)
    · refine j_lv [0, 1, 2, 3, 4, 5, 6, 7] rfl ?_
      exact hkx206 M
    · refine j_iload (pc := 181) (q := 6) d_Model_seats_181 rfl ?_
      refine j_if_ne (pc := 183) (tgt := 206) d_Model_seats_183 (by decide) (fun _ => ?_) (fun _ => ?_)
      · refine j_lv [0, 1, 2, 3, 4, 5, 6, 7] rfl ?_
        exact hkx206 M
      · refine j_aload_n (pc := 186) (q := 0) d_Model_seats_186 rfl rfl ?_
        refine j_getA (pc := 187) d_Model_seats_187 fl_Model_75 sm_0 (by decide) rfl ?_
        refine j_iload (pc := 190) (q := 8) d_Model_seats_190 rfl ?_
        refine j_aload_n (pc := 192) (q := 0) d_Model_seats_192 rfl rfl ?_
        refine j_getA (pc := 193) d_Model_seats_193 fl_Model_72 sm_0 (by decide) rfl ?_
        refine j_iload (pc := 196) (q := 8) d_Model_seats_196 rfl ?_
        refine j_iald (pc := 198) d_Model_seats_198 sm_21 (fun _ => ?_)
        refine j_iast (pc := 199) d_Model_seats_199 sm_22 (fun _ => ?_)
        refine j_iinc (pc := 200) (q := 8) d_Model_seats_200 rfl (congrArg (v8 + ·) k_i_1) (by decide) rfl ?_
        refine j_goto (pc := 203) (tgt := 172) d_Model_seats_203 (by decide) ?_
        refine j_lv [1, 2, 3, 4, 5, 6, 7, 8, 0] rfl ?_
        exact ih (v8 + 1) (si M 22 (v8.toNatClampNeg) (M.1 21 v8.toNatClampNeg))
set_option maxRecDepth 20000 in
set_option maxHeartbeats 4000000 in
theorem X_Model_seats_L86_ok {n : Nat} {a1 : Int32} {a2 : Int32} {a3 : Int32} {a4 : Int32} {a5 : Int32} {kx215 : Int32 → Mem → Option (Int32 × Mem)} (hkx215 : ∀ (w6 : Int32) (M : Mem), J (mt_Model_seats) wI 215 [(0, Value.ref 0), (3, Value.int a3), (6, Value.int w6)] [] M (kx215 w6 M)) : ∀ (m : Nat) (v6 : Int32) (v7 : Int32) (M : Mem), J (mt_Model_seats) wI 86 [(0, Value.ref 0), (1, Value.int a1), (2, Value.int a2), (3, Value.int a3), (4, Value.int a4), (5, Value.int a5), (6, Value.int v6), (7, Value.int v7)] [] M (X_Model_seats_L86 n a1 a2 a3 a4 a5 kx215 m v6 v7 M) := by
  intro m
  induction m with
  | zero => intro _ _ _; exact j_none
  | succ m ih =>
    intro v6 v7 M
    show J _ _ _ _ _ _ ((if a5 ≤ v7 then
kx215 v6 M
else
bd (X_Model_sits n v7 M) fun _ M11 =>
bd (X_Model_begins n 0 M11) fun _ M13 =>
X_Model_seats_L107 n a1 a2 a3 a4 a5 v6 v7 (fun M20 => bd (X_Model_whoIn n 0 a1 M20) fun r21 M22 =>
nm (fun (z23 : Int32) (M24 : Mem) => (X_Model_seats_L86 n a1 a2 a3 a4 a5 kx215 m z23 (v7 + 1) M24 : Option (Int32 × Mem))) fun k209 =>
(if (r21 &&& (a4 ^^^ (-1))) = ((1 : Int32) <<< (a2 &&& 31)) then
X_Model_seats_L172 n a1 a2 a3 a4 a5 v6 v7 (fun M25 => k209 (v6 + 1) M25) n 0 M22
else
k209 v6 M22)) n 0 M13))
    refine j_iload (pc := 86) (q := 7) d_Model_seats_86 rfl ?_
    refine j_iload (pc := 88) (q := 5) d_Model_seats_88 rfl ?_
    refine j_icmp_ge (pc := 90) (tgt := 215) d_Model_seats_90 (by decide) (fun _ => ?_) (fun _ => ?_)
    · refine j_lv [0, 3, 6] rfl ?_
      exact hkx215 v6 M
    · refine j_aload_n (pc := 93) (q := 0) d_Model_seats_93 rfl rfl ?_
      refine j_iload (pc := 94) (q := 7) d_Model_seats_94 rfl ?_
      refine j_callV1 (pc := 96) d_Model_seats_96 (C_Model_sits n v7 M) cV_Model_398 cd_Model_sits dn_Model_sits rfl (by decide) (Nat.le_of_ble_eq_true rfl) (Nat.le_of_ble_eq_true rfl) nr_U sm_0 (by decide) rfl (fun r10 M11 => ?_)
      refine j_aload_n (pc := 99) (q := 0) d_Model_seats_99 rfl rfl ?_
      refine j_iconst (pc := 100) d_Model_seats_100 k_i_0 ?_
      refine j_callV1 (pc := 101) d_Model_seats_101 (C_Model_begins n 0 M11) cV_Model_256 cd_Model_begins dn_Model_begins rfl (by decide) (Nat.le_of_ble_eq_true rfl) (Nat.le_of_ble_eq_true rfl) nr_U sm_0 (by decide) rfl (fun r12 M13 => ?_)
      refine j_iconst (pc := 104) d_Model_seats_104 k_i_0 ?_
      refine j_istore (pc := 105) d_Model_seats_105 (by decide) rfl ?_
      refine j_lv [1, 2, 3, 4, 5, 6, 7, 8, 0] rfl ?_
      refine X_Model_seats_L107_ok  (fun M20 => ?_) n 0 M13
      refine j_aload_n (pc := 152) (q := 0) d_Model_seats_152 rfl rfl ?_
      refine j_iconst (pc := 153) d_Model_seats_153 k_i_0 ?_
      refine j_iload_n (pc := 154) (q := 1) d_Model_seats_154 rfl rfl ?_
      refine j_callV2 (pc := 155) d_Model_seats_155 (C_Model_whoIn n 0 a1 M20) cV_Model_262 cd_Model_whoIn dn_Model_whoIn rfl (by decide) (Nat.le_of_ble_eq_true rfl) (Nat.le_of_ble_eq_true rfl) nr_I sm_0 (by decide) rfl (fun r21 M22 => ?_)
      refine j_iload (pc := 158) (q := 4) d_Model_seats_158 rfl ?_
      refine j_iconst (pc := 160) d_Model_seats_160 k_i_m1 ?_
      refine j_ixor (pc := 161) d_Model_seats_161 ?_
      refine j_iand (pc := 162) d_Model_seats_162 ?_
      refine j_iconst (pc := 163) d_Model_seats_163 k_i_1 ?_
      refine j_iload_n (pc := 164) (q := 2) d_Model_seats_164 rfl rfl ?_
      refine j_ishl (pc := 165) d_Model_seats_165 ?_
      refine j_nmk (fun k => ∀ (z23 : Int32) (M24 : Mem), J (mt_Model_seats) wI 209 [(0, Value.ref 0), (1, Value.int a1), (2, Value.int a2), (3, Value.int a3), (4, Value.int a4), (5, Value.int a5), (6, Value.int z23), (7, Value.int v7)] [] M24 (k z23 M24)) (fun z23 M24 => ?_) (fun k209 hk209 => ?_)
      · refine j_iinc (pc := 209) (q := 7) d_Model_seats_209 rfl (congrArg (v7 + ·) k_i_1) (by decide) rfl ?_
        refine j_goto (pc := 212) (tgt := 86) d_Model_seats_212 (by decide) ?_
        refine j_lv [1, 2, 3, 4, 5, 6, 7, 0] rfl ?_
        exact ih z23 (v7 + 1) M24
      · refine j_icmp_ne (pc := 166) (tgt := 209) d_Model_seats_166 (by decide) (fun _ => ?_) (fun _ => ?_)
        · exact hk209 v6 M22
        · refine j_iconst (pc := 169) d_Model_seats_169 k_i_0 ?_
          refine j_istore (pc := 170) d_Model_seats_170 (by decide) rfl ?_
          refine j_lv [1, 2, 3, 4, 5, 6, 7, 8, 0] rfl ?_
          refine X_Model_seats_L172_ok  (fun M25 => ?_) n 0 M22
          refine j_iinc (pc := 206) (q := 6) d_Model_seats_206 rfl (congrArg (v6 + ·) k_i_1) (by decide) rfl ?_
          refine j_lv [1, 2, 3, 4, 5, 6, 0, 7] rfl ?_
          exact hk209 (v6 + 1) M25
set_option maxRecDepth 20000 in
set_option maxHeartbeats 4000000 in
theorem C_Model_seats (n : Nat)   (p1 : Int32) (p2 : Int32) (p3 : Int32) (M : Mem) : Ct y_Model_seats mt_Model_seats wI [Value.ref 0, Value.int p1, Value.int p2, Value.int p3] M (X_Model_seats n p1 p2 p3 M) := by
  refine ct_of (by decide +kernel) rfl (Nat.le_of_ble_eq_true rfl) ?_
  show J _ _ _ [(0, Value.ref 0), (1, Value.int p1), (2, Value.int p2), (3, Value.int p3)] _ _ _
  unfold X_Model_seats
  refine j_iload_n (pc := 0) (q := 1) d_Model_seats_0 rfl rfl ?_
  refine j_callS1 (pc := 1) d_Model_seats_1 (C_Model_isThing n p1 M) cS_Model_272 cd_Model_isThing dn_Model_isThing rfl (by decide) (Nat.le_of_ble_eq_true rfl) (Nat.le_of_ble_eq_true rfl) nr_I (fun r1 M2 => ?_)
  refine j_if_eq (pc := 4) (tgt := 30) d_Model_seats_4 (by decide) (fun _ => ?_) (fun _ => ?_)
  · refine j_iconst (pc := 30) d_Model_seats_30 k_i_m1 ?_
    exact j_ireturn (pc := 31) d_Model_seats_31 rfl
  · refine j_aload_n (pc := 7) (q := 0) d_Model_seats_7 rfl rfl ?_
    refine j_iload_n (pc := 8) (q := 2) d_Model_seats_8 rfl rfl ?_
    refine j_callV1 (pc := 9) d_Model_seats_9 (C_Model_isOne n p2 M2) cV_Model_268 cd_Model_isOne dn_Model_isOne rfl (by decide) (Nat.le_of_ble_eq_true rfl) (Nat.le_of_ble_eq_true rfl) nr_I sm_0 (by decide) rfl (fun r3 M4 => ?_)
    refine j_if_eq (pc := 12) (tgt := 30) d_Model_seats_12 (by decide) (fun _ => ?_) (fun _ => ?_)
    · refine j_iconst (pc := 30) d_Model_seats_30 k_i_m1 ?_
      exact j_ireturn (pc := 31) d_Model_seats_31 rfl
    · refine j_iload_n (pc := 15) (q := 3) d_Model_seats_15 rfl rfl ?_
      refine j_nmk (fun k => ∀ (M5 : Mem), J (mt_Model_seats) wI 32 [(0, Value.ref 0), (1, Value.int p1), (2, Value.int p2), (3, Value.int p3)] [] M5 (k M5)) (fun M5 => ?_) (fun k32 hk32 => ?_)
      · refine j_aload_n (pc := 32) (q := 0) d_Model_seats_32 rfl rfl ?_
        refine j_iload_n (pc := 33) (q := 1) d_Model_seats_33 rfl rfl ?_
        refine j_callV1 (pc := 34) d_Model_seats_34 (C_Model_whoNow n p1 M5) cV_Model_275 cd_Model_whoNow dn_Model_whoNow rfl (by decide) (Nat.le_of_ble_eq_true rfl) (Nat.le_of_ble_eq_true rfl) nr_I sm_0 (by decide) rfl (fun r6 M7 => ?_)
        refine j_istore (pc := 37) d_Model_seats_37 (by decide) rfl ?_
        refine j_iload (pc := 39) (q := 0) d_Model_seats_39 rfl ?_
        refine j_iload_n (pc := 41) (q := 3) d_Model_seats_41 rfl rfl ?_
        refine j_ishr (pc := 42) d_Model_seats_42 ?_
        refine j_iconst (pc := 43) d_Model_seats_43 k_i_1 ?_
        refine j_iand (pc := 44) d_Model_seats_44 ?_
        refine j_iconst (pc := 45) d_Model_seats_45 k_i_1 ?_
        refine j_icmp_ne (pc := 46) (tgt := 52) d_Model_seats_46 (by decide) (fun _ => ?_) (fun _ => ?_)
        · refine j_iconst (pc := 52) d_Model_seats_52 k_i_1 ?_
          refine j_istore (pc := 53) d_Model_seats_53 (by decide) rfl ?_
          refine j_iconst (pc := 55) d_Model_seats_55 k_i_2 ?_
          refine j_istore (pc := 56) d_Model_seats_56 (by decide) rfl ?_
          refine j_lv [3, 4, 5, 6, 2, 1, 0] rfl ?_
          refine X_Model_seats_L58_ok  (fun y9 => ?_) n 1 2
          refine j_iconst (pc := 80) d_Model_seats_80 k_i_0 ?_
          refine j_istore (pc := 81) d_Model_seats_81 (by decide) rfl ?_
          refine j_iconst (pc := 83) d_Model_seats_83 k_i_0 ?_
          refine j_istore (pc := 84) d_Model_seats_84 (by decide) rfl ?_
          refine j_lv [2, 3, 4, 5, 6, 7, 1, 0] rfl ?_
          refine X_Model_seats_L86_ok  (fun y26 M27 => ?_) n 0 0 M7
          refine j_iload_n (pc := 215) (q := 1) d_Model_seats_215 rfl rfl ?_
          refine j_if_ne (pc := 216) (tgt := 224) d_Model_seats_216 (by decide) (fun _ => ?_) (fun _ => ?_)
          · refine j_iload (pc := 224) (q := 2) d_Model_seats_224 rfl ?_
            refine j_if_ne (pc := 226) (tgt := 234) d_Model_seats_226 (by decide) (fun _ => ?_) (fun _ => ?_)
            · refine j_aload_n (pc := 234) (q := 0) d_Model_seats_234 rfl rfl ?_
              refine j_getA (pc := 235) d_Model_seats_235 fl_Model_75 sm_0 (by decide) rfl ?_
              refine j_iload_n (pc := 238) (q := 1) d_Model_seats_238 rfl rfl ?_
              refine j_bipush (pc := 239) d_Model_seats_239 k_b_10 ?_
              refine j_isub (pc := 241) d_Model_seats_241 ?_
              refine j_iald (pc := 242) d_Model_seats_242 sm_22 (fun _ => ?_)
              exact j_ireturn (pc := 243) d_Model_seats_243 rfl
            · refine j_bipush (pc := 229) d_Model_seats_229 k_b_m4 ?_
              refine j_goto (pc := 231) (tgt := 243) d_Model_seats_231 (by decide) ?_
              exact j_ireturn (pc := 243) d_Model_seats_243 rfl
          · refine j_iload (pc := 219) (q := 2) d_Model_seats_219 rfl ?_
            refine j_goto (pc := 221) (tgt := 243) d_Model_seats_221 (by decide) ?_
            exact j_ireturn (pc := 243) d_Model_seats_243 rfl
        · refine j_bipush (pc := 49) d_Model_seats_49 k_b_m2 ?_
          exact j_ireturn (pc := 51) d_Model_seats_51 rfl
      · refine j_if_eq (pc := 16) (tgt := 32) d_Model_seats_16 (by decide) (fun _ => ?_) (fun _ => ?_)
        · exact hk32 M4
        · refine j_aload_n (pc := 19) (q := 0) d_Model_seats_19 rfl rfl ?_
          refine j_iload_n (pc := 20) (q := 3) d_Model_seats_20 rfl rfl ?_
          refine j_bipush (pc := 21) d_Model_seats_21 k_b_10 ?_
          refine j_isub (pc := 23) d_Model_seats_23 ?_
          refine j_callV1 (pc := 24) d_Model_seats_24 (C_Model_isOne n (p3 - 10) M4) cV_Model_268 cd_Model_isOne dn_Model_isOne rfl (by decide) (Nat.le_of_ble_eq_true rfl) (Nat.le_of_ble_eq_true rfl) nr_I sm_0 (by decide) rfl (fun r28 M29 => ?_)
          refine j_if_ne (pc := 27) (tgt := 32) d_Model_seats_27 (by decide) (fun _ => ?_) (fun _ => ?_)
          · exact hk32 M29
          · refine j_iconst (pc := 30) d_Model_seats_30 k_i_m1 ?_
            exact j_ireturn (pc := 31) d_Model_seats_31 rfl
-- Model.gloves (III)I
def mt_Model_gloves : Mt := ("ShakeHandsModel", b_Model_gloves, 7, some .int, 7, SHm)
theorem d_Model_gloves_0 : decode b_Model_gloves 0 = .ok (.iload_n 1, 1) := by decide +kernel
theorem d_Model_gloves_1 : decode b_Model_gloves 1 = .ok (.invokestatic 272, 3) := by decide +kernel
theorem d_Model_gloves_4 : decode b_Model_gloves 4 = .ok (.ifCond .eq 21, 3) := by decide +kernel
theorem d_Model_gloves_7 : decode b_Model_gloves 7 = .ok (.aload_n 0, 1) := by decide +kernel
theorem d_Model_gloves_8 : decode b_Model_gloves 8 = .ok (.iload_n 2, 1) := by decide +kernel
theorem d_Model_gloves_9 : decode b_Model_gloves 9 = .ok (.invokevirtual 268, 3) := by decide +kernel
theorem d_Model_gloves_12 : decode b_Model_gloves 12 = .ok (.ifCond .eq 13, 3) := by decide +kernel
theorem d_Model_gloves_15 : decode b_Model_gloves 15 = .ok (.iload_n 3, 1) := by decide +kernel
theorem d_Model_gloves_16 : decode b_Model_gloves 16 = .ok (.i2l, 1) := by decide +kernel
theorem d_Model_gloves_17 : decode b_Model_gloves 17 = .ok (.lconst 0, 1) := by decide +kernel
theorem d_Model_gloves_18 : decode b_Model_gloves 18 = .ok (.lconst 1, 1) := by decide +kernel
theorem d_Model_gloves_19 : decode b_Model_gloves 19 = .ok (.invokestatic 143, 3) := by decide +kernel
theorem d_Model_gloves_22 : decode b_Model_gloves 22 = .ok (.ifCond .ne 5, 3) := by decide +kernel
theorem d_Model_gloves_25 : decode b_Model_gloves 25 = .ok (.iconst (-1), 1) := by decide +kernel
theorem d_Model_gloves_26 : decode b_Model_gloves 26 = .ok (.ireturn, 1) := by decide +kernel
theorem d_Model_gloves_27 : decode b_Model_gloves 27 = .ok (.aload_n 0, 1) := by decide +kernel
theorem d_Model_gloves_28 : decode b_Model_gloves 28 = .ok (.iload_n 2, 1) := by decide +kernel
theorem d_Model_gloves_29 : decode b_Model_gloves 29 = .ok (.iload_n 1, 1) := by decide +kernel
theorem d_Model_gloves_30 : decode b_Model_gloves 30 = .ok (.invokevirtual 278, 3) := by decide +kernel
theorem d_Model_gloves_33 : decode b_Model_gloves 33 = .ok (.ifCond .eq 6, 3) := by decide +kernel
theorem d_Model_gloves_36 : decode b_Model_gloves 36 = .ok (.bipush (-2), 2) := by decide +kernel
theorem d_Model_gloves_38 : decode b_Model_gloves 38 = .ok (.ireturn, 1) := by decide +kernel
theorem d_Model_gloves_39 : decode b_Model_gloves 39 = .ok (.aload_n 0, 1) := by decide +kernel
theorem d_Model_gloves_40 : decode b_Model_gloves 40 = .ok (.invokevirtual 221, 3) := by decide +kernel
theorem d_Model_gloves_43 : decode b_Model_gloves 43 = .ok (.istore 4, 2) := by decide +kernel
theorem d_Model_gloves_45 : decode b_Model_gloves 45 = .ok (.bipush (-4), 2) := by decide +kernel
theorem d_Model_gloves_47 : decode b_Model_gloves 47 = .ok (.istore 5, 2) := by decide +kernel
theorem d_Model_gloves_49 : decode b_Model_gloves 49 = .ok (.iconst 0, 1) := by decide +kernel
theorem d_Model_gloves_50 : decode b_Model_gloves 50 = .ok (.istore 6, 2) := by decide +kernel
theorem d_Model_gloves_52 : decode b_Model_gloves 52 = .ok (.iload 6, 2) := by decide +kernel
theorem d_Model_gloves_54 : decode b_Model_gloves 54 = .ok (.iconst 1, 1) := by decide +kernel
theorem d_Model_gloves_55 : decode b_Model_gloves 55 = .ok (.aload_n 0, 1) := by decide +kernel
theorem d_Model_gloves_56 : decode b_Model_gloves 56 = .ok (.getfield 119, 3) := by decide +kernel
theorem d_Model_gloves_59 : decode b_Model_gloves 59 = .ok (.ishl, 1) := by decide +kernel
theorem d_Model_gloves_60 : decode b_Model_gloves 60 = .ok (.if_icmp .ge 72, 3) := by decide +kernel
theorem d_Model_gloves_63 : decode b_Model_gloves 63 = .ok (.iload 6, 2) := by decide +kernel
theorem d_Model_gloves_65 : decode b_Model_gloves 65 = .ok (.iload 4, 2) := by decide +kernel
theorem d_Model_gloves_67 : decode b_Model_gloves 67 = .ok (.iand, 1) := by decide +kernel
theorem d_Model_gloves_68 : decode b_Model_gloves 68 = .ok (.ifCond .ne 58, 3) := by decide +kernel
theorem d_Model_gloves_71 : decode b_Model_gloves 71 = .ok (.iload 5, 2) := by decide +kernel
theorem d_Model_gloves_73 : decode b_Model_gloves 73 = .ok (.bipush (-4), 2) := by decide +kernel
theorem d_Model_gloves_75 : decode b_Model_gloves 75 = .ok (.if_icmp .eq 16, 3) := by decide +kernel
theorem d_Model_gloves_78 : decode b_Model_gloves 78 = .ok (.iload 6, 2) := by decide +kernel
theorem d_Model_gloves_80 : decode b_Model_gloves 80 = .ok (.invokestatic 224, 3) := by decide +kernel
theorem d_Model_gloves_83 : decode b_Model_gloves 83 = .ok (.iload 5, 2) := by decide +kernel
theorem d_Model_gloves_85 : decode b_Model_gloves 85 = .ok (.invokestatic 224, 3) := by decide +kernel
theorem d_Model_gloves_88 : decode b_Model_gloves 88 = .ok (.if_icmp .ge 38, 3) := by decide +kernel
theorem d_Model_gloves_91 : decode b_Model_gloves 91 = .ok (.aload_n 0, 1) := by decide +kernel
theorem d_Model_gloves_92 : decode b_Model_gloves 92 = .ok (.aload_n 0, 1) := by decide +kernel
theorem d_Model_gloves_93 : decode b_Model_gloves 93 = .ok (.getfield 128, 3) := by decide +kernel
theorem d_Model_gloves_96 : decode b_Model_gloves 96 = .ok (.iload 4, 2) := by decide +kernel
theorem d_Model_gloves_98 : decode b_Model_gloves 98 = .ok (.iload 6, 2) := by decide +kernel
theorem d_Model_gloves_100 : decode b_Model_gloves 100 = .ok (.ior, 1) := by decide +kernel
theorem d_Model_gloves_101 : decode b_Model_gloves 101 = .ok (.invokevirtual 298, 3) := by decide +kernel
theorem d_Model_gloves_104 : decode b_Model_gloves 104 = .ok (.aload_n 0, 1) := by decide +kernel
theorem d_Model_gloves_105 : decode b_Model_gloves 105 = .ok (.iconst 0, 1) := by decide +kernel
theorem d_Model_gloves_106 : decode b_Model_gloves 106 = .ok (.iload_n 2, 1) := by decide +kernel
theorem d_Model_gloves_107 : decode b_Model_gloves 107 = .ok (.invokevirtual 251, 3) := by decide +kernel
theorem d_Model_gloves_110 : decode b_Model_gloves 110 = .ok (.iload_n 1, 1) := by decide +kernel
theorem d_Model_gloves_111 : decode b_Model_gloves 111 = .ok (.ishr, 1) := by decide +kernel
theorem d_Model_gloves_112 : decode b_Model_gloves 112 = .ok (.iconst 1, 1) := by decide +kernel
theorem d_Model_gloves_113 : decode b_Model_gloves 113 = .ok (.iand, 1) := by decide +kernel
theorem d_Model_gloves_114 : decode b_Model_gloves 114 = .ok (.ifCond .ne 8, 3) := by decide +kernel
theorem d_Model_gloves_117 : decode b_Model_gloves 117 = .ok (.iload 6, 2) := by decide +kernel
theorem d_Model_gloves_119 : decode b_Model_gloves 119 = .ok (.goto 5, 3) := by decide +kernel
theorem d_Model_gloves_122 : decode b_Model_gloves 122 = .ok (.iload 5, 2) := by decide +kernel
theorem d_Model_gloves_124 : decode b_Model_gloves 124 = .ok (.istore 5, 2) := by decide +kernel
theorem d_Model_gloves_126 : decode b_Model_gloves 126 = .ok (.iinc 6 1, 3) := by decide +kernel
theorem d_Model_gloves_129 : decode b_Model_gloves 129 = .ok (.goto (-77), 3) := by decide +kernel
theorem d_Model_gloves_132 : decode b_Model_gloves 132 = .ok (.iload 5, 2) := by decide +kernel
theorem d_Model_gloves_134 : decode b_Model_gloves 134 = .ok (.bipush (-4), 2) := by decide +kernel
theorem d_Model_gloves_136 : decode b_Model_gloves 136 = .ok (.if_icmp .ne 8, 3) := by decide +kernel
theorem d_Model_gloves_139 : decode b_Model_gloves 139 = .ok (.bipush (-4), 2) := by decide +kernel
theorem d_Model_gloves_141 : decode b_Model_gloves 141 = .ok (.goto 17, 3) := by decide +kernel
theorem d_Model_gloves_144 : decode b_Model_gloves 144 = .ok (.iload_n 3, 1) := by decide +kernel
theorem d_Model_gloves_145 : decode b_Model_gloves 145 = .ok (.ifCond .ne 11, 3) := by decide +kernel
theorem d_Model_gloves_148 : decode b_Model_gloves 148 = .ok (.iload 5, 2) := by decide +kernel
theorem d_Model_gloves_150 : decode b_Model_gloves 150 = .ok (.invokestatic 224, 3) := by decide +kernel
theorem d_Model_gloves_153 : decode b_Model_gloves 153 = .ok (.goto 5, 3) := by decide +kernel
theorem d_Model_gloves_156 : decode b_Model_gloves 156 = .ok (.iload 5, 2) := by decide +kernel
theorem d_Model_gloves_158 : decode b_Model_gloves 158 = .ok (.ireturn, 1) := by decide +kernel
def X_Model_gloves_L52 (n : Nat) (a1 : Int32) (a2 : Int32) (a3 : Int32) (a4 : Int32) (kx132 : Int32 → Mem → Option (Int32 × Mem)) : Nat → Int32 → Int32 → Mem → Option (Int32 × Mem)
    | 0, _, _, _ => none
    | m + 1, v5, v6, M => (if ((1 : Int32) <<< ((M.1 0 2) &&& 31)) ≤ v6 then
    kx132 v5 M
    else
    nm (fun (z11 : Int32) (M12 : Mem) => (X_Model_gloves_L52 n a1 a2 a3 a4 kx132 m z11 (v6 + 1) M12 : Option (Int32 × Mem))) fun k126 =>
    (if (v6 &&& a4) = 0 then
      nm (fun (M13 : Mem) => (bd (X_Model_feasts n (M13.1 0 5) (a4 ||| v6) M13) fun _ M15 =>
          bd (X_Model_knowsIn n 0 a2 M15) fun r16 M17 =>
          nm (fun (u18 : Int32) => (k126 u18 M17 : Option (Int32 × Mem))) fun k124 =>
          (if ((r16 >>> (a1 &&& 31)) &&& 1) = 0 then
            k124 v6
            else
            k124 v5) : Option (Int32 × Mem))) fun k91 =>
      (if v5 = (-4) then
        k91 M
        else
        bd (X_Model_bitsOf n v6 M) fun r19 M20 =>
        bd (X_Model_bitsOf n v5 M20) fun r21 M22 =>
        (if r21 ≤ r19 then
          k126 v5 M22
          else
          k91 M22))
      else
      k126 v5 M))
def X_Model_gloves (n : Nat) (p1 : Int32) (p2 : Int32) (p3 : Int32) (M : Mem) : Option (Int32 × Mem) :=
  bd (X_Model_isThing n p1 M) fun r1 M2 =>
  (if r1 = 0 then
    some ((-1), M2)
    else
    bd (X_Model_isOne n p2 M2) fun r3 M4 =>
    (if r3 = 0 then
      some ((-1), M4)
      else
      bd (X_Model_in n (p3.toInt64) 0 1 M4) fun r5 M6 =>
      (if r5 = 0 then
        some ((-1), M6)
        else
        bd (X_Model_knowsIt n p2 p1 M6) fun r7 M8 =>
        (if r7 = 0 then
          bd (X_Model_worn n M8) fun r9 M10 =>
          X_Model_gloves_L52 n p1 p2 p3 r9 (fun y23 M24 => (if y23 = (-4) then
              some ((-4), M24)
              else
              (if p3 = 0 then
                bd (X_Model_bitsOf n y23 M24) fun r25 M26 =>
                some (r25, M26)
                else
                some (y23, M24)))) n (-4) 0 M10
          else
          some ((-2), M8)))))
set_option maxRecDepth 20000 in
set_option maxHeartbeats 4000000 in
theorem X_Model_gloves_L52_ok {n : Nat} {a1 : Int32} {a2 : Int32} {a3 : Int32} {a4 : Int32} {kx132 : Int32 → Mem → Option (Int32 × Mem)} (hkx132 : ∀ (w5 : Int32) (M : Mem), J (mt_Model_gloves) wI 132 [(3, Value.int a3), (5, Value.int w5)] [] M (kx132 w5 M)) : ∀ (m : Nat) (v5 : Int32) (v6 : Int32) (M : Mem), J (mt_Model_gloves) wI 52 [(0, Value.ref 0), (1, Value.int a1), (2, Value.int a2), (3, Value.int a3), (4, Value.int a4), (5, Value.int v5), (6, Value.int v6)] [] M (X_Model_gloves_L52 n a1 a2 a3 a4 kx132 m v5 v6 M) := by
  intro m
  induction m with
  | zero => intro _ _ _; exact j_none
  | succ m ih =>
    intro v5 v6 M
    show J _ _ _ _ _ _ ((if ((1 : Int32) <<< ((M.1 0 2) &&& 31)) ≤ v6 then
kx132 v5 M
else
nm (fun (z11 : Int32) (M12 : Mem) => (X_Model_gloves_L52 n a1 a2 a3 a4 kx132 m z11 (v6 + 1) M12 : Option (Int32 × Mem))) fun k126 =>
(if (v6 &&& a4) = 0 then
nm (fun (M13 : Mem) => (bd (X_Model_feasts n (M13.1 0 5) (a4 ||| v6) M13) fun _ M15 =>
bd (X_Model_knowsIn n 0 a2 M15) fun r16 M17 =>
nm (fun (u18 : Int32) => (k126 u18 M17 : Option (Int32 × Mem))) fun k124 =>
(if ((r16 >>> (a1 &&& 31)) &&& 1) = 0 then
k124 v6
else
k124 v5) : Option (Int32 × Mem))) fun k91 =>
(if v5 = (-4) then
k91 M
else
bd (X_Model_bitsOf n v6 M) fun r19 M20 =>
bd (X_Model_bitsOf n v5 M20) fun r21 M22 =>
(if r21 ≤ r19 then
k126 v5 M22
else
k91 M22))
else
k126 v5 M)))
    refine j_iload (pc := 52) (q := 6) d_Model_gloves_52 rfl ?_
    refine j_iconst (pc := 54) d_Model_gloves_54 k_i_1 ?_
    refine j_aload_n (pc := 55) (q := 0) d_Model_gloves_55 rfl rfl ?_
    refine j_getI (pc := 56) d_Model_gloves_56 fl_Model_119 sm_0 (by decide) rfl ?_
    refine j_ishl (pc := 59) d_Model_gloves_59 ?_
    refine j_icmp_ge (pc := 60) (tgt := 132) d_Model_gloves_60 (by decide) (fun _ => ?_) (fun _ => ?_)
    · refine j_lv [3, 5] rfl ?_
      exact hkx132 v5 M
    · refine j_iload (pc := 63) (q := 6) d_Model_gloves_63 rfl ?_
      refine j_iload (pc := 65) (q := 4) d_Model_gloves_65 rfl ?_
      refine j_iand (pc := 67) d_Model_gloves_67 ?_
      refine j_nmk (fun k => ∀ (z11 : Int32) (M12 : Mem), J (mt_Model_gloves) wI 126 [(0, Value.ref 0), (1, Value.int a1), (2, Value.int a2), (3, Value.int a3), (4, Value.int a4), (5, Value.int z11), (6, Value.int v6)] [] M12 (k z11 M12)) (fun z11 M12 => ?_) (fun k126 hk126 => ?_)
      · refine j_iinc (pc := 126) (q := 6) d_Model_gloves_126 rfl (congrArg (v6 + ·) k_i_1) (by decide) rfl ?_
        refine j_goto (pc := 129) (tgt := 52) d_Model_gloves_129 (by decide) ?_
        refine j_lv [1, 2, 3, 4, 5, 6, 0] rfl ?_
        exact ih z11 (v6 + 1) M12
      · refine j_if_ne (pc := 68) (tgt := 126) d_Model_gloves_68 (by decide) (fun _ => ?_) (fun _ => ?_)
        · exact hk126 v5 M
        · refine j_iload (pc := 71) (q := 5) d_Model_gloves_71 rfl ?_
          refine j_bipush (pc := 73) d_Model_gloves_73 k_b_m4 ?_
          refine j_nmk (fun k => ∀ (M13 : Mem), J (mt_Model_gloves) wI 91 [(0, Value.ref 0), (1, Value.int a1), (2, Value.int a2), (3, Value.int a3), (4, Value.int a4), (5, Value.int v5), (6, Value.int v6)] [] M13 (k M13)) (fun M13 => ?_) (fun k91 hk91 => ?_)
          · refine j_aload_n (pc := 91) (q := 0) d_Model_gloves_91 rfl rfl ?_
            refine j_aload_n (pc := 92) (q := 0) d_Model_gloves_92 rfl rfl ?_
            refine j_getI (pc := 93) d_Model_gloves_93 fl_Model_128 sm_0 (by decide) rfl ?_
            refine j_iload (pc := 96) (q := 4) d_Model_gloves_96 rfl ?_
            refine j_iload (pc := 98) (q := 6) d_Model_gloves_98 rfl ?_
            refine j_ior (pc := 100) d_Model_gloves_100 ?_
            refine j_callV2 (pc := 101) d_Model_gloves_101 (C_Model_feasts n (M13.1 0 5) (a4 ||| v6) M13) cV_Model_298 cd_Model_feasts dn_Model_feasts rfl (by decide) (Nat.le_of_ble_eq_true rfl) (Nat.le_of_ble_eq_true rfl) nr_U sm_0 (by decide) rfl (fun r14 M15 => ?_)
            refine j_aload_n (pc := 104) (q := 0) d_Model_gloves_104 rfl rfl ?_
            refine j_iconst (pc := 105) d_Model_gloves_105 k_i_0 ?_
            refine j_iload_n (pc := 106) (q := 2) d_Model_gloves_106 rfl rfl ?_
            refine j_callV2 (pc := 107) d_Model_gloves_107 (C_Model_knowsIn n 0 a2 M15) cV_Model_251 cd_Model_knowsIn dn_Model_knowsIn rfl (by decide) (Nat.le_of_ble_eq_true rfl) (Nat.le_of_ble_eq_true rfl) nr_I sm_0 (by decide) rfl (fun r16 M17 => ?_)
            refine j_iload_n (pc := 110) (q := 1) d_Model_gloves_110 rfl rfl ?_
            refine j_ishr (pc := 111) d_Model_gloves_111 ?_
            refine j_iconst (pc := 112) d_Model_gloves_112 k_i_1 ?_
            refine j_iand (pc := 113) d_Model_gloves_113 ?_
            refine j_nmk (fun k => ∀ (u18 : Int32), J (mt_Model_gloves) wI 124 [(0, Value.ref 0), (1, Value.int a1), (2, Value.int a2), (3, Value.int a3), (4, Value.int a4), (6, Value.int v6)] [Value.int u18] M17 (k u18)) (fun u18 => ?_) (fun k124 hk124 => ?_)
            · refine j_istore (pc := 124) d_Model_gloves_124 (by decide) rfl ?_
              refine j_lv [1, 2, 3, 4, 5, 0, 6] rfl ?_
              exact hk126 u18 M17
            · refine j_if_ne (pc := 114) (tgt := 122) d_Model_gloves_114 (by decide) (fun _ => ?_) (fun _ => ?_)
              · refine j_iload (pc := 122) (q := 5) d_Model_gloves_122 rfl ?_
                refine j_lv [0, 1, 2, 3, 4, 6] rfl ?_
                exact hk124 v5
              · refine j_iload (pc := 117) (q := 6) d_Model_gloves_117 rfl ?_
                refine j_goto (pc := 119) (tgt := 124) d_Model_gloves_119 (by decide) ?_
                refine j_lv [0, 1, 2, 3, 4, 6] rfl ?_
                exact hk124 v6
          · refine j_icmp_eq (pc := 75) (tgt := 91) d_Model_gloves_75 (by decide) (fun _ => ?_) (fun _ => ?_)
            · exact hk91 M
            · refine j_iload (pc := 78) (q := 6) d_Model_gloves_78 rfl ?_
              refine j_callS1 (pc := 80) d_Model_gloves_80 (C_Model_bitsOf n v6 M) cS_Model_224 cd_Model_bitsOf dn_Model_bitsOf rfl (by decide) (Nat.le_of_ble_eq_true rfl) (Nat.le_of_ble_eq_true rfl) nr_I (fun r19 M20 => ?_)
              refine j_iload (pc := 83) (q := 5) d_Model_gloves_83 rfl ?_
              refine j_callS1 (pc := 85) d_Model_gloves_85 (C_Model_bitsOf n v5 M20) cS_Model_224 cd_Model_bitsOf dn_Model_bitsOf rfl (by decide) (Nat.le_of_ble_eq_true rfl) (Nat.le_of_ble_eq_true rfl) nr_I (fun r21 M22 => ?_)
              refine j_icmp_ge (pc := 88) (tgt := 126) d_Model_gloves_88 (by decide) (fun _ => ?_) (fun _ => ?_)
              · exact hk126 v5 M22
              · exact hk91 M22
set_option maxRecDepth 20000 in
set_option maxHeartbeats 4000000 in
theorem C_Model_gloves (n : Nat)   (p1 : Int32) (p2 : Int32) (p3 : Int32) (M : Mem) : Ct y_Model_gloves mt_Model_gloves wI [Value.ref 0, Value.int p1, Value.int p2, Value.int p3] M (X_Model_gloves n p1 p2 p3 M) := by
  refine ct_of (by decide +kernel) rfl (Nat.le_of_ble_eq_true rfl) ?_
  show J _ _ _ [(0, Value.ref 0), (1, Value.int p1), (2, Value.int p2), (3, Value.int p3)] _ _ _
  unfold X_Model_gloves
  refine j_iload_n (pc := 0) (q := 1) d_Model_gloves_0 rfl rfl ?_
  refine j_callS1 (pc := 1) d_Model_gloves_1 (C_Model_isThing n p1 M) cS_Model_272 cd_Model_isThing dn_Model_isThing rfl (by decide) (Nat.le_of_ble_eq_true rfl) (Nat.le_of_ble_eq_true rfl) nr_I (fun r1 M2 => ?_)
  refine j_if_eq (pc := 4) (tgt := 25) d_Model_gloves_4 (by decide) (fun _ => ?_) (fun _ => ?_)
  · refine j_iconst (pc := 25) d_Model_gloves_25 k_i_m1 ?_
    exact j_ireturn (pc := 26) d_Model_gloves_26 rfl
  · refine j_aload_n (pc := 7) (q := 0) d_Model_gloves_7 rfl rfl ?_
    refine j_iload_n (pc := 8) (q := 2) d_Model_gloves_8 rfl rfl ?_
    refine j_callV1 (pc := 9) d_Model_gloves_9 (C_Model_isOne n p2 M2) cV_Model_268 cd_Model_isOne dn_Model_isOne rfl (by decide) (Nat.le_of_ble_eq_true rfl) (Nat.le_of_ble_eq_true rfl) nr_I sm_0 (by decide) rfl (fun r3 M4 => ?_)
    refine j_if_eq (pc := 12) (tgt := 25) d_Model_gloves_12 (by decide) (fun _ => ?_) (fun _ => ?_)
    · refine j_iconst (pc := 25) d_Model_gloves_25 k_i_m1 ?_
      exact j_ireturn (pc := 26) d_Model_gloves_26 rfl
    · refine j_iload_n (pc := 15) (q := 3) d_Model_gloves_15 rfl rfl ?_
      refine j_i2l (pc := 16) d_Model_gloves_16 ?_
      refine j_lconst (pc := 17) d_Model_gloves_17 k_l_0 ?_
      refine j_lconst (pc := 18) d_Model_gloves_18 k_l_1 ?_
      refine j_callS3 (pc := 19) d_Model_gloves_19 (C_Model_in n (p3.toInt64) 0 1 M4) cS_Model_143 cd_Model_in dn_Model_in rfl (by decide) (Nat.le_of_ble_eq_true rfl) (Nat.le_of_ble_eq_true rfl) nr_I (fun r5 M6 => ?_)
      refine j_if_ne (pc := 22) (tgt := 27) d_Model_gloves_22 (by decide) (fun _ => ?_) (fun _ => ?_)
      · refine j_aload_n (pc := 27) (q := 0) d_Model_gloves_27 rfl rfl ?_
        refine j_iload_n (pc := 28) (q := 2) d_Model_gloves_28 rfl rfl ?_
        refine j_iload_n (pc := 29) (q := 1) d_Model_gloves_29 rfl rfl ?_
        refine j_callV2 (pc := 30) d_Model_gloves_30 (C_Model_knowsIt n p2 p1 M6) cV_Model_278 cd_Model_knowsIt dn_Model_knowsIt rfl (by decide) (Nat.le_of_ble_eq_true rfl) (Nat.le_of_ble_eq_true rfl) nr_I sm_0 (by decide) rfl (fun r7 M8 => ?_)
        refine j_if_eq (pc := 33) (tgt := 39) d_Model_gloves_33 (by decide) (fun _ => ?_) (fun _ => ?_)
        · refine j_aload_n (pc := 39) (q := 0) d_Model_gloves_39 rfl rfl ?_
          refine j_callV0 (pc := 40) d_Model_gloves_40 (C_Model_worn n M8) cV_Model_221 cd_Model_worn dn_Model_worn rfl (by decide) (Nat.le_of_ble_eq_true rfl) (Nat.le_of_ble_eq_true rfl) nr_I sm_0 (by decide) rfl (fun r9 M10 => ?_)
          refine j_istore (pc := 43) d_Model_gloves_43 (by decide) rfl ?_
          refine j_bipush (pc := 45) d_Model_gloves_45 k_b_m4 ?_
          refine j_istore (pc := 47) d_Model_gloves_47 (by decide) rfl ?_
          refine j_iconst (pc := 49) d_Model_gloves_49 k_i_0 ?_
          refine j_istore (pc := 50) d_Model_gloves_50 (by decide) rfl ?_
          refine j_lv [3, 4, 5, 6, 2, 1, 0] rfl ?_
          refine X_Model_gloves_L52_ok  (fun y23 M24 => ?_) n (-4) 0 M10
          refine j_iload (pc := 132) (q := 1) d_Model_gloves_132 rfl ?_
          refine j_bipush (pc := 134) d_Model_gloves_134 k_b_m4 ?_
          refine j_icmp_ne (pc := 136) (tgt := 144) d_Model_gloves_136 (by decide) (fun _ => ?_) (fun _ => ?_)
          · refine j_iload_n (pc := 144) (q := 0) d_Model_gloves_144 rfl rfl ?_
            refine j_if_ne (pc := 145) (tgt := 156) d_Model_gloves_145 (by decide) (fun _ => ?_) (fun _ => ?_)
            · refine j_iload (pc := 156) (q := 1) d_Model_gloves_156 rfl ?_
              exact j_ireturn (pc := 158) d_Model_gloves_158 rfl
            · refine j_iload (pc := 148) (q := 1) d_Model_gloves_148 rfl ?_
              refine j_callS1 (pc := 150) d_Model_gloves_150 (C_Model_bitsOf n y23 M24) cS_Model_224 cd_Model_bitsOf dn_Model_bitsOf rfl (by decide) (Nat.le_of_ble_eq_true rfl) (Nat.le_of_ble_eq_true rfl) nr_I (fun r25 M26 => ?_)
              refine j_goto (pc := 153) (tgt := 158) d_Model_gloves_153 (by decide) ?_
              exact j_ireturn (pc := 158) d_Model_gloves_158 rfl
          · refine j_bipush (pc := 139) d_Model_gloves_139 k_b_m4 ?_
            refine j_goto (pc := 141) (tgt := 158) d_Model_gloves_141 (by decide) ?_
            exact j_ireturn (pc := 158) d_Model_gloves_158 rfl
        · refine j_bipush (pc := 36) d_Model_gloves_36 k_b_m2 ?_
          exact j_ireturn (pc := 38) d_Model_gloves_38 rfl
      · refine j_iconst (pc := 25) d_Model_gloves_25 k_i_m1 ?_
        exact j_ireturn (pc := 26) d_Model_gloves_26 rfl
-- Model.keep (I)I
def mt_Model_keep : Mt := ("ShakeHandsModel", b_Model_keep, 4, some .int, 3, SHm)
theorem d_Model_keep_0 : decode b_Model_keep 0 = .ok (.iload_n 1, 1) := by decide +kernel
theorem d_Model_keep_1 : decode b_Model_keep 1 = .ok (.i2l, 1) := by decide +kernel
theorem d_Model_keep_2 : decode b_Model_keep 2 = .ok (.lconst 0, 1) := by decide +kernel
theorem d_Model_keep_3 : decode b_Model_keep 3 = .ok (.lconst 1, 1) := by decide +kernel
theorem d_Model_keep_4 : decode b_Model_keep 4 = .ok (.invokestatic 143, 3) := by decide +kernel
theorem d_Model_keep_7 : decode b_Model_keep 7 = .ok (.ifCond .ne 5, 3) := by decide +kernel
theorem d_Model_keep_10 : decode b_Model_keep 10 = .ok (.iconst (-1), 1) := by decide +kernel
theorem d_Model_keep_11 : decode b_Model_keep 11 = .ok (.ireturn, 1) := by decide +kernel
theorem d_Model_keep_12 : decode b_Model_keep 12 = .ok (.aload_n 0, 1) := by decide +kernel
theorem d_Model_keep_13 : decode b_Model_keep 13 = .ok (.getfield 13, 3) := by decide +kernel
theorem d_Model_keep_16 : decode b_Model_keep 16 = .ok (.iload_n 1, 1) := by decide +kernel
theorem d_Model_keep_17 : decode b_Model_keep 17 = .ok (.baload, 1) := by decide +kernel
theorem d_Model_keep_18 : decode b_Model_keep 18 = .ok (.invokestatic 134, 3) := by decide +kernel
theorem d_Model_keep_21 : decode b_Model_keep 21 = .ok (.istore_n 2, 1) := by decide +kernel
theorem d_Model_keep_22 : decode b_Model_keep 22 = .ok (.aload_n 0, 1) := by decide +kernel
theorem d_Model_keep_23 : decode b_Model_keep 23 = .ok (.getfield 13, 3) := by decide +kernel
theorem d_Model_keep_26 : decode b_Model_keep 26 = .ok (.iload_n 1, 1) := by decide +kernel
theorem d_Model_keep_27 : decode b_Model_keep 27 = .ok (.iconst 1, 1) := by decide +kernel
theorem d_Model_keep_28 : decode b_Model_keep 28 = .ok (.bastore, 1) := by decide +kernel
theorem d_Model_keep_29 : decode b_Model_keep 29 = .ok (.iconst 0, 1) := by decide +kernel
theorem d_Model_keep_30 : decode b_Model_keep 30 = .ok (.istore_n 3, 1) := by decide +kernel
theorem d_Model_keep_31 : decode b_Model_keep 31 = .ok (.iload_n 3, 1) := by decide +kernel
theorem d_Model_keep_32 : decode b_Model_keep 32 = .ok (.bipush 78, 2) := by decide +kernel
theorem d_Model_keep_34 : decode b_Model_keep 34 = .ok (.if_icmp .ge 28, 3) := by decide +kernel
theorem d_Model_keep_37 : decode b_Model_keep 37 = .ok (.aload_n 0, 1) := by decide +kernel
theorem d_Model_keep_38 : decode b_Model_keep 38 = .ok (.getfield 7, 3) := by decide +kernel
theorem d_Model_keep_41 : decode b_Model_keep 41 = .ok (.bipush 78, 2) := by decide +kernel
theorem d_Model_keep_43 : decode b_Model_keep 43 = .ok (.iload_n 1, 1) := by decide +kernel
theorem d_Model_keep_44 : decode b_Model_keep 44 = .ok (.iconst 1, 1) := by decide +kernel
theorem d_Model_keep_45 : decode b_Model_keep 45 = .ok (.iadd, 1) := by decide +kernel
theorem d_Model_keep_46 : decode b_Model_keep 46 = .ok (.imul, 1) := by decide +kernel
theorem d_Model_keep_47 : decode b_Model_keep 47 = .ok (.iload_n 3, 1) := by decide +kernel
theorem d_Model_keep_48 : decode b_Model_keep 48 = .ok (.iadd, 1) := by decide +kernel
theorem d_Model_keep_49 : decode b_Model_keep 49 = .ok (.aload_n 0, 1) := by decide +kernel
theorem d_Model_keep_50 : decode b_Model_keep 50 = .ok (.getfield 7, 3) := by decide +kernel
theorem d_Model_keep_53 : decode b_Model_keep 53 = .ok (.iload_n 3, 1) := by decide +kernel
theorem d_Model_keep_54 : decode b_Model_keep 54 = .ok (.iaload, 1) := by decide +kernel
theorem d_Model_keep_55 : decode b_Model_keep 55 = .ok (.iastore, 1) := by decide +kernel
theorem d_Model_keep_56 : decode b_Model_keep 56 = .ok (.iinc 3 1, 3) := by decide +kernel
theorem d_Model_keep_59 : decode b_Model_keep 59 = .ok (.goto (-28), 3) := by decide +kernel
theorem d_Model_keep_62 : decode b_Model_keep 62 = .ok (.iload_n 2, 1) := by decide +kernel
theorem d_Model_keep_63 : decode b_Model_keep 63 = .ok (.ireturn, 1) := by decide +kernel
def X_Model_keep_L31 (n : Nat) (a1 : Int32) (a2 : Int32) : Nat → Int32 → Mem → Option (Int32 × Mem)
    | 0, _, _ => none
    | m + 1, v3, M => (if 78 ≤ v3 then
    some (a2, M)
    else
    gd v3 234 (
      gd (((78 : Int32) * (a1 + 1)) + v3) 234 (
        X_Model_keep_L31 n a1 a2 m (v3 + 1) (si M 1 ((((78 : Int32) * (a1 + 1)) + v3).toNatClampNeg) (M.1 1 v3.toNatClampNeg)))))
def X_Model_keep (n : Nat) (p1 : Int32) (M : Mem) : Option (Int32 × Mem) :=
  bd (X_Model_in n (p1.toInt64) 0 1 M) fun r1 M2 =>
  (if r1 = 0 then
    some ((-1), M2)
    else
    gd p1 2 (
      bd (X_Model_flag n (M2.1 2 p1.toNatClampNeg) M2) fun r3 M4 =>
      gd p1 2 (
        X_Model_keep_L31 n p1 r3 n 0 (si M4 2 (p1.toNatClampNeg) (vp_nar .boolean 1)))))
set_option maxRecDepth 20000 in
set_option maxHeartbeats 4000000 in
theorem X_Model_keep_L31_ok {n : Nat} {a1 : Int32} {a2 : Int32} : ∀ (m : Nat) (v3 : Int32) (M : Mem), J (mt_Model_keep) wI 31 [(0, Value.ref 0), (1, Value.int a1), (2, Value.int a2), (3, Value.int v3)] [] M (X_Model_keep_L31 n a1 a2 m v3 M) := by
  intro m
  induction m with
  | zero => intro _ _; exact j_none
  | succ m ih =>
    intro v3 M
    show J _ _ _ _ _ _ ((if 78 ≤ v3 then
some (a2, M)
else
gd v3 234 (
gd (((78 : Int32) * (a1 + 1)) + v3) 234 (
X_Model_keep_L31 n a1 a2 m (v3 + 1) (si M 1 ((((78 : Int32) * (a1 + 1)) + v3).toNatClampNeg) (M.1 1 v3.toNatClampNeg))))))
    refine j_iload_n (pc := 31) (q := 3) d_Model_keep_31 rfl rfl ?_
    refine j_bipush (pc := 32) d_Model_keep_32 k_b_78 ?_
    refine j_icmp_ge (pc := 34) (tgt := 62) d_Model_keep_34 (by decide) (fun _ => ?_) (fun _ => ?_)
    · refine j_iload_n (pc := 62) (q := 2) d_Model_keep_62 rfl rfl ?_
      exact j_ireturn (pc := 63) d_Model_keep_63 rfl
    · refine j_aload_n (pc := 37) (q := 0) d_Model_keep_37 rfl rfl ?_
      refine j_getA (pc := 38) d_Model_keep_38 fl_Model_7 sm_0 (by decide) rfl ?_
      refine j_bipush (pc := 41) d_Model_keep_41 k_b_78 ?_
      refine j_iload_n (pc := 43) (q := 1) d_Model_keep_43 rfl rfl ?_
      refine j_iconst (pc := 44) d_Model_keep_44 k_i_1 ?_
      refine j_iadd (pc := 45) d_Model_keep_45 ?_
      refine j_imul (pc := 46) d_Model_keep_46 ?_
      refine j_iload_n (pc := 47) (q := 3) d_Model_keep_47 rfl rfl ?_
      refine j_iadd (pc := 48) d_Model_keep_48 ?_
      refine j_aload_n (pc := 49) (q := 0) d_Model_keep_49 rfl rfl ?_
      refine j_getA (pc := 50) d_Model_keep_50 fl_Model_7 sm_0 (by decide) rfl ?_
      refine j_iload_n (pc := 53) (q := 3) d_Model_keep_53 rfl rfl ?_
      refine j_iald (pc := 54) d_Model_keep_54 sm_1 (fun _ => ?_)
      refine j_iast (pc := 55) d_Model_keep_55 sm_1 (fun _ => ?_)
      refine j_iinc (pc := 56) (q := 3) d_Model_keep_56 rfl (congrArg (v3 + ·) k_i_1) (by decide) rfl ?_
      refine j_goto (pc := 59) (tgt := 31) d_Model_keep_59 (by decide) ?_
      refine j_lv [1, 2, 3, 0] rfl ?_
      exact ih (v3 + 1) (si M 1 ((((78 : Int32) * (a1 + 1)) + v3).toNatClampNeg) (M.1 1 v3.toNatClampNeg))
set_option maxRecDepth 20000 in
set_option maxHeartbeats 4000000 in
theorem C_Model_keep (n : Nat)   (p1 : Int32) (M : Mem) : Ct y_Model_keep mt_Model_keep wI [Value.ref 0, Value.int p1] M (X_Model_keep n p1 M) := by
  refine ct_of (by decide +kernel) rfl (Nat.le_of_ble_eq_true rfl) ?_
  show J _ _ _ [(0, Value.ref 0), (1, Value.int p1)] _ _ _
  unfold X_Model_keep
  refine j_iload_n (pc := 0) (q := 1) d_Model_keep_0 rfl rfl ?_
  refine j_i2l (pc := 1) d_Model_keep_1 ?_
  refine j_lconst (pc := 2) d_Model_keep_2 k_l_0 ?_
  refine j_lconst (pc := 3) d_Model_keep_3 k_l_1 ?_
  refine j_callS3 (pc := 4) d_Model_keep_4 (C_Model_in n (p1.toInt64) 0 1 M) cS_Model_143 cd_Model_in dn_Model_in rfl (by decide) (Nat.le_of_ble_eq_true rfl) (Nat.le_of_ble_eq_true rfl) nr_I (fun r1 M2 => ?_)
  refine j_if_ne (pc := 7) (tgt := 12) d_Model_keep_7 (by decide) (fun _ => ?_) (fun _ => ?_)
  · refine j_aload_n (pc := 12) (q := 0) d_Model_keep_12 rfl rfl ?_
    refine j_getA (pc := 13) d_Model_keep_13 fl_Model_13 sm_0 (by decide) rfl ?_
    refine j_iload_n (pc := 16) (q := 1) d_Model_keep_16 rfl rfl ?_
    refine j_zald (pc := 17) d_Model_keep_17 sm_2 (fun _ => ?_)
    refine j_callS1 (pc := 18) d_Model_keep_18 (C_Model_flag n (M2.1 2 p1.toNatClampNeg) M2) cS_Model_134 cd_Model_flag dn_Model_flag rfl (by decide) (Nat.le_of_ble_eq_true rfl) (Nat.le_of_ble_eq_true rfl) nr_I (fun r3 M4 => ?_)
    refine j_istore_n (pc := 21) d_Model_keep_21 rfl (by decide) rfl ?_
    refine j_aload_n (pc := 22) (q := 1) d_Model_keep_22 rfl rfl ?_
    refine j_getA (pc := 23) d_Model_keep_23 fl_Model_13 sm_0 (by decide) rfl ?_
    refine j_iload_n (pc := 26) (q := 2) d_Model_keep_26 rfl rfl ?_
    refine j_iconst (pc := 27) d_Model_keep_27 k_i_1 ?_
    refine j_zast (pc := 28) d_Model_keep_28 sm_2 (fun _ => ?_)
    refine j_iconst (pc := 29) d_Model_keep_29 k_i_0 ?_
    refine j_istore_n (pc := 30) d_Model_keep_30 rfl (by decide) rfl ?_
    refine j_lv [2, 3, 1, 0] rfl ?_
    exact X_Model_keep_L31_ok   n 0 (si M4 2 (p1.toNatClampNeg) (vp_nar .boolean 1))
  · refine j_iconst (pc := 10) d_Model_keep_10 k_i_m1 ?_
    exact j_ireturn (pc := 11) d_Model_keep_11 rfl
-- Model.back (I)I
def mt_Model_back : Mt := ("ShakeHandsModel", b_Model_back, 3, some .int, 5, SHm)
theorem d_Model_back_0 : decode b_Model_back 0 = .ok (.iload_n 1, 1) := by decide +kernel
theorem d_Model_back_1 : decode b_Model_back 1 = .ok (.i2l, 1) := by decide +kernel
theorem d_Model_back_2 : decode b_Model_back 2 = .ok (.lconst 0, 1) := by decide +kernel
theorem d_Model_back_3 : decode b_Model_back 3 = .ok (.lconst 1, 1) := by decide +kernel
theorem d_Model_back_4 : decode b_Model_back 4 = .ok (.invokestatic 143, 3) := by decide +kernel
theorem d_Model_back_7 : decode b_Model_back 7 = .ok (.ifCond .ne 5, 3) := by decide +kernel
theorem d_Model_back_10 : decode b_Model_back 10 = .ok (.iconst (-1), 1) := by decide +kernel
theorem d_Model_back_11 : decode b_Model_back 11 = .ok (.ireturn, 1) := by decide +kernel
theorem d_Model_back_12 : decode b_Model_back 12 = .ok (.aload_n 0, 1) := by decide +kernel
theorem d_Model_back_13 : decode b_Model_back 13 = .ok (.getfield 13, 3) := by decide +kernel
theorem d_Model_back_16 : decode b_Model_back 16 = .ok (.iload_n 1, 1) := by decide +kernel
theorem d_Model_back_17 : decode b_Model_back 17 = .ok (.baload, 1) := by decide +kernel
theorem d_Model_back_18 : decode b_Model_back 18 = .ok (.ifCond .ne 6, 3) := by decide +kernel
theorem d_Model_back_21 : decode b_Model_back 21 = .ok (.bipush (-2), 2) := by decide +kernel
theorem d_Model_back_23 : decode b_Model_back 23 = .ok (.ireturn, 1) := by decide +kernel
theorem d_Model_back_24 : decode b_Model_back 24 = .ok (.iconst 0, 1) := by decide +kernel
theorem d_Model_back_25 : decode b_Model_back 25 = .ok (.istore_n 2, 1) := by decide +kernel
theorem d_Model_back_26 : decode b_Model_back 26 = .ok (.iload_n 2, 1) := by decide +kernel
theorem d_Model_back_27 : decode b_Model_back 27 = .ok (.bipush 78, 2) := by decide +kernel
theorem d_Model_back_29 : decode b_Model_back 29 = .ok (.if_icmp .ge 28, 3) := by decide +kernel
theorem d_Model_back_32 : decode b_Model_back 32 = .ok (.aload_n 0, 1) := by decide +kernel
theorem d_Model_back_33 : decode b_Model_back 33 = .ok (.getfield 7, 3) := by decide +kernel
theorem d_Model_back_36 : decode b_Model_back 36 = .ok (.iload_n 2, 1) := by decide +kernel
theorem d_Model_back_37 : decode b_Model_back 37 = .ok (.aload_n 0, 1) := by decide +kernel
theorem d_Model_back_38 : decode b_Model_back 38 = .ok (.getfield 7, 3) := by decide +kernel
theorem d_Model_back_41 : decode b_Model_back 41 = .ok (.bipush 78, 2) := by decide +kernel
theorem d_Model_back_43 : decode b_Model_back 43 = .ok (.iload_n 1, 1) := by decide +kernel
theorem d_Model_back_44 : decode b_Model_back 44 = .ok (.iconst 1, 1) := by decide +kernel
theorem d_Model_back_45 : decode b_Model_back 45 = .ok (.iadd, 1) := by decide +kernel
theorem d_Model_back_46 : decode b_Model_back 46 = .ok (.imul, 1) := by decide +kernel
theorem d_Model_back_47 : decode b_Model_back 47 = .ok (.iload_n 2, 1) := by decide +kernel
theorem d_Model_back_48 : decode b_Model_back 48 = .ok (.iadd, 1) := by decide +kernel
theorem d_Model_back_49 : decode b_Model_back 49 = .ok (.iaload, 1) := by decide +kernel
theorem d_Model_back_50 : decode b_Model_back 50 = .ok (.iastore, 1) := by decide +kernel
theorem d_Model_back_51 : decode b_Model_back 51 = .ok (.iinc 2 1, 3) := by decide +kernel
theorem d_Model_back_54 : decode b_Model_back 54 = .ok (.goto (-28), 3) := by decide +kernel
theorem d_Model_back_57 : decode b_Model_back 57 = .ok (.aload_n 0, 1) := by decide +kernel
theorem d_Model_back_58 : decode b_Model_back 58 = .ok (.invokevirtual 295, 3) := by decide +kernel
theorem d_Model_back_61 : decode b_Model_back 61 = .ok (.ireturn, 1) := by decide +kernel
def X_Model_back_L26 (n : Nat) (a1 : Int32) (kx57 : Mem → Option (Int32 × Mem)) : Nat → Int32 → Mem → Option (Int32 × Mem)
    | 0, _, _ => none
    | m + 1, v2, M => (if 78 ≤ v2 then
    kx57 M
    else
    gd (((78 : Int32) * (a1 + 1)) + v2) 234 (
      gd v2 234 (
        X_Model_back_L26 n a1 kx57 m (v2 + 1) (si M 1 (v2.toNatClampNeg) (M.1 1 (((78 : Int32) * (a1 + 1)) + v2).toNatClampNeg)))))
def X_Model_back (n : Nat) (p1 : Int32) (M : Mem) : Option (Int32 × Mem) :=
  bd (X_Model_in n (p1.toInt64) 0 1 M) fun r1 M2 =>
  (if r1 = 0 then
    some ((-1), M2)
    else
    gd p1 2 (
      (if (M2.1 2 p1.toNatClampNeg) = 0 then
        some ((-2), M2)
        else
        X_Model_back_L26 n p1 (fun M3 => bd (X_Model_anyNow n M3) fun r4 M5 =>
          some (r4, M5)) n 0 M2)))
set_option maxRecDepth 20000 in
set_option maxHeartbeats 4000000 in
theorem X_Model_back_L26_ok {n : Nat} {a1 : Int32} {kx57 : Mem → Option (Int32 × Mem)} (hkx57 : ∀ (M : Mem), J (mt_Model_back) wI 57 [(0, Value.ref 0)] [] M (kx57 M)) : ∀ (m : Nat) (v2 : Int32) (M : Mem), J (mt_Model_back) wI 26 [(0, Value.ref 0), (1, Value.int a1), (2, Value.int v2)] [] M (X_Model_back_L26 n a1 kx57 m v2 M) := by
  intro m
  induction m with
  | zero => intro _ _; exact j_none
  | succ m ih =>
    intro v2 M
    show J _ _ _ _ _ _ ((if 78 ≤ v2 then
kx57 M
else
gd (((78 : Int32) * (a1 + 1)) + v2) 234 (
gd v2 234 (
X_Model_back_L26 n a1 kx57 m (v2 + 1) (si M 1 (v2.toNatClampNeg) (M.1 1 (((78 : Int32) * (a1 + 1)) + v2).toNatClampNeg))))))
    refine j_iload_n (pc := 26) (q := 2) d_Model_back_26 rfl rfl ?_
    refine j_bipush (pc := 27) d_Model_back_27 k_b_78 ?_
    refine j_icmp_ge (pc := 29) (tgt := 57) d_Model_back_29 (by decide) (fun _ => ?_) (fun _ => ?_)
    · refine j_lv [0] rfl ?_
      exact hkx57 M
    · refine j_aload_n (pc := 32) (q := 0) d_Model_back_32 rfl rfl ?_
      refine j_getA (pc := 33) d_Model_back_33 fl_Model_7 sm_0 (by decide) rfl ?_
      refine j_iload_n (pc := 36) (q := 2) d_Model_back_36 rfl rfl ?_
      refine j_aload_n (pc := 37) (q := 0) d_Model_back_37 rfl rfl ?_
      refine j_getA (pc := 38) d_Model_back_38 fl_Model_7 sm_0 (by decide) rfl ?_
      refine j_bipush (pc := 41) d_Model_back_41 k_b_78 ?_
      refine j_iload_n (pc := 43) (q := 1) d_Model_back_43 rfl rfl ?_
      refine j_iconst (pc := 44) d_Model_back_44 k_i_1 ?_
      refine j_iadd (pc := 45) d_Model_back_45 ?_
      refine j_imul (pc := 46) d_Model_back_46 ?_
      refine j_iload_n (pc := 47) (q := 2) d_Model_back_47 rfl rfl ?_
      refine j_iadd (pc := 48) d_Model_back_48 ?_
      refine j_iald (pc := 49) d_Model_back_49 sm_1 (fun _ => ?_)
      refine j_iast (pc := 50) d_Model_back_50 sm_1 (fun _ => ?_)
      refine j_iinc (pc := 51) (q := 2) d_Model_back_51 rfl (congrArg (v2 + ·) k_i_1) (by decide) rfl ?_
      refine j_goto (pc := 54) (tgt := 26) d_Model_back_54 (by decide) ?_
      refine j_lv [1, 2, 0] rfl ?_
      exact ih (v2 + 1) (si M 1 (v2.toNatClampNeg) (M.1 1 (((78 : Int32) * (a1 + 1)) + v2).toNatClampNeg))
set_option maxRecDepth 20000 in
set_option maxHeartbeats 4000000 in
theorem C_Model_back (n : Nat)   (p1 : Int32) (M : Mem) : Ct y_Model_back mt_Model_back wI [Value.ref 0, Value.int p1] M (X_Model_back n p1 M) := by
  refine ct_of (by decide +kernel) rfl (Nat.le_of_ble_eq_true rfl) ?_
  show J _ _ _ [(0, Value.ref 0), (1, Value.int p1)] _ _ _
  unfold X_Model_back
  refine j_iload_n (pc := 0) (q := 1) d_Model_back_0 rfl rfl ?_
  refine j_i2l (pc := 1) d_Model_back_1 ?_
  refine j_lconst (pc := 2) d_Model_back_2 k_l_0 ?_
  refine j_lconst (pc := 3) d_Model_back_3 k_l_1 ?_
  refine j_callS3 (pc := 4) d_Model_back_4 (C_Model_in n (p1.toInt64) 0 1 M) cS_Model_143 cd_Model_in dn_Model_in rfl (by decide) (Nat.le_of_ble_eq_true rfl) (Nat.le_of_ble_eq_true rfl) nr_I (fun r1 M2 => ?_)
  refine j_if_ne (pc := 7) (tgt := 12) d_Model_back_7 (by decide) (fun _ => ?_) (fun _ => ?_)
  · refine j_aload_n (pc := 12) (q := 0) d_Model_back_12 rfl rfl ?_
    refine j_getA (pc := 13) d_Model_back_13 fl_Model_13 sm_0 (by decide) rfl ?_
    refine j_iload_n (pc := 16) (q := 1) d_Model_back_16 rfl rfl ?_
    refine j_zald (pc := 17) d_Model_back_17 sm_2 (fun _ => ?_)
    refine j_if_ne (pc := 18) (tgt := 24) d_Model_back_18 (by decide) (fun _ => ?_) (fun _ => ?_)
    · refine j_iconst (pc := 24) d_Model_back_24 k_i_0 ?_
      refine j_istore_n (pc := 25) d_Model_back_25 rfl (by decide) rfl ?_
      refine j_lv [1, 2, 0] rfl ?_
      refine X_Model_back_L26_ok  (fun M3 => ?_) n 0 M2
      refine j_aload_n (pc := 57) (q := 0) d_Model_back_57 rfl rfl ?_
      refine j_callV0 (pc := 58) d_Model_back_58 (C_Model_anyNow n M3) cV_Model_295 cd_Model_anyNow dn_Model_anyNow rfl (by decide) (Nat.le_of_ble_eq_true rfl) (Nat.le_of_ble_eq_true rfl) nr_I sm_0 (by decide) rfl (fun r4 M5 => ?_)
      exact j_ireturn (pc := 61) d_Model_back_61 rfl
    · refine j_bipush (pc := 21) d_Model_back_21 k_b_m2 ?_
      exact j_ireturn (pc := 23) d_Model_back_23 rfl
  · refine j_iconst (pc := 10) d_Model_back_10 k_i_m1 ?_
    exact j_ireturn (pc := 11) d_Model_back_11 rfl
-- Model.isSheet (II)Z
def mt_Model_isSheet : Mt := ("ShakeHandsModel", b_Model_isSheet, 2, some .boolean, 3, SHm)
theorem d_Model_isSheet_0 : decode b_Model_isSheet 0 = .ok (.iload_n 0, 1) := by decide +kernel
theorem d_Model_isSheet_1 : decode b_Model_isSheet 1 = .ok (.i2l, 1) := by decide +kernel
theorem d_Model_isSheet_2 : decode b_Model_isSheet 2 = .ok (.lconst 0, 1) := by decide +kernel
theorem d_Model_isSheet_3 : decode b_Model_isSheet 3 = .ok (.ldc2_w 401, 3) := by decide +kernel
theorem d_Model_isSheet_6 : decode b_Model_isSheet 6 = .ok (.invokestatic 143, 3) := by decide +kernel
theorem d_Model_isSheet_9 : decode b_Model_isSheet 9 = .ok (.ifCond .eq 19, 3) := by decide +kernel
theorem d_Model_isSheet_12 : decode b_Model_isSheet 12 = .ok (.iload_n 1, 1) := by decide +kernel
theorem d_Model_isSheet_13 : decode b_Model_isSheet 13 = .ok (.i2l, 1) := by decide +kernel
theorem d_Model_isSheet_14 : decode b_Model_isSheet 14 = .ok (.lconst 0, 1) := by decide +kernel
theorem d_Model_isSheet_15 : decode b_Model_isSheet 15 = .ok (.ldc2_w 227, 3) := by decide +kernel
theorem d_Model_isSheet_18 : decode b_Model_isSheet 18 = .ok (.invokestatic 143, 3) := by decide +kernel
theorem d_Model_isSheet_21 : decode b_Model_isSheet 21 = .ok (.ifCond .eq 7, 3) := by decide +kernel
theorem d_Model_isSheet_24 : decode b_Model_isSheet 24 = .ok (.iconst 1, 1) := by decide +kernel
theorem d_Model_isSheet_25 : decode b_Model_isSheet 25 = .ok (.goto 4, 3) := by decide +kernel
theorem d_Model_isSheet_28 : decode b_Model_isSheet 28 = .ok (.iconst 0, 1) := by decide +kernel
theorem d_Model_isSheet_29 : decode b_Model_isSheet 29 = .ok (.ireturn, 1) := by decide +kernel
def X_Model_isSheet (n : Nat) (p0 : Int32) (p1 : Int32) (M : Mem) : Option (Int32 × Mem) :=
  bd (X_Model_in n (p0.toInt64) 0 3 M) fun r1 M2 =>
  (if r1 = 0 then
    some (0, M2)
    else
    bd (X_Model_in n (p1.toInt64) 0 2 M2) fun r3 M4 =>
    (if r3 = 0 then
      some (0, M4)
      else
      some (1, M4)))
set_option maxRecDepth 20000 in
set_option maxHeartbeats 4000000 in
theorem C_Model_isSheet (n : Nat)   (p0 : Int32) (p1 : Int32) (M : Mem) : Ct y_Model_isSheet mt_Model_isSheet wI [Value.int p0, Value.int p1] M (X_Model_isSheet n p0 p1 M) := by
  refine ct_of (by decide +kernel) rfl (Nat.le_of_ble_eq_true rfl) ?_
  show J _ _ _ [(0, Value.int p0), (1, Value.int p1)] _ _ _
  unfold X_Model_isSheet
  refine j_iload_n (pc := 0) (q := 0) d_Model_isSheet_0 rfl rfl ?_
  refine j_i2l (pc := 1) d_Model_isSheet_1 ?_
  refine j_lconst (pc := 2) d_Model_isSheet_2 k_l_0 ?_
  refine j_ldc2 (pc := 3) d_Model_isSheet_3 cl_Model_401 ?_
  refine j_callS3 (pc := 6) d_Model_isSheet_6 (C_Model_in n (p0.toInt64) 0 3 M) cS_Model_143 cd_Model_in dn_Model_in rfl (by decide) (Nat.le_of_ble_eq_true rfl) (Nat.le_of_ble_eq_true rfl) nr_I (fun r1 M2 => ?_)
  refine j_if_eq (pc := 9) (tgt := 28) d_Model_isSheet_9 (by decide) (fun _ => ?_) (fun _ => ?_)
  · refine j_iconst (pc := 28) d_Model_isSheet_28 k_i_0 ?_
    exact j_zreturn (pc := 29) d_Model_isSheet_29 rfl rfl
  · refine j_iload_n (pc := 12) (q := 1) d_Model_isSheet_12 rfl rfl ?_
    refine j_i2l (pc := 13) d_Model_isSheet_13 ?_
    refine j_lconst (pc := 14) d_Model_isSheet_14 k_l_0 ?_
    refine j_ldc2 (pc := 15) d_Model_isSheet_15 cl_Model_227 ?_
    refine j_callS3 (pc := 18) d_Model_isSheet_18 (C_Model_in n (p1.toInt64) 0 2 M2) cS_Model_143 cd_Model_in dn_Model_in rfl (by decide) (Nat.le_of_ble_eq_true rfl) (Nat.le_of_ble_eq_true rfl) nr_I (fun r3 M4 => ?_)
    refine j_if_eq (pc := 21) (tgt := 28) d_Model_isSheet_21 (by decide) (fun _ => ?_) (fun _ => ?_)
    · refine j_iconst (pc := 28) d_Model_isSheet_28 k_i_0 ?_
      exact j_zreturn (pc := 29) d_Model_isSheet_29 rfl rfl
    · refine j_iconst (pc := 24) d_Model_isSheet_24 k_i_1 ?_
      refine j_goto (pc := 25) (tgt := 29) d_Model_isSheet_25 (by decide) ?_
      exact j_zreturn (pc := 29) d_Model_isSheet_29 rfl rfl
-- Model.sheet (III)I
def mt_Model_sheet : Mt := ("ShakeHandsModel", b_Model_sheet, 5, some .int, 4, SHm)
theorem d_Model_sheet_0 : decode b_Model_sheet 0 = .ok (.iload_n 1, 1) := by decide +kernel
theorem d_Model_sheet_1 : decode b_Model_sheet 1 = .ok (.iload_n 2, 1) := by decide +kernel
theorem d_Model_sheet_2 : decode b_Model_sheet 2 = .ok (.invokestatic 403, 3) := by decide +kernel
theorem d_Model_sheet_5 : decode b_Model_sheet 5 = .ok (.ifCond .eq 9, 3) := by decide +kernel
theorem d_Model_sheet_8 : decode b_Model_sheet 8 = .ok (.iload_n 3, 1) := by decide +kernel
theorem d_Model_sheet_9 : decode b_Model_sheet 9 = .ok (.bipush 40, 2) := by decide +kernel
theorem d_Model_sheet_11 : decode b_Model_sheet 11 = .ok (.if_icmp .le 5, 3) := by decide +kernel
theorem d_Model_sheet_14 : decode b_Model_sheet 14 = .ok (.iconst (-1), 1) := by decide +kernel
theorem d_Model_sheet_15 : decode b_Model_sheet 15 = .ok (.ireturn, 1) := by decide +kernel
theorem d_Model_sheet_16 : decode b_Model_sheet 16 = .ok (.iload_n 3, 1) := by decide +kernel
theorem d_Model_sheet_17 : decode b_Model_sheet 17 = .ok (.ifCond .ge 6, 3) := by decide +kernel
theorem d_Model_sheet_20 : decode b_Model_sheet 20 = .ok (.bipush (-14), 2) := by decide +kernel
theorem d_Model_sheet_22 : decode b_Model_sheet 22 = .ok (.ireturn, 1) := by decide +kernel
theorem d_Model_sheet_23 : decode b_Model_sheet 23 = .ok (.aload_n 0, 1) := by decide +kernel
theorem d_Model_sheet_24 : decode b_Model_sheet 24 = .ok (.getfield 78, 3) := by decide +kernel
theorem d_Model_sheet_27 : decode b_Model_sheet 27 = .ok (.iload_n 1, 1) := by decide +kernel
theorem d_Model_sheet_28 : decode b_Model_sheet 28 = .ok (.iload_n 2, 1) := by decide +kernel
theorem d_Model_sheet_29 : decode b_Model_sheet 29 = .ok (.iastore, 1) := by decide +kernel
theorem d_Model_sheet_30 : decode b_Model_sheet 30 = .ok (.aload_n 0, 1) := by decide +kernel
theorem d_Model_sheet_31 : decode b_Model_sheet 31 = .ok (.getfield 81, 3) := by decide +kernel
theorem d_Model_sheet_34 : decode b_Model_sheet 34 = .ok (.iload_n 1, 1) := by decide +kernel
theorem d_Model_sheet_35 : decode b_Model_sheet 35 = .ok (.iload_n 3, 1) := by decide +kernel
theorem d_Model_sheet_36 : decode b_Model_sheet 36 = .ok (.iastore, 1) := by decide +kernel
theorem d_Model_sheet_37 : decode b_Model_sheet 37 = .ok (.iconst 0, 1) := by decide +kernel
theorem d_Model_sheet_38 : decode b_Model_sheet 38 = .ok (.istore 4, 2) := by decide +kernel
theorem d_Model_sheet_40 : decode b_Model_sheet 40 = .ok (.iload 4, 2) := by decide +kernel
theorem d_Model_sheet_42 : decode b_Model_sheet 42 = .ok (.bipush 40, 2) := by decide +kernel
theorem d_Model_sheet_44 : decode b_Model_sheet 44 = .ok (.if_icmp .ge 22, 3) := by decide +kernel
theorem d_Model_sheet_47 : decode b_Model_sheet 47 = .ok (.aload_n 0, 1) := by decide +kernel
theorem d_Model_sheet_48 : decode b_Model_sheet 48 = .ok (.getfield 84, 3) := by decide +kernel
theorem d_Model_sheet_51 : decode b_Model_sheet 51 = .ok (.bipush 40, 2) := by decide +kernel
theorem d_Model_sheet_53 : decode b_Model_sheet 53 = .ok (.iload_n 1, 1) := by decide +kernel
theorem d_Model_sheet_54 : decode b_Model_sheet 54 = .ok (.imul, 1) := by decide +kernel
theorem d_Model_sheet_55 : decode b_Model_sheet 55 = .ok (.iload 4, 2) := by decide +kernel
theorem d_Model_sheet_57 : decode b_Model_sheet 57 = .ok (.iadd, 1) := by decide +kernel
theorem d_Model_sheet_58 : decode b_Model_sheet 58 = .ok (.iconst 0, 1) := by decide +kernel
theorem d_Model_sheet_59 : decode b_Model_sheet 59 = .ok (.iastore, 1) := by decide +kernel
theorem d_Model_sheet_60 : decode b_Model_sheet 60 = .ok (.iinc 4 1, 3) := by decide +kernel
theorem d_Model_sheet_63 : decode b_Model_sheet 63 = .ok (.goto (-23), 3) := by decide +kernel
theorem d_Model_sheet_66 : decode b_Model_sheet 66 = .ok (.iconst 1, 1) := by decide +kernel
theorem d_Model_sheet_67 : decode b_Model_sheet 67 = .ok (.ireturn, 1) := by decide +kernel
def X_Model_sheet_L40 (n : Nat) (a1 : Int32) : Nat → Int32 → Mem → Option (Int32 × Mem)
    | 0, _, _ => none
    | m + 1, v4, M => (if 40 ≤ v4 then
    some (1, M)
    else
    gd (((40 : Int32) * a1) + v4) 160 (
      X_Model_sheet_L40 n a1 m (v4 + 1) (si M 25 ((((40 : Int32) * a1) + v4).toNatClampNeg) 0)))
def X_Model_sheet (n : Nat) (p1 : Int32) (p2 : Int32) (p3 : Int32) (M : Mem) : Option (Int32 × Mem) :=
  bd (X_Model_isSheet n p1 p2 M) fun r1 M2 =>
  (if r1 = 0 then
    some ((-1), M2)
    else
    (if p3 ≤ 40 then
      (if 0 ≤ p3 then
        gd p1 4 (
          gd p1 4 (
            X_Model_sheet_L40 n p1 n 0 (si (si M2 23 (p1.toNatClampNeg) p2) 24 (p1.toNatClampNeg) p3)))
        else
        some ((-14), M2))
      else
      some ((-1), M2)))
set_option maxRecDepth 20000 in
set_option maxHeartbeats 4000000 in
theorem X_Model_sheet_L40_ok {n : Nat} {a1 : Int32} : ∀ (m : Nat) (v4 : Int32) (M : Mem), J (mt_Model_sheet) wI 40 [(0, Value.ref 0), (1, Value.int a1), (4, Value.int v4)] [] M (X_Model_sheet_L40 n a1 m v4 M) := by
  intro m
  induction m with
  | zero => intro _ _; exact j_none
  | succ m ih =>
    intro v4 M
    show J _ _ _ _ _ _ ((if 40 ≤ v4 then
some (1, M)
else
gd (((40 : Int32) * a1) + v4) 160 (
X_Model_sheet_L40 n a1 m (v4 + 1) (si M 25 ((((40 : Int32) * a1) + v4).toNatClampNeg) 0))))
    refine j_iload (pc := 40) (q := 2) d_Model_sheet_40 rfl ?_
    refine j_bipush (pc := 42) d_Model_sheet_42 k_b_40 ?_
    refine j_icmp_ge (pc := 44) (tgt := 66) d_Model_sheet_44 (by decide) (fun _ => ?_) (fun _ => ?_)
    · refine j_iconst (pc := 66) d_Model_sheet_66 k_i_1 ?_
      exact j_ireturn (pc := 67) d_Model_sheet_67 rfl
    · refine j_aload_n (pc := 47) (q := 0) d_Model_sheet_47 rfl rfl ?_
      refine j_getA (pc := 48) d_Model_sheet_48 fl_Model_84 sm_0 (by decide) rfl ?_
      refine j_bipush (pc := 51) d_Model_sheet_51 k_b_40 ?_
      refine j_iload_n (pc := 53) (q := 1) d_Model_sheet_53 rfl rfl ?_
      refine j_imul (pc := 54) d_Model_sheet_54 ?_
      refine j_iload (pc := 55) (q := 2) d_Model_sheet_55 rfl ?_
      refine j_iadd (pc := 57) d_Model_sheet_57 ?_
      refine j_iconst (pc := 58) d_Model_sheet_58 k_i_0 ?_
      refine j_iast (pc := 59) d_Model_sheet_59 sm_25 (fun _ => ?_)
      refine j_iinc (pc := 60) (q := 2) d_Model_sheet_60 rfl (congrArg (v4 + ·) k_i_1) (by decide) rfl ?_
      refine j_goto (pc := 63) (tgt := 40) d_Model_sheet_63 (by decide) ?_
      refine j_lv [1, 2, 0] rfl ?_
      exact ih (v4 + 1) (si M 25 ((((40 : Int32) * a1) + v4).toNatClampNeg) 0)
set_option maxRecDepth 20000 in
set_option maxHeartbeats 4000000 in
theorem C_Model_sheet (n : Nat)   (p1 : Int32) (p2 : Int32) (p3 : Int32) (M : Mem) : Ct y_Model_sheet mt_Model_sheet wI [Value.ref 0, Value.int p1, Value.int p2, Value.int p3] M (X_Model_sheet n p1 p2 p3 M) := by
  refine ct_of (by decide +kernel) rfl (Nat.le_of_ble_eq_true rfl) ?_
  show J _ _ _ [(0, Value.ref 0), (1, Value.int p1), (2, Value.int p2), (3, Value.int p3)] _ _ _
  unfold X_Model_sheet
  refine j_iload_n (pc := 0) (q := 1) d_Model_sheet_0 rfl rfl ?_
  refine j_iload_n (pc := 1) (q := 2) d_Model_sheet_1 rfl rfl ?_
  refine j_callS2 (pc := 2) d_Model_sheet_2 (C_Model_isSheet n p1 p2 M) cS_Model_403 cd_Model_isSheet dn_Model_isSheet rfl (by decide) (Nat.le_of_ble_eq_true rfl) (Nat.le_of_ble_eq_true rfl) nr_I (fun r1 M2 => ?_)
  refine j_if_eq (pc := 5) (tgt := 14) d_Model_sheet_5 (by decide) (fun _ => ?_) (fun _ => ?_)
  · refine j_iconst (pc := 14) d_Model_sheet_14 k_i_m1 ?_
    exact j_ireturn (pc := 15) d_Model_sheet_15 rfl
  · refine j_iload_n (pc := 8) (q := 3) d_Model_sheet_8 rfl rfl ?_
    refine j_bipush (pc := 9) d_Model_sheet_9 k_b_40 ?_
    refine j_icmp_le (pc := 11) (tgt := 16) d_Model_sheet_11 (by decide) (fun _ => ?_) (fun _ => ?_)
    · refine j_iload_n (pc := 16) (q := 3) d_Model_sheet_16 rfl rfl ?_
      refine j_if_ge (pc := 17) (tgt := 23) d_Model_sheet_17 (by decide) (fun _ => ?_) (fun _ => ?_)
      · refine j_aload_n (pc := 23) (q := 0) d_Model_sheet_23 rfl rfl ?_
        refine j_getA (pc := 24) d_Model_sheet_24 fl_Model_78 sm_0 (by decide) rfl ?_
        refine j_iload_n (pc := 27) (q := 1) d_Model_sheet_27 rfl rfl ?_
        refine j_iload_n (pc := 28) (q := 2) d_Model_sheet_28 rfl rfl ?_
        refine j_iast (pc := 29) d_Model_sheet_29 sm_23 (fun _ => ?_)
        refine j_aload_n (pc := 30) (q := 0) d_Model_sheet_30 rfl rfl ?_
        refine j_getA (pc := 31) d_Model_sheet_31 fl_Model_81 sm_0 (by decide) rfl ?_
        refine j_iload_n (pc := 34) (q := 1) d_Model_sheet_34 rfl rfl ?_
        refine j_iload_n (pc := 35) (q := 3) d_Model_sheet_35 rfl rfl ?_
        refine j_iast (pc := 36) d_Model_sheet_36 sm_24 (fun _ => ?_)
        refine j_iconst (pc := 37) d_Model_sheet_37 k_i_0 ?_
        refine j_istore (pc := 38) d_Model_sheet_38 (by decide) rfl ?_
        refine j_lv [1, 2, 0] rfl ?_
        exact X_Model_sheet_L40_ok   n 0 (si (si M2 23 (p1.toNatClampNeg) p2) 24 (p1.toNatClampNeg) p3)
      · refine j_bipush (pc := 20) d_Model_sheet_20 k_b_m14 ?_
        exact j_ireturn (pc := 22) d_Model_sheet_22 rfl
    · refine j_iconst (pc := 14) d_Model_sheet_14 k_i_m1 ?_
      exact j_ireturn (pc := 15) d_Model_sheet_15 rfl
-- Model.lay (III)I
def mt_Model_lay : Mt := ("ShakeHandsModel", b_Model_lay, 4, some .int, 4, SHm)
theorem d_Model_lay_0 : decode b_Model_lay 0 = .ok (.iload_n 1, 1) := by decide +kernel
theorem d_Model_lay_1 : decode b_Model_lay 1 = .ok (.iconst 0, 1) := by decide +kernel
theorem d_Model_lay_2 : decode b_Model_lay 2 = .ok (.invokestatic 403, 3) := by decide +kernel
theorem d_Model_lay_5 : decode b_Model_lay 5 = .ok (.ifCond .ne 5, 3) := by decide +kernel
theorem d_Model_lay_8 : decode b_Model_lay 8 = .ok (.iconst (-1), 1) := by decide +kernel
theorem d_Model_lay_9 : decode b_Model_lay 9 = .ok (.ireturn, 1) := by decide +kernel
theorem d_Model_lay_10 : decode b_Model_lay 10 = .ok (.aload_n 0, 1) := by decide +kernel
theorem d_Model_lay_11 : decode b_Model_lay 11 = .ok (.getfield 78, 3) := by decide +kernel
theorem d_Model_lay_14 : decode b_Model_lay 14 = .ok (.iload_n 1, 1) := by decide +kernel
theorem d_Model_lay_15 : decode b_Model_lay 15 = .ok (.iaload, 1) := by decide +kernel
theorem d_Model_lay_16 : decode b_Model_lay 16 = .ok (.bipush (-4), 2) := by decide +kernel
theorem d_Model_lay_18 : decode b_Model_lay 18 = .ok (.if_icmp .ne 6, 3) := by decide +kernel
theorem d_Model_lay_21 : decode b_Model_lay 21 = .ok (.bipush (-11), 2) := by decide +kernel
theorem d_Model_lay_23 : decode b_Model_lay 23 = .ok (.ireturn, 1) := by decide +kernel
theorem d_Model_lay_24 : decode b_Model_lay 24 = .ok (.iload_n 2, 1) := by decide +kernel
theorem d_Model_lay_25 : decode b_Model_lay 25 = .ok (.i2l, 1) := by decide +kernel
theorem d_Model_lay_26 : decode b_Model_lay 26 = .ok (.lconst 0, 1) := by decide +kernel
theorem d_Model_lay_27 : decode b_Model_lay 27 = .ok (.aload_n 0, 1) := by decide +kernel
theorem d_Model_lay_28 : decode b_Model_lay 28 = .ok (.getfield 81, 3) := by decide +kernel
theorem d_Model_lay_31 : decode b_Model_lay 31 = .ok (.iload_n 1, 1) := by decide +kernel
theorem d_Model_lay_32 : decode b_Model_lay 32 = .ok (.iaload, 1) := by decide +kernel
theorem d_Model_lay_33 : decode b_Model_lay 33 = .ok (.iconst 1, 1) := by decide +kernel
theorem d_Model_lay_34 : decode b_Model_lay 34 = .ok (.isub, 1) := by decide +kernel
theorem d_Model_lay_35 : decode b_Model_lay 35 = .ok (.i2l, 1) := by decide +kernel
theorem d_Model_lay_36 : decode b_Model_lay 36 = .ok (.invokestatic 143, 3) := by decide +kernel
theorem d_Model_lay_39 : decode b_Model_lay 39 = .ok (.ifCond .ne 6, 3) := by decide +kernel
theorem d_Model_lay_42 : decode b_Model_lay 42 = .ok (.bipush (-12), 2) := by decide +kernel
theorem d_Model_lay_44 : decode b_Model_lay 44 = .ok (.ireturn, 1) := by decide +kernel
theorem d_Model_lay_45 : decode b_Model_lay 45 = .ok (.aload_n 0, 1) := by decide +kernel
theorem d_Model_lay_46 : decode b_Model_lay 46 = .ok (.getfield 84, 3) := by decide +kernel
theorem d_Model_lay_49 : decode b_Model_lay 49 = .ok (.bipush 40, 2) := by decide +kernel
theorem d_Model_lay_51 : decode b_Model_lay 51 = .ok (.iload_n 1, 1) := by decide +kernel
theorem d_Model_lay_52 : decode b_Model_lay 52 = .ok (.imul, 1) := by decide +kernel
theorem d_Model_lay_53 : decode b_Model_lay 53 = .ok (.iload_n 2, 1) := by decide +kernel
theorem d_Model_lay_54 : decode b_Model_lay 54 = .ok (.iadd, 1) := by decide +kernel
theorem d_Model_lay_55 : decode b_Model_lay 55 = .ok (.aload_n 0, 1) := by decide +kernel
theorem d_Model_lay_56 : decode b_Model_lay 56 = .ok (.getfield 78, 3) := by decide +kernel
theorem d_Model_lay_59 : decode b_Model_lay 59 = .ok (.iload_n 1, 1) := by decide +kernel
theorem d_Model_lay_60 : decode b_Model_lay 60 = .ok (.iaload, 1) := by decide +kernel
theorem d_Model_lay_61 : decode b_Model_lay 61 = .ok (.ifCond .ne 8, 3) := by decide +kernel
theorem d_Model_lay_64 : decode b_Model_lay 64 = .ok (.iload_n 3, 1) := by decide +kernel
theorem d_Model_lay_65 : decode b_Model_lay 65 = .ok (.i2b, 1) := by decide +kernel
theorem d_Model_lay_66 : decode b_Model_lay 66 = .ok (.goto 19, 3) := by decide +kernel
theorem d_Model_lay_69 : decode b_Model_lay 69 = .ok (.aload_n 0, 1) := by decide +kernel
theorem d_Model_lay_70 : decode b_Model_lay 70 = .ok (.getfield 78, 3) := by decide +kernel
theorem d_Model_lay_73 : decode b_Model_lay 73 = .ok (.iload_n 1, 1) := by decide +kernel
theorem d_Model_lay_74 : decode b_Model_lay 74 = .ok (.iaload, 1) := by decide +kernel
theorem d_Model_lay_75 : decode b_Model_lay 75 = .ok (.iconst 1, 1) := by decide +kernel
theorem d_Model_lay_76 : decode b_Model_lay 76 = .ok (.if_icmp .ne 8, 3) := by decide +kernel
theorem d_Model_lay_79 : decode b_Model_lay 79 = .ok (.iload_n 3, 1) := by decide +kernel
theorem d_Model_lay_80 : decode b_Model_lay 80 = .ok (.i2s, 1) := by decide +kernel
theorem d_Model_lay_81 : decode b_Model_lay 81 = .ok (.goto 4, 3) := by decide +kernel
theorem d_Model_lay_84 : decode b_Model_lay 84 = .ok (.iload_n 3, 1) := by decide +kernel
theorem d_Model_lay_85 : decode b_Model_lay 85 = .ok (.iastore, 1) := by decide +kernel
theorem d_Model_lay_86 : decode b_Model_lay 86 = .ok (.iconst 1, 1) := by decide +kernel
theorem d_Model_lay_87 : decode b_Model_lay 87 = .ok (.ireturn, 1) := by decide +kernel
def X_Model_lay (n : Nat) (p1 : Int32) (p2 : Int32) (p3 : Int32) (M : Mem) : Option (Int32 × Mem) :=
  bd (X_Model_isSheet n p1 0 M) fun r1 M2 =>
  (if r1 = 0 then
    some ((-1), M2)
    else
    gd p1 4 (
      (if (M2.1 23 p1.toNatClampNeg) = (-4) then
        some ((-11), M2)
        else
        gd p1 4 (
          bd (X_Model_in n (p2.toInt64) 0 ((((M2.1 24 p1.toNatClampNeg) - 1) : Int32).toInt64) M2) fun r3 M4 =>
          (if r3 = 0 then
            some ((-12), M4)
            else
            gd p1 4 (
              nm (fun (u5 : Int32) => (gd (((40 : Int32) * p1) + p2) 160 (
                    some (1, si M4 25 ((((40 : Int32) * p1) + p2).toNatClampNeg) u5)) : Option (Int32 × Mem))) fun k85 =>
              (if (M4.1 23 p1.toNatClampNeg) = 0 then
                k85 (p3.toInt8.toInt32)
                else
                gd p1 4 (
                  (if (M4.1 23 p1.toNatClampNeg) = 1 then
                    k85 (p3.toInt16.toInt32)
                    else
                    k85 p3)))))))))
set_option maxRecDepth 20000 in
set_option maxHeartbeats 4000000 in
theorem C_Model_lay (n : Nat)   (p1 : Int32) (p2 : Int32) (p3 : Int32) (M : Mem) : Ct y_Model_lay mt_Model_lay wI [Value.ref 0, Value.int p1, Value.int p2, Value.int p3] M (X_Model_lay n p1 p2 p3 M) := by
  refine ct_of (by decide +kernel) rfl (Nat.le_of_ble_eq_true rfl) ?_
  show J _ _ _ [(0, Value.ref 0), (1, Value.int p1), (2, Value.int p2), (3, Value.int p3)] _ _ _
  unfold X_Model_lay
  refine j_iload_n (pc := 0) (q := 1) d_Model_lay_0 rfl rfl ?_
  refine j_iconst (pc := 1) d_Model_lay_1 k_i_0 ?_
  refine j_callS2 (pc := 2) d_Model_lay_2 (C_Model_isSheet n p1 0 M) cS_Model_403 cd_Model_isSheet dn_Model_isSheet rfl (by decide) (Nat.le_of_ble_eq_true rfl) (Nat.le_of_ble_eq_true rfl) nr_I (fun r1 M2 => ?_)
  refine j_if_ne (pc := 5) (tgt := 10) d_Model_lay_5 (by decide) (fun _ => ?_) (fun _ => ?_)
  · refine j_aload_n (pc := 10) (q := 0) d_Model_lay_10 rfl rfl ?_
    refine j_getA (pc := 11) d_Model_lay_11 fl_Model_78 sm_0 (by decide) rfl ?_
    refine j_iload_n (pc := 14) (q := 1) d_Model_lay_14 rfl rfl ?_
    refine j_iald (pc := 15) d_Model_lay_15 sm_23 (fun _ => ?_)
    refine j_bipush (pc := 16) d_Model_lay_16 k_b_m4 ?_
    refine j_icmp_ne (pc := 18) (tgt := 24) d_Model_lay_18 (by decide) (fun _ => ?_) (fun _ => ?_)
    · refine j_iload_n (pc := 24) (q := 2) d_Model_lay_24 rfl rfl ?_
      refine j_i2l (pc := 25) d_Model_lay_25 ?_
      refine j_lconst (pc := 26) d_Model_lay_26 k_l_0 ?_
      refine j_aload_n (pc := 27) (q := 0) d_Model_lay_27 rfl rfl ?_
      refine j_getA (pc := 28) d_Model_lay_28 fl_Model_81 sm_0 (by decide) rfl ?_
      refine j_iload_n (pc := 31) (q := 1) d_Model_lay_31 rfl rfl ?_
      refine j_iald (pc := 32) d_Model_lay_32 sm_24 (fun _ => ?_)
      refine j_iconst (pc := 33) d_Model_lay_33 k_i_1 ?_
      refine j_isub (pc := 34) d_Model_lay_34 ?_
      refine j_i2l (pc := 35) d_Model_lay_35 ?_
      refine j_callS3 (pc := 36) d_Model_lay_36 (C_Model_in n (p2.toInt64) 0 ((((M2.1 24 p1.toNatClampNeg) - 1) : Int32).toInt64) M2) cS_Model_143 cd_Model_in dn_Model_in rfl (by decide) (Nat.le_of_ble_eq_true rfl) (Nat.le_of_ble_eq_true rfl) nr_I (fun r3 M4 => ?_)
      refine j_if_ne (pc := 39) (tgt := 45) d_Model_lay_39 (by decide) (fun _ => ?_) (fun _ => ?_)
      · refine j_aload_n (pc := 45) (q := 0) d_Model_lay_45 rfl rfl ?_
        refine j_getA (pc := 46) d_Model_lay_46 fl_Model_84 sm_0 (by decide) rfl ?_
        refine j_bipush (pc := 49) d_Model_lay_49 k_b_40 ?_
        refine j_iload_n (pc := 51) (q := 1) d_Model_lay_51 rfl rfl ?_
        refine j_imul (pc := 52) d_Model_lay_52 ?_
        refine j_iload_n (pc := 53) (q := 2) d_Model_lay_53 rfl rfl ?_
        refine j_iadd (pc := 54) d_Model_lay_54 ?_
        refine j_aload_n (pc := 55) (q := 0) d_Model_lay_55 rfl rfl ?_
        refine j_getA (pc := 56) d_Model_lay_56 fl_Model_78 sm_0 (by decide) rfl ?_
        refine j_iload_n (pc := 59) (q := 1) d_Model_lay_59 rfl rfl ?_
        refine j_iald (pc := 60) d_Model_lay_60 sm_23 (fun _ => ?_)
        refine j_nmk (fun k => ∀ (u5 : Int32), J (mt_Model_lay) wI 85 [] [Value.int u5, Value.int (((40 : Int32) * p1) + p2), Value.ref 25] M4 (k u5)) (fun u5 => ?_) (fun k85 hk85 => ?_)
        · refine j_iast (pc := 85) d_Model_lay_85 sm_25 (fun _ => ?_)
          refine j_iconst (pc := 86) d_Model_lay_86 k_i_1 ?_
          exact j_ireturn (pc := 87) d_Model_lay_87 rfl
        · refine j_if_ne (pc := 61) (tgt := 69) d_Model_lay_61 (by decide) (fun _ => ?_) (fun _ => ?_)
          · refine j_aload_n (pc := 69) (q := 0) d_Model_lay_69 rfl rfl ?_
            refine j_getA (pc := 70) d_Model_lay_70 fl_Model_78 sm_0 (by decide) rfl ?_
            refine j_iload_n (pc := 73) (q := 1) d_Model_lay_73 rfl rfl ?_
            refine j_iald (pc := 74) d_Model_lay_74 sm_23 (fun _ => ?_)
            refine j_iconst (pc := 75) d_Model_lay_75 k_i_1 ?_
            refine j_icmp_ne (pc := 76) (tgt := 84) d_Model_lay_76 (by decide) (fun _ => ?_) (fun _ => ?_)
            · refine j_iload_n (pc := 84) (q := 3) d_Model_lay_84 rfl rfl ?_
              refine j_lv [] rfl ?_
              exact hk85 p3
            · refine j_iload_n (pc := 79) (q := 3) d_Model_lay_79 rfl rfl ?_
              refine j_i2s (pc := 80) d_Model_lay_80 ?_
              refine j_goto (pc := 81) (tgt := 85) d_Model_lay_81 (by decide) ?_
              refine j_lv [] rfl ?_
              exact hk85 (p3.toInt16.toInt32)
          · refine j_iload_n (pc := 64) (q := 3) d_Model_lay_64 rfl rfl ?_
            refine j_i2b (pc := 65) d_Model_lay_65 ?_
            refine j_goto (pc := 66) (tgt := 85) d_Model_lay_66 (by decide) ?_
            refine j_lv [] rfl ?_
            exact hk85 (p3.toInt8.toInt32)
      · refine j_bipush (pc := 42) d_Model_lay_42 k_b_m12 ?_
        exact j_ireturn (pc := 44) d_Model_lay_44 rfl
    · refine j_bipush (pc := 21) d_Model_lay_21 k_b_m11 ?_
      exact j_ireturn (pc := 23) d_Model_lay_23 rfl
  · refine j_iconst (pc := 8) d_Model_lay_8 k_i_m1 ?_
    exact j_ireturn (pc := 9) d_Model_lay_9 rfl
-- Model.read (IIII)I
def mt_Model_read : Mt := ("ShakeHandsModel", b_Model_read, 11, some .int, 7, SHm)
theorem d_Model_read_0 : decode b_Model_read 0 = .ok (.iload_n 1, 1) := by decide +kernel
theorem d_Model_read_1 : decode b_Model_read 1 = .ok (.iload_n 2, 1) := by decide +kernel
theorem d_Model_read_2 : decode b_Model_read 2 = .ok (.invokestatic 403, 3) := by decide +kernel
theorem d_Model_read_5 : decode b_Model_read 5 = .ok (.ifCond .eq 16, 3) := by decide +kernel
theorem d_Model_read_8 : decode b_Model_read 8 = .ok (.iload 4, 2) := by decide +kernel
theorem d_Model_read_10 : decode b_Model_read 10 = .ok (.i2l, 1) := by decide +kernel
theorem d_Model_read_11 : decode b_Model_read 11 = .ok (.lconst 0, 1) := by decide +kernel
theorem d_Model_read_12 : decode b_Model_read 12 = .ok (.ldc2_w 406, 3) := by decide +kernel
theorem d_Model_read_15 : decode b_Model_read 15 = .ok (.invokestatic 143, 3) := by decide +kernel
theorem d_Model_read_18 : decode b_Model_read 18 = .ok (.ifCond .ne 5, 3) := by decide +kernel
theorem d_Model_read_21 : decode b_Model_read 21 = .ok (.iconst (-1), 1) := by decide +kernel
theorem d_Model_read_22 : decode b_Model_read 22 = .ok (.ireturn, 1) := by decide +kernel
theorem d_Model_read_23 : decode b_Model_read 23 = .ok (.iconst 0, 1) := by decide +kernel
theorem d_Model_read_24 : decode b_Model_read 24 = .ok (.istore 5, 2) := by decide +kernel
theorem d_Model_read_26 : decode b_Model_read 26 = .ok (.iconst 0, 1) := by decide +kernel
theorem d_Model_read_27 : decode b_Model_read 27 = .ok (.istore 6, 2) := by decide +kernel
theorem d_Model_read_29 : decode b_Model_read 29 = .ok (.iconst 0, 1) := by decide +kernel
theorem d_Model_read_30 : decode b_Model_read 30 = .ok (.istore 7, 2) := by decide +kernel
theorem d_Model_read_32 : decode b_Model_read 32 = .ok (.iload 7, 2) := by decide +kernel
theorem d_Model_read_34 : decode b_Model_read 34 = .ok (.iload 4, 2) := by decide +kernel
theorem d_Model_read_36 : decode b_Model_read 36 = .ok (.if_icmp .ge 154, 3) := by decide +kernel
theorem d_Model_read_39 : decode b_Model_read 39 = .ok (.iload 5, 2) := by decide +kernel
theorem d_Model_read_41 : decode b_Model_read 41 = .ok (.ifCond .ne 149, 3) := by decide +kernel
theorem d_Model_read_44 : decode b_Model_read 44 = .ok (.iconst 0, 1) := by decide +kernel
theorem d_Model_read_45 : decode b_Model_read 45 = .ok (.istore 8, 2) := by decide +kernel
theorem d_Model_read_47 : decode b_Model_read 47 = .ok (.iload 8, 2) := by decide +kernel
theorem d_Model_read_49 : decode b_Model_read 49 = .ok (.iconst 2, 1) := by decide +kernel
theorem d_Model_read_50 : decode b_Model_read 50 = .ok (.if_icmp .ge 84, 3) := by decide +kernel
theorem d_Model_read_53 : decode b_Model_read 53 = .ok (.iload 5, 2) := by decide +kernel
theorem d_Model_read_55 : decode b_Model_read 55 = .ok (.ifCond .ne 79, 3) := by decide +kernel
theorem d_Model_read_58 : decode b_Model_read 58 = .ok (.iload_n 3, 1) := by decide +kernel
theorem d_Model_read_59 : decode b_Model_read 59 = .ok (.i2l, 1) := by decide +kernel
theorem d_Model_read_60 : decode b_Model_read 60 = .ok (.iconst 2, 1) := by decide +kernel
theorem d_Model_read_61 : decode b_Model_read 61 = .ok (.iload 7, 2) := by decide +kernel
theorem d_Model_read_63 : decode b_Model_read 63 = .ok (.imul, 1) := by decide +kernel
theorem d_Model_read_64 : decode b_Model_read 64 = .ok (.i2l, 1) := by decide +kernel
theorem d_Model_read_65 : decode b_Model_read 65 = .ok (.ladd, 1) := by decide +kernel
theorem d_Model_read_66 : decode b_Model_read 66 = .ok (.iload 8, 2) := by decide +kernel
theorem d_Model_read_68 : decode b_Model_read 68 = .ok (.i2l, 1) := by decide +kernel
theorem d_Model_read_69 : decode b_Model_read 69 = .ok (.ladd, 1) := by decide +kernel
theorem d_Model_read_70 : decode b_Model_read 70 = .ok (.lstore 9, 2) := by decide +kernel
theorem d_Model_read_72 : decode b_Model_read 72 = .ok (.aload_n 0, 1) := by decide +kernel
theorem d_Model_read_73 : decode b_Model_read 73 = .ok (.getfield 78, 3) := by decide +kernel
theorem d_Model_read_76 : decode b_Model_read 76 = .ok (.iload_n 1, 1) := by decide +kernel
theorem d_Model_read_77 : decode b_Model_read 77 = .ok (.iaload, 1) := by decide +kernel
theorem d_Model_read_78 : decode b_Model_read 78 = .ok (.bipush (-4), 2) := by decide +kernel
theorem d_Model_read_80 : decode b_Model_read 80 = .ok (.if_icmp .ne 7, 3) := by decide +kernel
theorem d_Model_read_83 : decode b_Model_read 83 = .ok (.iconst 1, 1) := by decide +kernel
theorem d_Model_read_84 : decode b_Model_read 84 = .ok (.goto 42, 3) := by decide +kernel
theorem d_Model_read_87 : decode b_Model_read 87 = .ok (.aload_n 0, 1) := by decide +kernel
theorem d_Model_read_88 : decode b_Model_read 88 = .ok (.getfield 78, 3) := by decide +kernel
theorem d_Model_read_91 : decode b_Model_read 91 = .ok (.iload_n 1, 1) := by decide +kernel
theorem d_Model_read_92 : decode b_Model_read 92 = .ok (.iaload, 1) := by decide +kernel
theorem d_Model_read_93 : decode b_Model_read 93 = .ok (.iload_n 2, 1) := by decide +kernel
theorem d_Model_read_94 : decode b_Model_read 94 = .ok (.if_icmp .eq 7, 3) := by decide +kernel
theorem d_Model_read_97 : decode b_Model_read 97 = .ok (.iconst 3, 1) := by decide +kernel
theorem d_Model_read_98 : decode b_Model_read 98 = .ok (.goto 28, 3) := by decide +kernel
theorem d_Model_read_101 : decode b_Model_read 101 = .ok (.lload 9, 2) := by decide +kernel
theorem d_Model_read_103 : decode b_Model_read 103 = .ok (.lconst 0, 1) := by decide +kernel
theorem d_Model_read_104 : decode b_Model_read 104 = .ok (.lcmp, 1) := by decide +kernel
theorem d_Model_read_105 : decode b_Model_read 105 = .ok (.ifCond .lt 16, 3) := by decide +kernel
theorem d_Model_read_108 : decode b_Model_read 108 = .ok (.lload 9, 2) := by decide +kernel
theorem d_Model_read_110 : decode b_Model_read 110 = .ok (.aload_n 0, 1) := by decide +kernel
theorem d_Model_read_111 : decode b_Model_read 111 = .ok (.getfield 81, 3) := by decide +kernel
theorem d_Model_read_114 : decode b_Model_read 114 = .ok (.iload_n 1, 1) := by decide +kernel
theorem d_Model_read_115 : decode b_Model_read 115 = .ok (.iaload, 1) := by decide +kernel
theorem d_Model_read_116 : decode b_Model_read 116 = .ok (.i2l, 1) := by decide +kernel
theorem d_Model_read_117 : decode b_Model_read 117 = .ok (.lcmp, 1) := by decide +kernel
theorem d_Model_read_118 : decode b_Model_read 118 = .ok (.ifCond .lt 7, 3) := by decide +kernel
theorem d_Model_read_121 : decode b_Model_read 121 = .ok (.iconst 2, 1) := by decide +kernel
theorem d_Model_read_122 : decode b_Model_read 122 = .ok (.goto 4, 3) := by decide +kernel
theorem d_Model_read_125 : decode b_Model_read 125 = .ok (.iconst 0, 1) := by decide +kernel
theorem d_Model_read_126 : decode b_Model_read 126 = .ok (.istore 5, 2) := by decide +kernel
theorem d_Model_read_128 : decode b_Model_read 128 = .ok (.iinc 8 1, 3) := by decide +kernel
theorem d_Model_read_131 : decode b_Model_read 131 = .ok (.goto (-84), 3) := by decide +kernel
theorem d_Model_read_134 : decode b_Model_read 134 = .ok (.iload 5, 2) := by decide +kernel
theorem d_Model_read_136 : decode b_Model_read 136 = .ok (.ifCond .ne 48, 3) := by decide +kernel
theorem d_Model_read_139 : decode b_Model_read 139 = .ok (.bipush 40, 2) := by decide +kernel
theorem d_Model_read_141 : decode b_Model_read 141 = .ok (.iload_n 1, 1) := by decide +kernel
theorem d_Model_read_142 : decode b_Model_read 142 = .ok (.imul, 1) := by decide +kernel
theorem d_Model_read_143 : decode b_Model_read 143 = .ok (.iload_n 3, 1) := by decide +kernel
theorem d_Model_read_144 : decode b_Model_read 144 = .ok (.iadd, 1) := by decide +kernel
theorem d_Model_read_145 : decode b_Model_read 145 = .ok (.iconst 2, 1) := by decide +kernel
theorem d_Model_read_146 : decode b_Model_read 146 = .ok (.iload 7, 2) := by decide +kernel
theorem d_Model_read_148 : decode b_Model_read 148 = .ok (.imul, 1) := by decide +kernel
theorem d_Model_read_149 : decode b_Model_read 149 = .ok (.iadd, 1) := by decide +kernel
theorem d_Model_read_150 : decode b_Model_read 150 = .ok (.istore 8, 2) := by decide +kernel
theorem d_Model_read_152 : decode b_Model_read 152 = .ok (.aload_n 0, 1) := by decide +kernel
theorem d_Model_read_153 : decode b_Model_read 153 = .ok (.aload_n 0, 1) := by decide +kernel
theorem d_Model_read_154 : decode b_Model_read 154 = .ok (.getfield 84, 3) := by decide +kernel
theorem d_Model_read_157 : decode b_Model_read 157 = .ok (.iload 8, 2) := by decide +kernel
theorem d_Model_read_159 : decode b_Model_read 159 = .ok (.iaload, 1) := by decide +kernel
theorem d_Model_read_160 : decode b_Model_read 160 = .ok (.aload_n 0, 1) := by decide +kernel
theorem d_Model_read_161 : decode b_Model_read 161 = .ok (.getfield 84, 3) := by decide +kernel
theorem d_Model_read_164 : decode b_Model_read 164 = .ok (.iload 8, 2) := by decide +kernel
theorem d_Model_read_166 : decode b_Model_read 166 = .ok (.iconst 1, 1) := by decide +kernel
theorem d_Model_read_167 : decode b_Model_read 167 = .ok (.iadd, 1) := by decide +kernel
theorem d_Model_read_168 : decode b_Model_read 168 = .ok (.iaload, 1) := by decide +kernel
theorem d_Model_read_169 : decode b_Model_read 169 = .ok (.invokevirtual 289, 3) := by decide +kernel
theorem d_Model_read_172 : decode b_Model_read 172 = .ok (.ifCond .ne 9, 3) := by decide +kernel
theorem d_Model_read_175 : decode b_Model_read 175 = .ok (.bipush (-20), 2) := by decide +kernel
theorem d_Model_read_177 : decode b_Model_read 177 = .ok (.iload 7, 2) := by decide +kernel
theorem d_Model_read_179 : decode b_Model_read 179 = .ok (.isub, 1) := by decide +kernel
theorem d_Model_read_180 : decode b_Model_read 180 = .ok (.ireturn, 1) := by decide +kernel
theorem d_Model_read_181 : decode b_Model_read 181 = .ok (.iinc 6 1, 3) := by decide +kernel
theorem d_Model_read_184 : decode b_Model_read 184 = .ok (.iinc 7 1, 3) := by decide +kernel
theorem d_Model_read_187 : decode b_Model_read 187 = .ok (.goto (-155), 3) := by decide +kernel
theorem d_Model_read_190 : decode b_Model_read 190 = .ok (.aload_n 0, 1) := by decide +kernel
theorem d_Model_read_191 : decode b_Model_read 191 = .ok (.iload 5, 2) := by decide +kernel
theorem d_Model_read_193 : decode b_Model_read 193 = .ok (.putfield 408, 3) := by decide +kernel
theorem d_Model_read_196 : decode b_Model_read 196 = .ok (.iconst 0, 1) := by decide +kernel
theorem d_Model_read_197 : decode b_Model_read 197 = .ok (.istore 7, 2) := by decide +kernel
theorem d_Model_read_199 : decode b_Model_read 199 = .ok (.iload 7, 2) := by decide +kernel
theorem d_Model_read_201 : decode b_Model_read 201 = .ok (.iload 6, 2) := by decide +kernel
theorem d_Model_read_203 : decode b_Model_read 203 = .ok (.if_icmp .ge 45, 3) := by decide +kernel
theorem d_Model_read_206 : decode b_Model_read 206 = .ok (.bipush 40, 2) := by decide +kernel
theorem d_Model_read_208 : decode b_Model_read 208 = .ok (.iload_n 1, 1) := by decide +kernel
theorem d_Model_read_209 : decode b_Model_read 209 = .ok (.imul, 1) := by decide +kernel
theorem d_Model_read_210 : decode b_Model_read 210 = .ok (.iload_n 3, 1) := by decide +kernel
theorem d_Model_read_211 : decode b_Model_read 211 = .ok (.iadd, 1) := by decide +kernel
theorem d_Model_read_212 : decode b_Model_read 212 = .ok (.iconst 2, 1) := by decide +kernel
theorem d_Model_read_213 : decode b_Model_read 213 = .ok (.iload 7, 2) := by decide +kernel
theorem d_Model_read_215 : decode b_Model_read 215 = .ok (.imul, 1) := by decide +kernel
theorem d_Model_read_216 : decode b_Model_read 216 = .ok (.iadd, 1) := by decide +kernel
theorem d_Model_read_217 : decode b_Model_read 217 = .ok (.istore 8, 2) := by decide +kernel
theorem d_Model_read_219 : decode b_Model_read 219 = .ok (.aload_n 0, 1) := by decide +kernel
theorem d_Model_read_220 : decode b_Model_read 220 = .ok (.aload_n 0, 1) := by decide +kernel
theorem d_Model_read_221 : decode b_Model_read 221 = .ok (.getfield 84, 3) := by decide +kernel
theorem d_Model_read_224 : decode b_Model_read 224 = .ok (.iload 8, 2) := by decide +kernel
theorem d_Model_read_226 : decode b_Model_read 226 = .ok (.iaload, 1) := by decide +kernel
theorem d_Model_read_227 : decode b_Model_read 227 = .ok (.aload_n 0, 1) := by decide +kernel
theorem d_Model_read_228 : decode b_Model_read 228 = .ok (.getfield 84, 3) := by decide +kernel
theorem d_Model_read_231 : decode b_Model_read 231 = .ok (.iload 8, 2) := by decide +kernel
theorem d_Model_read_233 : decode b_Model_read 233 = .ok (.iconst 1, 1) := by decide +kernel
theorem d_Model_read_234 : decode b_Model_read 234 = .ok (.iadd, 1) := by decide +kernel
theorem d_Model_read_235 : decode b_Model_read 235 = .ok (.iaload, 1) := by decide +kernel
theorem d_Model_read_236 : decode b_Model_read 236 = .ok (.invokestatic 87, 3) := by decide +kernel
theorem d_Model_read_239 : decode b_Model_read 239 = .ok (.invokevirtual 292, 3) := by decide +kernel
theorem d_Model_read_242 : decode b_Model_read 242 = .ok (.iinc 7 1, 3) := by decide +kernel
theorem d_Model_read_245 : decode b_Model_read 245 = .ok (.goto (-46), 3) := by decide +kernel
theorem d_Model_read_248 : decode b_Model_read 248 = .ok (.iload 6, 2) := by decide +kernel
theorem d_Model_read_250 : decode b_Model_read 250 = .ok (.ireturn, 1) := by decide +kernel
def X_Model_read_L47 (n : Nat) (a1 : Int32) (a2 : Int32) (a3 : Int32) (a4 : Int32) (a6 : Int32) (a7 : Int32) (kx134 : Int32 → Option (Int32 × Mem)) (M : Mem) : Nat → Int32 → Int32 → Option (Int32 × Mem)
    | 0, _, _ => none
    | m + 1, v5, v8 => (if 2 ≤ v8 then
    kx134 v5
    else
    (if v5 = 0 then
      nm (((a3.toInt64) + ((((2 : Int32) * a7) : Int32).toInt64)) + (v8.toInt64)) fun x5 =>
      gd a1 4 (
        nm (fun (u6 : Int32) => (X_Model_read_L47 n a1 a2 a3 a4 a6 a7 kx134 M m u6 (v8 + 1) : Option (Int32 × Mem))) fun k126 =>
        (if (M.1 23 a1.toNatClampNeg) = (-4) then
          k126 1
          else
          gd a1 4 (
            (if (M.1 23 a1.toNatClampNeg) = a2 then
              (if (lg_cmp x5 0) < 0 then
                k126 2
                else
                gd a1 4 (
                  (if (lg_cmp x5 (((M.1 24 a1.toNatClampNeg) : Int32).toInt64)) < 0 then
                    k126 0
                    else
                    k126 2)))
              else
              k126 3))))
      else
      kx134 v5))
def X_Model_read_L32 (n : Nat) (a1 : Int32) (a2 : Int32) (a3 : Int32) (a4 : Int32) (kx190 : Int32 → Int32 → Mem → Option (Int32 × Mem)) : Nat → Int32 → Int32 → Int32 → Mem → Option (Int32 × Mem)
    | 0, _, _, _, _ => none
    | m + 1, v5, v6, v7, M => (if a4 ≤ v7 then
    kx190 v5 v6 M
    else
    (if v5 = 0 then
      X_Model_read_L47 n a1 a2 a3 a4 v6 v7 (fun y7 => nm (fun (z8 : Int32) (M9 : Mem) => (X_Model_read_L32 n a1 a2 a3 a4 kx190 m y7 z8 (v7 + 1) M9 : Option (Int32 × Mem))) fun k184 =>
        (if y7 = 0 then
          nm ((((40 : Int32) * a1) + a3) + ((2 : Int32) * v7)) fun x10 =>
          gd x10 160 (
            gd (x10 + 1) 160 (
              bd (X_Model_areTwo n (M.1 25 x10.toNatClampNeg) (M.1 25 (x10 + 1).toNatClampNeg) M) fun r11 M12 =>
              (if r11 = 0 then
                some ((((-20) : Int32) - v7), M12)
                else
                k184 (v6 + 1) M12)))
          else
          k184 v6 M)) M n v5 0
      else
      kx190 v5 v6 M))
def X_Model_read_L199 (n : Nat) (a1 : Int32) (a3 : Int32) (a6 : Int32) : Nat → Int32 → Mem → Option (Int32 × Mem)
    | 0, _, _ => none
    | m + 1, v7, M => (if a6 ≤ v7 then
    some (a6, M)
    else
    nm ((((40 : Int32) * a1) + a3) + ((2 : Int32) * v7)) fun x16 =>
    gd x16 160 (
      gd (x16 + 1) 160 (
        bd (X_Model_pairOf n (M.1 25 x16.toNatClampNeg) (M.1 25 (x16 + 1).toNatClampNeg) M) fun r17 M18 =>
        bd (X_Model_shakesNow n r17 M18) fun _ M20 =>
        X_Model_read_L199 n a1 a3 a6 m (v7 + 1) M20)))
def X_Model_read (n : Nat) (p1 : Int32) (p2 : Int32) (p3 : Int32) (p4 : Int32) (M : Mem) : Option (Int32 × Mem) :=
  bd (X_Model_isSheet n p1 p2 M) fun r1 M2 =>
  (if r1 = 0 then
    some ((-1), M2)
    else
    bd (X_Model_in n (p4.toInt64) 0 20 M2) fun r3 M4 =>
    (if r3 = 0 then
      some ((-1), M4)
      else
      X_Model_read_L32 n p1 p2 p3 p4 (fun y13 y14 M15 => X_Model_read_L199 n p1 p3 y14 n 0 (si M15 0 54 y13)) n 0 0 0 M4))
set_option maxRecDepth 20000 in
set_option maxHeartbeats 4000000 in
theorem X_Model_read_L47_ok {n : Nat} {a1 : Int32} {a2 : Int32} {a3 : Int32} {a4 : Int32} {a6 : Int32} {a7 : Int32} {kx134 : Int32 → Option (Int32 × Mem)} {M : Mem} (hkx134 : ∀ (w5 : Int32), J (mt_Model_read) wI 134 [(0, Value.ref 0), (1, Value.int a1), (2, Value.int a2), (3, Value.int a3), (4, Value.int a4), (5, Value.int w5), (6, Value.int a6), (7, Value.int a7)] [] M (kx134 w5)) : ∀ (m : Nat) (v5 : Int32) (v8 : Int32), J (mt_Model_read) wI 47 [(0, Value.ref 0), (1, Value.int a1), (2, Value.int a2), (3, Value.int a3), (4, Value.int a4), (5, Value.int v5), (6, Value.int a6), (7, Value.int a7), (8, Value.int v8)] [] M (X_Model_read_L47 n a1 a2 a3 a4 a6 a7 kx134 M m v5 v8) := by
  intro m
  induction m with
  | zero => intro _ _; exact j_none
  | succ m ih =>
    intro v5 v8
    show J _ _ _ _ _ _ ((if 2 ≤ v8 then
kx134 v5
else
(if v5 = 0 then
nm (((a3.toInt64) + ((((2 : Int32) * a7) : Int32).toInt64)) + (v8.toInt64)) fun x5 =>
gd a1 4 (
nm (fun (u6 : Int32) => (X_Model_read_L47 n a1 a2 a3 a4 a6 a7 kx134 M m u6 (v8 + 1) : Option (Int32 × Mem))) fun k126 =>
(if (M.1 23 a1.toNatClampNeg) = (-4) then
k126 1
else
gd a1 4 (
(if (M.1 23 a1.toNatClampNeg) = a2 then
(if (lg_cmp x5 0) < 0 then
k126 2
else
gd a1 4 (
(if (lg_cmp x5 (((M.1 24 a1.toNatClampNeg) : Int32).toInt64)) < 0 then
k126 0
else
k126 2)))
else
k126 3))))
else
kx134 v5)))
    refine j_iload (pc := 47) (q := 8) d_Model_read_47 rfl ?_
    refine j_iconst (pc := 49) d_Model_read_49 k_i_2 ?_
    refine j_icmp_ge (pc := 50) (tgt := 134) d_Model_read_50 (by decide) (fun _ => ?_) (fun _ => ?_)
    · refine j_lv [0, 1, 2, 3, 4, 5, 6, 7] rfl ?_
      exact hkx134 v5
    · refine j_iload (pc := 53) (q := 5) d_Model_read_53 rfl ?_
      refine j_if_ne (pc := 55) (tgt := 134) d_Model_read_55 (by decide) (fun _ => ?_) (fun _ => ?_)
      · refine j_lv [0, 1, 2, 3, 4, 5, 6, 7] rfl ?_
        exact hkx134 v5
      · refine j_iload_n (pc := 58) (q := 3) d_Model_read_58 rfl rfl ?_
        refine j_i2l (pc := 59) d_Model_read_59 ?_
        refine j_iconst (pc := 60) d_Model_read_60 k_i_2 ?_
        refine j_iload (pc := 61) (q := 7) d_Model_read_61 rfl ?_
        refine j_imul (pc := 63) d_Model_read_63 ?_
        refine j_i2l (pc := 64) d_Model_read_64 ?_
        refine j_ladd (pc := 65) d_Model_read_65 ?_
        refine j_iload (pc := 66) (q := 8) d_Model_read_66 rfl ?_
        refine j_i2l (pc := 68) d_Model_read_68 ?_
        refine j_ladd (pc := 69) d_Model_read_69 ?_
        refine j_nml (fun x5 => ?_)
        refine j_lstore (pc := 70) d_Model_read_70 (by decide) rfl ?_
        refine j_aload_n (pc := 72) (q := 1) d_Model_read_72 rfl rfl ?_
        refine j_getA (pc := 73) d_Model_read_73 fl_Model_78 sm_0 (by decide) rfl ?_
        refine j_iload_n (pc := 76) (q := 2) d_Model_read_76 rfl rfl ?_
        refine j_iald (pc := 77) d_Model_read_77 sm_23 (fun _ => ?_)
        refine j_bipush (pc := 78) d_Model_read_78 k_b_m4 ?_
        refine j_nmk (fun k => ∀ (u6 : Int32), J (mt_Model_read) wI 126 [(0, Value.ref 0), (1, Value.int a1), (2, Value.int a2), (3, Value.int a3), (4, Value.int a4), (6, Value.int a6), (7, Value.int a7), (8, Value.int v8)] [Value.int u6] M (k u6)) (fun u6 => ?_) (fun k126 hk126 => ?_)
        · refine j_istore (pc := 126) d_Model_read_126 (by decide) rfl ?_
          refine j_iinc (pc := 128) (q := 8) d_Model_read_128 rfl (congrArg (v8 + ·) k_i_1) (by decide) rfl ?_
          refine j_goto (pc := 131) (tgt := 47) d_Model_read_131 (by decide) ?_
          refine j_lv [2, 3, 4, 5, 6, 1, 7, 8, 0] rfl ?_
          exact ih u6 (v8 + 1)
        · refine j_icmp_ne (pc := 80) (tgt := 87) d_Model_read_80 (by decide) (fun _ => ?_) (fun _ => ?_)
          · refine j_aload_n (pc := 87) (q := 1) d_Model_read_87 rfl rfl ?_
            refine j_getA (pc := 88) d_Model_read_88 fl_Model_78 sm_0 (by decide) rfl ?_
            refine j_iload_n (pc := 91) (q := 2) d_Model_read_91 rfl rfl ?_
            refine j_iald (pc := 92) d_Model_read_92 sm_23 (fun _ => ?_)
            refine j_iload_n (pc := 93) (q := 3) d_Model_read_93 rfl rfl ?_
            refine j_icmp_eq (pc := 94) (tgt := 101) d_Model_read_94 (by decide) (fun _ => ?_) (fun _ => ?_)
            · refine j_lload (pc := 101) (q := 0) d_Model_read_101 rfl ?_
              refine j_lconst (pc := 103) d_Model_read_103 k_l_0 ?_
              refine j_lcmp (pc := 104) d_Model_read_104 ?_
              refine j_if_lt (pc := 105) (tgt := 121) d_Model_read_105 (by decide) (fun _ => ?_) (fun _ => ?_)
              · refine j_iconst (pc := 121) d_Model_read_121 k_i_2 ?_
                refine j_goto (pc := 122) (tgt := 126) d_Model_read_122 (by decide) ?_
                refine j_lv [1, 2, 3, 4, 5, 7, 8, 9] rfl ?_
                exact hk126 2
              · refine j_lload (pc := 108) (q := 0) d_Model_read_108 rfl ?_
                refine j_aload_n (pc := 110) (q := 1) d_Model_read_110 rfl rfl ?_
                refine j_getA (pc := 111) d_Model_read_111 fl_Model_81 sm_0 (by decide) rfl ?_
                refine j_iload_n (pc := 114) (q := 2) d_Model_read_114 rfl rfl ?_
                refine j_iald (pc := 115) d_Model_read_115 sm_24 (fun _ => ?_)
                refine j_i2l (pc := 116) d_Model_read_116 ?_
                refine j_lcmp (pc := 117) d_Model_read_117 ?_
                refine j_if_lt (pc := 118) (tgt := 125) d_Model_read_118 (by decide) (fun _ => ?_) (fun _ => ?_)
                · refine j_iconst (pc := 125) d_Model_read_125 k_i_0 ?_
                  refine j_lv [1, 2, 3, 4, 5, 7, 8, 9] rfl ?_
                  exact hk126 0
                · refine j_iconst (pc := 121) d_Model_read_121 k_i_2 ?_
                  refine j_goto (pc := 122) (tgt := 126) d_Model_read_122 (by decide) ?_
                  refine j_lv [1, 2, 3, 4, 5, 7, 8, 9] rfl ?_
                  exact hk126 2
            · refine j_iconst (pc := 97) d_Model_read_97 k_i_3 ?_
              refine j_goto (pc := 98) (tgt := 126) d_Model_read_98 (by decide) ?_
              refine j_lv [1, 2, 3, 4, 5, 7, 8, 9] rfl ?_
              exact hk126 3
          · refine j_iconst (pc := 83) d_Model_read_83 k_i_1 ?_
            refine j_goto (pc := 84) (tgt := 126) d_Model_read_84 (by decide) ?_
            refine j_lv [1, 2, 3, 4, 5, 7, 8, 9] rfl ?_
            exact hk126 1
set_option maxRecDepth 20000 in
set_option maxHeartbeats 4000000 in
theorem X_Model_read_L32_ok {n : Nat} {a1 : Int32} {a2 : Int32} {a3 : Int32} {a4 : Int32} {kx190 : Int32 → Int32 → Mem → Option (Int32 × Mem)} (hkx190 : ∀ (w5 : Int32) (w6 : Int32) (M : Mem), J (mt_Model_read) wI 190 [(0, Value.ref 0), (1, Value.int a1), (3, Value.int a3), (5, Value.int w5), (6, Value.int w6)] [] M (kx190 w5 w6 M)) : ∀ (m : Nat) (v5 : Int32) (v6 : Int32) (v7 : Int32) (M : Mem), J (mt_Model_read) wI 32 [(0, Value.ref 0), (1, Value.int a1), (2, Value.int a2), (3, Value.int a3), (4, Value.int a4), (5, Value.int v5), (6, Value.int v6), (7, Value.int v7)] [] M (X_Model_read_L32 n a1 a2 a3 a4 kx190 m v5 v6 v7 M) := by
  intro m
  induction m with
  | zero => intro _ _ _ _; exact j_none
  | succ m ih =>
    intro v5 v6 v7 M
    show J _ _ _ _ _ _ ((if a4 ≤ v7 then
kx190 v5 v6 M
else
(if v5 = 0 then
X_Model_read_L47 n a1 a2 a3 a4 v6 v7 (fun y7 => nm (fun (z8 : Int32) (M9 : Mem) => (X_Model_read_L32 n a1 a2 a3 a4 kx190 m y7 z8 (v7 + 1) M9 : Option (Int32 × Mem))) fun k184 =>
(if y7 = 0 then
nm ((((40 : Int32) * a1) + a3) + ((2 : Int32) * v7)) fun x10 =>
gd x10 160 (
gd (x10 + 1) 160 (
bd (X_Model_areTwo n (M.1 25 x10.toNatClampNeg) (M.1 25 (x10 + 1).toNatClampNeg) M) fun r11 M12 =>
(if r11 = 0 then
some ((((-20) : Int32) - v7), M12)
else
k184 (v6 + 1) M12)))
else
k184 v6 M)) M n v5 0
else
kx190 v5 v6 M)))
    refine j_iload (pc := 32) (q := 7) d_Model_read_32 rfl ?_
    refine j_iload (pc := 34) (q := 4) d_Model_read_34 rfl ?_
    refine j_icmp_ge (pc := 36) (tgt := 190) d_Model_read_36 (by decide) (fun _ => ?_) (fun _ => ?_)
    · refine j_lv [0, 1, 3, 5, 6] rfl ?_
      exact hkx190 v5 v6 M
    · refine j_iload (pc := 39) (q := 5) d_Model_read_39 rfl ?_
      refine j_if_ne (pc := 41) (tgt := 190) d_Model_read_41 (by decide) (fun _ => ?_) (fun _ => ?_)
      · refine j_lv [0, 1, 3, 5, 6] rfl ?_
        exact hkx190 v5 v6 M
      · refine j_iconst (pc := 44) d_Model_read_44 k_i_0 ?_
        refine j_istore (pc := 45) d_Model_read_45 (by decide) rfl ?_
        refine j_lv [1, 2, 3, 4, 5, 6, 7, 8, 0] rfl ?_
        refine X_Model_read_L47_ok  (fun y7 => ?_) n v5 0
        refine j_iload (pc := 134) (q := 5) d_Model_read_134 rfl ?_
        refine j_nmk (fun k => ∀ (z8 : Int32) (M9 : Mem), J (mt_Model_read) wI 184 [(0, Value.ref 0), (1, Value.int a1), (2, Value.int a2), (3, Value.int a3), (4, Value.int a4), (5, Value.int y7), (6, Value.int z8), (7, Value.int v7)] [] M9 (k z8 M9)) (fun z8 M9 => ?_) (fun k184 hk184 => ?_)
        · refine j_iinc (pc := 184) (q := 7) d_Model_read_184 rfl (congrArg (v7 + ·) k_i_1) (by decide) rfl ?_
          refine j_goto (pc := 187) (tgt := 32) d_Model_read_187 (by decide) ?_
          refine j_lv [1, 2, 3, 4, 5, 6, 7, 0] rfl ?_
          exact ih y7 z8 (v7 + 1) M9
        · refine j_if_ne (pc := 136) (tgt := 184) d_Model_read_136 (by decide) (fun _ => ?_) (fun _ => ?_)
          · exact hk184 v6 M
          · refine j_bipush (pc := 139) d_Model_read_139 k_b_40 ?_
            refine j_iload_n (pc := 141) (q := 1) d_Model_read_141 rfl rfl ?_
            refine j_imul (pc := 142) d_Model_read_142 ?_
            refine j_iload_n (pc := 143) (q := 3) d_Model_read_143 rfl rfl ?_
            refine j_iadd (pc := 144) d_Model_read_144 ?_
            refine j_iconst (pc := 145) d_Model_read_145 k_i_2 ?_
            refine j_iload (pc := 146) (q := 7) d_Model_read_146 rfl ?_
            refine j_imul (pc := 148) d_Model_read_148 ?_
            refine j_iadd (pc := 149) d_Model_read_149 ?_
            refine j_nmi (fun x10 => ?_)
            refine j_istore (pc := 150) d_Model_read_150 (by decide) rfl ?_
            refine j_aload_n (pc := 152) (q := 1) d_Model_read_152 rfl rfl ?_
            refine j_aload_n (pc := 153) (q := 1) d_Model_read_153 rfl rfl ?_
            refine j_getA (pc := 154) d_Model_read_154 fl_Model_84 sm_0 (by decide) rfl ?_
            refine j_iload (pc := 157) (q := 0) d_Model_read_157 rfl ?_
            refine j_iald (pc := 159) d_Model_read_159 sm_25 (fun _ => ?_)
            refine j_aload_n (pc := 160) (q := 1) d_Model_read_160 rfl rfl ?_
            refine j_getA (pc := 161) d_Model_read_161 fl_Model_84 sm_0 (by decide) rfl ?_
            refine j_iload (pc := 164) (q := 0) d_Model_read_164 rfl ?_
            refine j_iconst (pc := 166) d_Model_read_166 k_i_1 ?_
            refine j_iadd (pc := 167) d_Model_read_167 ?_
            refine j_iald (pc := 168) d_Model_read_168 sm_25 (fun _ => ?_)
            refine j_callV2 (pc := 169) d_Model_read_169 (C_Model_areTwo n (M.1 25 x10.toNatClampNeg) (M.1 25 (x10 + 1).toNatClampNeg) M) cV_Model_289 cd_Model_areTwo dn_Model_areTwo rfl (by decide) (Nat.le_of_ble_eq_true rfl) (Nat.le_of_ble_eq_true rfl) nr_I sm_0 (by decide) rfl (fun r11 M12 => ?_)
            refine j_if_ne (pc := 172) (tgt := 181) d_Model_read_172 (by decide) (fun _ => ?_) (fun _ => ?_)
            · refine j_iinc (pc := 181) (q := 7) d_Model_read_181 rfl (congrArg (v6 + ·) k_i_1) (by decide) rfl ?_
              refine j_lv [2, 3, 4, 5, 6, 7, 0, 8] rfl ?_
              exact hk184 (v6 + 1) M12
            · refine j_bipush (pc := 175) d_Model_read_175 k_b_m20 ?_
              refine j_iload (pc := 177) (q := 8) d_Model_read_177 rfl ?_
              refine j_isub (pc := 179) d_Model_read_179 ?_
              exact j_ireturn (pc := 180) d_Model_read_180 rfl
set_option maxRecDepth 20000 in
set_option maxHeartbeats 4000000 in
theorem X_Model_read_L199_ok {n : Nat} {a1 : Int32} {a3 : Int32} {a6 : Int32} : ∀ (m : Nat) (v7 : Int32) (M : Mem), J (mt_Model_read) wI 199 [(0, Value.ref 0), (1, Value.int a1), (3, Value.int a3), (6, Value.int a6), (7, Value.int v7)] [] M (X_Model_read_L199 n a1 a3 a6 m v7 M) := by
  intro m
  induction m with
  | zero => intro _ _; exact j_none
  | succ m ih =>
    intro v7 M
    show J _ _ _ _ _ _ ((if a6 ≤ v7 then
some (a6, M)
else
nm ((((40 : Int32) * a1) + a3) + ((2 : Int32) * v7)) fun x16 =>
gd x16 160 (
gd (x16 + 1) 160 (
bd (X_Model_pairOf n (M.1 25 x16.toNatClampNeg) (M.1 25 (x16 + 1).toNatClampNeg) M) fun r17 M18 =>
bd (X_Model_shakesNow n r17 M18) fun _ M20 =>
X_Model_read_L199 n a1 a3 a6 m (v7 + 1) M20))))
    refine j_iload (pc := 199) (q := 4) d_Model_read_199 rfl ?_
    refine j_iload (pc := 201) (q := 3) d_Model_read_201 rfl ?_
    refine j_icmp_ge (pc := 203) (tgt := 248) d_Model_read_203 (by decide) (fun _ => ?_) (fun _ => ?_)
    · refine j_iload (pc := 248) (q := 3) d_Model_read_248 rfl ?_
      exact j_ireturn (pc := 250) d_Model_read_250 rfl
    · refine j_bipush (pc := 206) d_Model_read_206 k_b_40 ?_
      refine j_iload_n (pc := 208) (q := 1) d_Model_read_208 rfl rfl ?_
      refine j_imul (pc := 209) d_Model_read_209 ?_
      refine j_iload_n (pc := 210) (q := 2) d_Model_read_210 rfl rfl ?_
      refine j_iadd (pc := 211) d_Model_read_211 ?_
      refine j_iconst (pc := 212) d_Model_read_212 k_i_2 ?_
      refine j_iload (pc := 213) (q := 4) d_Model_read_213 rfl ?_
      refine j_imul (pc := 215) d_Model_read_215 ?_
      refine j_iadd (pc := 216) d_Model_read_216 ?_
      refine j_nmi (fun x16 => ?_)
      refine j_istore (pc := 217) d_Model_read_217 (by decide) rfl ?_
      refine j_aload_n (pc := 219) (q := 1) d_Model_read_219 rfl rfl ?_
      refine j_aload_n (pc := 220) (q := 1) d_Model_read_220 rfl rfl ?_
      refine j_getA (pc := 221) d_Model_read_221 fl_Model_84 sm_0 (by decide) rfl ?_
      refine j_iload (pc := 224) (q := 0) d_Model_read_224 rfl ?_
      refine j_iald (pc := 226) d_Model_read_226 sm_25 (fun _ => ?_)
      refine j_aload_n (pc := 227) (q := 1) d_Model_read_227 rfl rfl ?_
      refine j_getA (pc := 228) d_Model_read_228 fl_Model_84 sm_0 (by decide) rfl ?_
      refine j_iload (pc := 231) (q := 0) d_Model_read_231 rfl ?_
      refine j_iconst (pc := 233) d_Model_read_233 k_i_1 ?_
      refine j_iadd (pc := 234) d_Model_read_234 ?_
      refine j_iald (pc := 235) d_Model_read_235 sm_25 (fun _ => ?_)
      refine j_callS2 (pc := 236) d_Model_read_236 (C_Model_pairOf n (M.1 25 x16.toNatClampNeg) (M.1 25 (x16 + 1).toNatClampNeg) M) cS_Model_87 cd_Model_pairOf dn_Model_pairOf rfl (by decide) (Nat.le_of_ble_eq_true rfl) (Nat.le_of_ble_eq_true rfl) nr_I (fun r17 M18 => ?_)
      refine j_callV1 (pc := 239) d_Model_read_239 (C_Model_shakesNow n r17 M18) cV_Model_292 cd_Model_shakesNow dn_Model_shakesNow rfl (by decide) (Nat.le_of_ble_eq_true rfl) (Nat.le_of_ble_eq_true rfl) nr_U sm_0 (by decide) rfl (fun r19 M20 => ?_)
      refine j_iinc (pc := 242) (q := 5) d_Model_read_242 rfl (congrArg (v7 + ·) k_i_1) (by decide) rfl ?_
      refine j_goto (pc := 245) (tgt := 199) d_Model_read_245 (by decide) ?_
      refine j_lv [2, 3, 4, 5, 0] rfl ?_
      exact ih (v7 + 1) M20
set_option maxRecDepth 20000 in
set_option maxHeartbeats 4000000 in
theorem C_Model_read (n : Nat)   (p1 : Int32) (p2 : Int32) (p3 : Int32) (p4 : Int32) (M : Mem) : Ct y_Model_read mt_Model_read wI [Value.ref 0, Value.int p1, Value.int p2, Value.int p3, Value.int p4] M (X_Model_read n p1 p2 p3 p4 M) := by
  refine ct_of (by decide +kernel) rfl (Nat.le_of_ble_eq_true rfl) ?_
  show J _ _ _ [(0, Value.ref 0), (1, Value.int p1), (2, Value.int p2), (3, Value.int p3), (4, Value.int p4)] _ _ _
  unfold X_Model_read
  refine j_iload_n (pc := 0) (q := 1) d_Model_read_0 rfl rfl ?_
  refine j_iload_n (pc := 1) (q := 2) d_Model_read_1 rfl rfl ?_
  refine j_callS2 (pc := 2) d_Model_read_2 (C_Model_isSheet n p1 p2 M) cS_Model_403 cd_Model_isSheet dn_Model_isSheet rfl (by decide) (Nat.le_of_ble_eq_true rfl) (Nat.le_of_ble_eq_true rfl) nr_I (fun r1 M2 => ?_)
  refine j_if_eq (pc := 5) (tgt := 21) d_Model_read_5 (by decide) (fun _ => ?_) (fun _ => ?_)
  · refine j_iconst (pc := 21) d_Model_read_21 k_i_m1 ?_
    exact j_ireturn (pc := 22) d_Model_read_22 rfl
  · refine j_iload (pc := 8) (q := 4) d_Model_read_8 rfl ?_
    refine j_i2l (pc := 10) d_Model_read_10 ?_
    refine j_lconst (pc := 11) d_Model_read_11 k_l_0 ?_
    refine j_ldc2 (pc := 12) d_Model_read_12 cl_Model_406 ?_
    refine j_callS3 (pc := 15) d_Model_read_15 (C_Model_in n (p4.toInt64) 0 20 M2) cS_Model_143 cd_Model_in dn_Model_in rfl (by decide) (Nat.le_of_ble_eq_true rfl) (Nat.le_of_ble_eq_true rfl) nr_I (fun r3 M4 => ?_)
    refine j_if_ne (pc := 18) (tgt := 23) d_Model_read_18 (by decide) (fun _ => ?_) (fun _ => ?_)
    · refine j_iconst (pc := 23) d_Model_read_23 k_i_0 ?_
      refine j_istore (pc := 24) d_Model_read_24 (by decide) rfl ?_
      refine j_iconst (pc := 26) d_Model_read_26 k_i_0 ?_
      refine j_istore (pc := 27) d_Model_read_27 (by decide) rfl ?_
      refine j_iconst (pc := 29) d_Model_read_29 k_i_0 ?_
      refine j_istore (pc := 30) d_Model_read_30 (by decide) rfl ?_
      refine j_lv [3, 4, 5, 6, 7, 2, 1, 0] rfl ?_
      refine X_Model_read_L32_ok  (fun y13 y14 M15 => ?_) n 0 0 0 M4
      refine j_aload_n (pc := 190) (q := 0) d_Model_read_190 rfl rfl ?_
      refine j_iload (pc := 191) (q := 3) d_Model_read_191 rfl ?_
      refine j_putI (pc := 193) d_Model_read_193 fl_Model_408 rfl sm_0 (by decide) rfl ?_
      refine j_iconst (pc := 196) d_Model_read_196 k_i_0 ?_
      refine j_istore (pc := 197) d_Model_read_197 (by decide) rfl ?_
      refine j_lv [1, 2, 3, 5, 0] rfl ?_
      exact X_Model_read_L199_ok   n 0 (si M15 0 54 y13)
    · refine j_iconst (pc := 21) d_Model_read_21 k_i_m1 ?_
      exact j_ireturn (pc := 22) d_Model_read_22 rfl
-- Model.torn ()I
def mt_Model_torn : Mt := ("ShakeHandsModel", b_Model_torn, 1, some .int, 2, SHm)
theorem d_Model_torn_0 : decode b_Model_torn 0 = .ok (.aload_n 0, 1) := by decide +kernel
theorem d_Model_torn_1 : decode b_Model_torn 1 = .ok (.getfield 408, 3) := by decide +kernel
theorem d_Model_torn_4 : decode b_Model_torn 4 = .ok (.ireturn, 1) := by decide +kernel
def X_Model_torn (n : Nat) (M : Mem) : Option (Int32 × Mem) :=
  some ((M.1 0 54), M)
set_option maxRecDepth 20000 in
set_option maxHeartbeats 4000000 in
theorem C_Model_torn (n : Nat)    (M : Mem) : Ct y_Model_torn mt_Model_torn wI [Value.ref 0] M (X_Model_torn n M) := by
  refine ct_of (by decide +kernel) rfl (Nat.le_of_ble_eq_true rfl) ?_
  show J _ _ _ [(0, Value.ref 0)] _ _ _
  unfold X_Model_torn
  refine j_aload_n (pc := 0) (q := 0) d_Model_torn_0 rfl rfl ?_
  refine j_getI (pc := 1) d_Model_torn_1 fl_Model_408 sm_0 (by decide) rfl ?_
  exact j_ireturn (pc := 4) d_Model_torn_4 rfl
-- Model.count (I)I
def mt_Model_count : Mt := ("ShakeHandsModel", b_Model_count, 4, some .int, 5, SHm)
theorem d_Model_count_0 : decode b_Model_count 0 = .ok (.ldc_w 411, 3) := by decide +kernel
theorem d_Model_count_3 : decode b_Model_count 3 = .ok (.istore_n 2, 1) := by decide +kernel
theorem d_Model_count_4 : decode b_Model_count 4 = .ok (.iconst 0, 1) := by decide +kernel
theorem d_Model_count_5 : decode b_Model_count 5 = .ok (.istore_n 3, 1) := by decide +kernel
theorem d_Model_count_6 : decode b_Model_count 6 = .ok (.iload_n 3, 1) := by decide +kernel
theorem d_Model_count_7 : decode b_Model_count 7 = .ok (.aload_n 0, 1) := by decide +kernel
theorem d_Model_count_8 : decode b_Model_count 8 = .ok (.getfield 119, 3) := by decide +kernel
theorem d_Model_count_11 : decode b_Model_count 11 = .ok (.if_icmp .ge 17, 3) := by decide +kernel
theorem d_Model_count_14 : decode b_Model_count 14 = .ok (.iload_n 2, 1) := by decide +kernel
theorem d_Model_count_15 : decode b_Model_count 15 = .ok (.aload_n 0, 1) := by decide +kernel
theorem d_Model_count_16 : decode b_Model_count 16 = .ok (.iload_n 3, 1) := by decide +kernel
theorem d_Model_count_17 : decode b_Model_count 17 = .ok (.invokevirtual 265, 3) := by decide +kernel
theorem d_Model_count_20 : decode b_Model_count 20 = .ok (.iand, 1) := by decide +kernel
theorem d_Model_count_21 : decode b_Model_count 21 = .ok (.istore_n 2, 1) := by decide +kernel
theorem d_Model_count_22 : decode b_Model_count 22 = .ok (.iinc 3 1, 3) := by decide +kernel
theorem d_Model_count_25 : decode b_Model_count 25 = .ok (.goto (-19), 3) := by decide +kernel
theorem d_Model_count_28 : decode b_Model_count 28 = .ok (.iload_n 1, 1) := by decide +kernel
theorem d_Model_count_29 : decode b_Model_count 29 = .ok (.tableswitch 105 0 5 #[39, 47, 52, 57, 77, 82], 39) := by decide +kernel
theorem d_Model_count_68 : decode b_Model_count 68 = .ok (.aload_n 0, 1) := by decide +kernel
theorem d_Model_count_69 : decode b_Model_count 69 = .ok (.invokevirtual 295, 3) := by decide +kernel
theorem d_Model_count_72 : decode b_Model_count 72 = .ok (.invokestatic 224, 3) := by decide +kernel
theorem d_Model_count_75 : decode b_Model_count 75 = .ok (.ireturn, 1) := by decide +kernel
theorem d_Model_count_76 : decode b_Model_count 76 = .ok (.iload_n 2, 1) := by decide +kernel
theorem d_Model_count_77 : decode b_Model_count 77 = .ok (.invokestatic 224, 3) := by decide +kernel
theorem d_Model_count_80 : decode b_Model_count 80 = .ok (.ireturn, 1) := by decide +kernel
theorem d_Model_count_81 : decode b_Model_count 81 = .ok (.aload_n 0, 1) := by decide +kernel
theorem d_Model_count_82 : decode b_Model_count 82 = .ok (.invokevirtual 393, 3) := by decide +kernel
theorem d_Model_count_85 : decode b_Model_count 85 = .ok (.ireturn, 1) := by decide +kernel
theorem d_Model_count_86 : decode b_Model_count 86 = .ok (.aload_n 0, 1) := by decide +kernel
theorem d_Model_count_87 : decode b_Model_count 87 = .ok (.getfield 13, 3) := by decide +kernel
theorem d_Model_count_90 : decode b_Model_count 90 = .ok (.iconst 0, 1) := by decide +kernel
theorem d_Model_count_91 : decode b_Model_count 91 = .ok (.baload, 1) := by decide +kernel
theorem d_Model_count_92 : decode b_Model_count 92 = .ok (.invokestatic 134, 3) := by decide +kernel
theorem d_Model_count_95 : decode b_Model_count 95 = .ok (.aload_n 0, 1) := by decide +kernel
theorem d_Model_count_96 : decode b_Model_count 96 = .ok (.getfield 13, 3) := by decide +kernel
theorem d_Model_count_99 : decode b_Model_count 99 = .ok (.iconst 1, 1) := by decide +kernel
theorem d_Model_count_100 : decode b_Model_count 100 = .ok (.baload, 1) := by decide +kernel
theorem d_Model_count_101 : decode b_Model_count 101 = .ok (.invokestatic 134, 3) := by decide +kernel
theorem d_Model_count_104 : decode b_Model_count 104 = .ok (.iadd, 1) := by decide +kernel
theorem d_Model_count_105 : decode b_Model_count 105 = .ok (.ireturn, 1) := by decide +kernel
theorem d_Model_count_106 : decode b_Model_count 106 = .ok (.aload_n 0, 1) := by decide +kernel
theorem d_Model_count_107 : decode b_Model_count 107 = .ok (.getfield 138, 3) := by decide +kernel
theorem d_Model_count_110 : decode b_Model_count 110 = .ok (.ireturn, 1) := by decide +kernel
theorem d_Model_count_111 : decode b_Model_count 111 = .ok (.aload_n 0, 1) := by decide +kernel
theorem d_Model_count_112 : decode b_Model_count 112 = .ok (.getfield 78, 3) := by decide +kernel
theorem d_Model_count_115 : decode b_Model_count 115 = .ok (.iconst 0, 1) := by decide +kernel
theorem d_Model_count_116 : decode b_Model_count 116 = .ok (.iaload, 1) := by decide +kernel
theorem d_Model_count_117 : decode b_Model_count 117 = .ok (.bipush (-4), 2) := by decide +kernel
theorem d_Model_count_119 : decode b_Model_count 119 = .ok (.if_icmp .ne 8, 3) := by decide +kernel
theorem d_Model_count_122 : decode b_Model_count 122 = .ok (.bipush (-4), 2) := by decide +kernel
theorem d_Model_count_124 : decode b_Model_count 124 = .ok (.goto 9, 3) := by decide +kernel
theorem d_Model_count_127 : decode b_Model_count 127 = .ok (.aload_n 0, 1) := by decide +kernel
theorem d_Model_count_128 : decode b_Model_count 128 = .ok (.getfield 81, 3) := by decide +kernel
theorem d_Model_count_131 : decode b_Model_count 131 = .ok (.iconst 0, 1) := by decide +kernel
theorem d_Model_count_132 : decode b_Model_count 132 = .ok (.iaload, 1) := by decide +kernel
theorem d_Model_count_133 : decode b_Model_count 133 = .ok (.ireturn, 1) := by decide +kernel
theorem d_Model_count_134 : decode b_Model_count 134 = .ok (.iconst (-1), 1) := by decide +kernel
theorem d_Model_count_135 : decode b_Model_count 135 = .ok (.ireturn, 1) := by decide +kernel
def X_Model_count_L6 (n : Nat) (a1 : Int32) (kx28 : Int32 → Mem → Option (Int32 × Mem)) : Nat → Int32 → Int32 → Mem → Option (Int32 × Mem)
    | 0, _, _, _ => none
    | m + 1, v2, v3, M => (if (M.1 0 2) ≤ v3 then
    kx28 v2 M
    else
    bd (X_Model_knowsNow n v3 M) fun r1 M2 =>
    nm (v2 &&& r1) fun x3 =>
    X_Model_count_L6 n a1 kx28 m x3 (v3 + 1) M2)
def X_Model_count (n : Nat) (p1 : Int32) (M : Mem) : Option (Int32 × Mem) :=
  X_Model_count_L6 n p1 (fun y4 M5 => (if p1 = 0 then
      bd (X_Model_anyNow n M5) fun r14 M15 =>
      bd (X_Model_bitsOf n r14 M15) fun r16 M17 =>
      some (r16, M17)
      else
      (if p1 = 1 then
        bd (X_Model_bitsOf n y4 M5) fun r12 M13 =>
        some (r12, M13)
        else
        (if p1 = 2 then
          bd (X_Model_seen n M5) fun r10 M11 =>
          some (r10, M11)
          else
          (if p1 = 3 then
            gd (0 : Int32) 2 (
              bd (X_Model_flag n (M5.1 2 (0 : Int32).toNatClampNeg) M5) fun r6 M7 =>
              gd (1 : Int32) 2 (
                bd (X_Model_flag n (M7.1 2 (1 : Int32).toNatClampNeg) M7) fun r8 M9 =>
                some ((r6 + r8), M9)))
            else
            (if p1 = 4 then
              some ((M5.1 0 26), M5)
              else
              (if p1 = 5 then
                gd (0 : Int32) 4 (
                  (if (M5.1 23 (0 : Int32).toNatClampNeg) = (-4) then
                    some ((-4), M5)
                    else
                    gd (0 : Int32) 4 (
                      some ((M5.1 24 (0 : Int32).toNatClampNeg), M5))))
                else
                some ((-1), M5)))))))) n 65535 0 M
set_option maxRecDepth 20000 in
set_option maxHeartbeats 4000000 in
theorem X_Model_count_L6_ok {n : Nat} {a1 : Int32} {kx28 : Int32 → Mem → Option (Int32 × Mem)} (hkx28 : ∀ (w2 : Int32) (M : Mem), J (mt_Model_count) wI 28 [(0, Value.ref 0), (1, Value.int a1), (2, Value.int w2)] [] M (kx28 w2 M)) : ∀ (m : Nat) (v2 : Int32) (v3 : Int32) (M : Mem), J (mt_Model_count) wI 6 [(0, Value.ref 0), (1, Value.int a1), (2, Value.int v2), (3, Value.int v3)] [] M (X_Model_count_L6 n a1 kx28 m v2 v3 M) := by
  intro m
  induction m with
  | zero => intro _ _ _; exact j_none
  | succ m ih =>
    intro v2 v3 M
    show J _ _ _ _ _ _ ((if (M.1 0 2) ≤ v3 then
kx28 v2 M
else
bd (X_Model_knowsNow n v3 M) fun r1 M2 =>
nm (v2 &&& r1) fun x3 =>
X_Model_count_L6 n a1 kx28 m x3 (v3 + 1) M2))
    refine j_iload_n (pc := 6) (q := 3) d_Model_count_6 rfl rfl ?_
    refine j_aload_n (pc := 7) (q := 0) d_Model_count_7 rfl rfl ?_
    refine j_getI (pc := 8) d_Model_count_8 fl_Model_119 sm_0 (by decide) rfl ?_
    refine j_icmp_ge (pc := 11) (tgt := 28) d_Model_count_11 (by decide) (fun _ => ?_) (fun _ => ?_)
    · refine j_lv [0, 1, 2] rfl ?_
      exact hkx28 v2 M
    · refine j_iload_n (pc := 14) (q := 2) d_Model_count_14 rfl rfl ?_
      refine j_aload_n (pc := 15) (q := 0) d_Model_count_15 rfl rfl ?_
      refine j_iload_n (pc := 16) (q := 3) d_Model_count_16 rfl rfl ?_
      refine j_callV1 (pc := 17) d_Model_count_17 (C_Model_knowsNow n v3 M) cV_Model_265 cd_Model_knowsNow dn_Model_knowsNow rfl (by decide) (Nat.le_of_ble_eq_true rfl) (Nat.le_of_ble_eq_true rfl) nr_I sm_0 (by decide) rfl (fun r1 M2 => ?_)
      refine j_iand (pc := 20) d_Model_count_20 ?_
      refine j_nmi (fun x3 => ?_)
      refine j_istore_n (pc := 21) d_Model_count_21 rfl (by decide) rfl ?_
      refine j_iinc (pc := 22) (q := 3) d_Model_count_22 rfl (congrArg (v3 + ·) k_i_1) (by decide) rfl ?_
      refine j_goto (pc := 25) (tgt := 6) d_Model_count_25 (by decide) ?_
      refine j_lv [2, 3, 1, 0] rfl ?_
      exact ih x3 (v3 + 1) M2
set_option maxRecDepth 20000 in
set_option maxHeartbeats 4000000 in
theorem C_Model_count (n : Nat)   (p1 : Int32) (M : Mem) : Ct y_Model_count mt_Model_count wI [Value.ref 0, Value.int p1] M (X_Model_count n p1 M) := by
  refine ct_of (by decide +kernel) rfl (Nat.le_of_ble_eq_true rfl) ?_
  show J _ _ _ [(0, Value.ref 0), (1, Value.int p1)] _ _ _
  unfold X_Model_count
  refine j_ldcw (pc := 0) (own := "ShakeHandsModel") d_Model_count_0 ct_Model_411 ?_
  refine j_istore_n (pc := 3) d_Model_count_3 rfl (by decide) rfl ?_
  refine j_iconst (pc := 4) d_Model_count_4 k_i_0 ?_
  refine j_istore_n (pc := 5) d_Model_count_5 rfl (by decide) rfl ?_
  refine j_lv [2, 3, 1, 0] rfl ?_
  refine X_Model_count_L6_ok  (fun y4 M5 => ?_) n 65535 0 M
  refine j_iload_n (pc := 28) (q := 1) d_Model_count_28 rfl rfl ?_
  refine j_split (fun h0 => ?_) (fun h0 => ?_)
  · refine j_tableIn (pc := 29) (tgt := 68) d_Model_count_29 0 h0 (by decide) (by decide) rfl (by decide) ?_
    refine j_aload_n (pc := 68) (q := 0) d_Model_count_68 rfl rfl ?_
    refine j_callV0 (pc := 69) d_Model_count_69 (C_Model_anyNow n M5) cV_Model_295 cd_Model_anyNow dn_Model_anyNow rfl (by decide) (Nat.le_of_ble_eq_true rfl) (Nat.le_of_ble_eq_true rfl) nr_I sm_0 (by decide) rfl (fun r14 M15 => ?_)
    refine j_callS1 (pc := 72) d_Model_count_72 (C_Model_bitsOf n r14 M15) cS_Model_224 cd_Model_bitsOf dn_Model_bitsOf rfl (by decide) (Nat.le_of_ble_eq_true rfl) (Nat.le_of_ble_eq_true rfl) nr_I (fun r16 M17 => ?_)
    exact j_ireturn (pc := 75) d_Model_count_75 rfl
  · refine j_split (fun h1 => ?_) (fun h1 => ?_)
    · refine j_tableIn (tgt := 76) d_Model_count_29 1 h1 (by decide) (by decide) rfl (by decide) ?_
      refine j_iload_n (pc := 76) (q := 2) d_Model_count_76 rfl rfl ?_
      refine j_callS1 (pc := 77) d_Model_count_77 (C_Model_bitsOf n y4 M5) cS_Model_224 cd_Model_bitsOf dn_Model_bitsOf rfl (by decide) (Nat.le_of_ble_eq_true rfl) (Nat.le_of_ble_eq_true rfl) nr_I (fun r12 M13 => ?_)
      exact j_ireturn (pc := 80) d_Model_count_80 rfl
    · refine j_split (fun h2 => ?_) (fun h2 => ?_)
      · refine j_tableIn (tgt := 81) d_Model_count_29 2 h2 (by decide) (by decide) rfl (by decide) ?_
        refine j_aload_n (pc := 81) (q := 0) d_Model_count_81 rfl rfl ?_
        refine j_callV0 (pc := 82) d_Model_count_82 (C_Model_seen n M5) cV_Model_393 cd_Model_seen dn_Model_seen rfl (by decide) (Nat.le_of_ble_eq_true rfl) (Nat.le_of_ble_eq_true rfl) nr_I sm_0 (by decide) rfl (fun r10 M11 => ?_)
        exact j_ireturn (pc := 85) d_Model_count_85 rfl
      · refine j_split (fun h3 => ?_) (fun h3 => ?_)
        · refine j_tableIn (tgt := 86) d_Model_count_29 3 h3 (by decide) (by decide) rfl (by decide) ?_
          refine j_aload_n (pc := 86) (q := 0) d_Model_count_86 rfl rfl ?_
          refine j_getA (pc := 87) d_Model_count_87 fl_Model_13 sm_0 (by decide) rfl ?_
          refine j_iconst (pc := 90) d_Model_count_90 k_i_0 ?_
          refine j_zald (pc := 91) d_Model_count_91 sm_2 (fun _ => ?_)
          refine j_callS1 (pc := 92) d_Model_count_92 (C_Model_flag n (M5.1 2 (0 : Int32).toNatClampNeg) M5) cS_Model_134 cd_Model_flag dn_Model_flag rfl (by decide) (Nat.le_of_ble_eq_true rfl) (Nat.le_of_ble_eq_true rfl) nr_I (fun r6 M7 => ?_)
          refine j_aload_n (pc := 95) (q := 0) d_Model_count_95 rfl rfl ?_
          refine j_getA (pc := 96) d_Model_count_96 fl_Model_13 sm_0 (by decide) rfl ?_
          refine j_iconst (pc := 99) d_Model_count_99 k_i_1 ?_
          refine j_zald (pc := 100) d_Model_count_100 sm_2 (fun _ => ?_)
          refine j_callS1 (pc := 101) d_Model_count_101 (C_Model_flag n (M7.1 2 (1 : Int32).toNatClampNeg) M7) cS_Model_134 cd_Model_flag dn_Model_flag rfl (by decide) (Nat.le_of_ble_eq_true rfl) (Nat.le_of_ble_eq_true rfl) nr_I (fun r8 M9 => ?_)
          refine j_iadd (pc := 104) d_Model_count_104 ?_
          exact j_ireturn (pc := 105) d_Model_count_105 rfl
        · refine j_split (fun h4 => ?_) (fun h4 => ?_)
          · refine j_tableIn (tgt := 106) d_Model_count_29 4 h4 (by decide) (by decide) rfl (by decide) ?_
            refine j_aload_n (pc := 106) (q := 0) d_Model_count_106 rfl rfl ?_
            refine j_getI (pc := 107) d_Model_count_107 fl_Model_138 sm_0 (by decide) rfl ?_
            exact j_ireturn (pc := 110) d_Model_count_110 rfl
          · refine j_split (fun h5 => ?_) (fun h5 => ?_)
            · refine j_tableIn (tgt := 111) d_Model_count_29 5 h5 (by decide) (by decide) rfl (by decide) ?_
              refine j_aload_n (pc := 111) (q := 0) d_Model_count_111 rfl rfl ?_
              refine j_getA (pc := 112) d_Model_count_112 fl_Model_78 sm_0 (by decide) rfl ?_
              refine j_iconst (pc := 115) d_Model_count_115 k_i_0 ?_
              refine j_iald (pc := 116) d_Model_count_116 sm_23 (fun _ => ?_)
              refine j_bipush (pc := 117) d_Model_count_117 k_b_m4 ?_
              refine j_icmp_ne (pc := 119) (tgt := 127) d_Model_count_119 (by decide) (fun _ => ?_) (fun _ => ?_)
              · refine j_aload_n (pc := 127) (q := 0) d_Model_count_127 rfl rfl ?_
                refine j_getA (pc := 128) d_Model_count_128 fl_Model_81 sm_0 (by decide) rfl ?_
                refine j_iconst (pc := 131) d_Model_count_131 k_i_0 ?_
                refine j_iald (pc := 132) d_Model_count_132 sm_24 (fun _ => ?_)
                exact j_ireturn (pc := 133) d_Model_count_133 rfl
              · refine j_bipush (pc := 122) d_Model_count_122 k_b_m4 ?_
                refine j_goto (pc := 124) (tgt := 133) d_Model_count_124 (by decide) ?_
                exact j_ireturn (pc := 133) d_Model_count_133 rfl
            · refine j_tableOut (tgt := 134) d_Model_count_29 ?_ (by decide) ?_
              · have e := sw_out5 h0 h1 h2 h3 h4 h5
                exact Or.imp (fun h => h) (fun h => h) e
              · refine j_iconst (pc := 134) d_Model_count_134 k_i_m1 ?_
                exact j_ireturn (pc := 135) d_Model_count_135 rfl

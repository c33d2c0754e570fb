/-! THE CLASS IS MADE: each constructor's run (written by wip/gen/ctorgen.py) -/
theorem k_s_1206 : (Int16.ofInt 1206).toInt32 = 1206 := by decide
def mtC_ShakeHands : Mc := ("ShakeHands", b_ShakeHands_init, 2, 8)
theorem d_ShakeHands_init_0 : decode b_ShakeHands_init 0 = .ok (.aload_n 0, 1) := by decide +kernel
theorem d_ShakeHands_init_1 : decode b_ShakeHands_init 1 = .ok (.invokespecial 1, 3) := by decide +kernel
theorem d_ShakeHands_init_4 : decode b_ShakeHands_init 4 = .ok (.aload_n 0, 1) := by decide +kernel
theorem d_ShakeHands_init_5 : decode b_ShakeHands_init 5 = .ok (.new 7, 3) := by decide +kernel
theorem d_ShakeHands_init_8 : decode b_ShakeHands_init 8 = .ok (.dup, 1) := by decide +kernel
theorem d_ShakeHands_init_9 : decode b_ShakeHands_init 9 = .ok (.invokespecial 9, 3) := by decide +kernel
theorem d_ShakeHands_init_12 : decode b_ShakeHands_init 12 = .ok (.putfield 10, 3) := by decide +kernel
theorem d_ShakeHands_init_15 : decode b_ShakeHands_init 15 = .ok (.aload_n 0, 1) := by decide +kernel
theorem d_ShakeHands_init_16 : decode b_ShakeHands_init 16 = .ok (.new 16, 3) := by decide +kernel
theorem d_ShakeHands_init_19 : decode b_ShakeHands_init 19 = .ok (.dup, 1) := by decide +kernel
theorem d_ShakeHands_init_20 : decode b_ShakeHands_init 20 = .ok (.aload_n 0, 1) := by decide +kernel
theorem d_ShakeHands_init_21 : decode b_ShakeHands_init 21 = .ok (.getfield 10, 3) := by decide +kernel
theorem d_ShakeHands_init_24 : decode b_ShakeHands_init 24 = .ok (.invokespecial 18, 3) := by decide +kernel
theorem d_ShakeHands_init_27 : decode b_ShakeHands_init 27 = .ok (.putfield 21, 3) := by decide +kernel
theorem d_ShakeHands_init_30 : decode b_ShakeHands_init 30 = .ok (.aload_n 0, 1) := by decide +kernel
theorem d_ShakeHands_init_31 : decode b_ShakeHands_init 31 = .ok (.new 25, 3) := by decide +kernel
theorem d_ShakeHands_init_34 : decode b_ShakeHands_init 34 = .ok (.dup, 1) := by decide +kernel
theorem d_ShakeHands_init_35 : decode b_ShakeHands_init 35 = .ok (.invokespecial 27, 3) := by decide +kernel
theorem d_ShakeHands_init_38 : decode b_ShakeHands_init 38 = .ok (.putfield 28, 3) := by decide +kernel
theorem d_ShakeHands_init_41 : decode b_ShakeHands_init 41 = .ok (.aload_n 0, 1) := by decide +kernel
theorem d_ShakeHands_init_42 : decode b_ShakeHands_init 42 = .ok (.new 32, 3) := by decide +kernel
theorem d_ShakeHands_init_45 : decode b_ShakeHands_init 45 = .ok (.dup, 1) := by decide +kernel
theorem d_ShakeHands_init_46 : decode b_ShakeHands_init 46 = .ok (.invokespecial 34, 3) := by decide +kernel
theorem d_ShakeHands_init_49 : decode b_ShakeHands_init 49 = .ok (.putfield 35, 3) := by decide +kernel
theorem d_ShakeHands_init_52 : decode b_ShakeHands_init 52 = .ok (.aload_n 0, 1) := by decide +kernel
theorem d_ShakeHands_init_53 : decode b_ShakeHands_init 53 = .ok (.iconst 2, 1) := by decide +kernel
theorem d_ShakeHands_init_54 : decode b_ShakeHands_init 54 = .ok (.anewarray 32, 3) := by decide +kernel
theorem d_ShakeHands_init_57 : decode b_ShakeHands_init 57 = .ok (.putfield 39, 3) := by decide +kernel
theorem d_ShakeHands_init_60 : decode b_ShakeHands_init 60 = .ok (.iconst 0, 1) := by decide +kernel
theorem d_ShakeHands_init_61 : decode b_ShakeHands_init 61 = .ok (.istore_n 1, 1) := by decide +kernel
theorem d_ShakeHands_init_62 : decode b_ShakeHands_init 62 = .ok (.iload_n 1, 1) := by decide +kernel
theorem d_ShakeHands_init_63 : decode b_ShakeHands_init 63 = .ok (.iconst 2, 1) := by decide +kernel
theorem d_ShakeHands_init_64 : decode b_ShakeHands_init 64 = .ok (.if_icmp .ge 22, 3) := by decide +kernel
theorem d_ShakeHands_init_67 : decode b_ShakeHands_init 67 = .ok (.aload_n 0, 1) := by decide +kernel
theorem d_ShakeHands_init_68 : decode b_ShakeHands_init 68 = .ok (.getfield 39, 3) := by decide +kernel
theorem d_ShakeHands_init_71 : decode b_ShakeHands_init 71 = .ok (.iload_n 1, 1) := by decide +kernel
theorem d_ShakeHands_init_72 : decode b_ShakeHands_init 72 = .ok (.new 32, 3) := by decide +kernel
theorem d_ShakeHands_init_75 : decode b_ShakeHands_init 75 = .ok (.dup, 1) := by decide +kernel
theorem d_ShakeHands_init_76 : decode b_ShakeHands_init 76 = .ok (.invokespecial 34, 3) := by decide +kernel
theorem d_ShakeHands_init_79 : decode b_ShakeHands_init 79 = .ok (.aastore, 1) := by decide +kernel
theorem d_ShakeHands_init_80 : decode b_ShakeHands_init 80 = .ok (.iinc 1 1, 3) := by decide +kernel
theorem d_ShakeHands_init_83 : decode b_ShakeHands_init 83 = .ok (.goto (-21), 3) := by decide +kernel
theorem d_ShakeHands_init_86 : decode b_ShakeHands_init 86 = .ok (.aload_n 0, 1) := by decide +kernel
theorem d_ShakeHands_init_87 : decode b_ShakeHands_init 87 = .ok (.new 43, 3) := by decide +kernel
theorem d_ShakeHands_init_90 : decode b_ShakeHands_init 90 = .ok (.dup, 1) := by decide +kernel
theorem d_ShakeHands_init_91 : decode b_ShakeHands_init 91 = .ok (.aload_n 0, 1) := by decide +kernel
theorem d_ShakeHands_init_92 : decode b_ShakeHands_init 92 = .ok (.getfield 28, 3) := by decide +kernel
theorem d_ShakeHands_init_95 : decode b_ShakeHands_init 95 = .ok (.aload_n 0, 1) := by decide +kernel
theorem d_ShakeHands_init_96 : decode b_ShakeHands_init 96 = .ok (.getfield 35, 3) := by decide +kernel
theorem d_ShakeHands_init_99 : decode b_ShakeHands_init 99 = .ok (.invokespecial 45, 3) := by decide +kernel
theorem d_ShakeHands_init_102 : decode b_ShakeHands_init 102 = .ok (.putfield 48, 3) := by decide +kernel
theorem d_ShakeHands_init_105 : decode b_ShakeHands_init 105 = .ok (.aload_n 0, 1) := by decide +kernel
theorem d_ShakeHands_init_106 : decode b_ShakeHands_init 106 = .ok (.new 52, 3) := by decide +kernel
theorem d_ShakeHands_init_109 : decode b_ShakeHands_init 109 = .ok (.dup, 1) := by decide +kernel
theorem d_ShakeHands_init_110 : decode b_ShakeHands_init 110 = .ok (.aload_n 0, 1) := by decide +kernel
theorem d_ShakeHands_init_111 : decode b_ShakeHands_init 111 = .ok (.getfield 28, 3) := by decide +kernel
theorem d_ShakeHands_init_114 : decode b_ShakeHands_init 114 = .ok (.aload_n 0, 1) := by decide +kernel
theorem d_ShakeHands_init_115 : decode b_ShakeHands_init 115 = .ok (.getfield 35, 3) := by decide +kernel
theorem d_ShakeHands_init_118 : decode b_ShakeHands_init 118 = .ok (.invokespecial 54, 3) := by decide +kernel
theorem d_ShakeHands_init_121 : decode b_ShakeHands_init 121 = .ok (.putfield 55, 3) := by decide +kernel
theorem d_ShakeHands_init_124 : decode b_ShakeHands_init 124 = .ok (.aload_n 0, 1) := by decide +kernel
theorem d_ShakeHands_init_125 : decode b_ShakeHands_init 125 = .ok (.iconst 4, 1) := by decide +kernel
theorem d_ShakeHands_init_126 : decode b_ShakeHands_init 126 = .ok (.anewarray 59, 3) := by decide +kernel
theorem d_ShakeHands_init_129 : decode b_ShakeHands_init 129 = .ok (.putfield 61, 3) := by decide +kernel
theorem d_ShakeHands_init_132 : decode b_ShakeHands_init 132 = .ok (.iconst 0, 1) := by decide +kernel
theorem d_ShakeHands_init_133 : decode b_ShakeHands_init 133 = .ok (.istore_n 1, 1) := by decide +kernel
theorem d_ShakeHands_init_134 : decode b_ShakeHands_init 134 = .ok (.iload_n 1, 1) := by decide +kernel
theorem d_ShakeHands_init_135 : decode b_ShakeHands_init 135 = .ok (.iconst 4, 1) := by decide +kernel
theorem d_ShakeHands_init_136 : decode b_ShakeHands_init 136 = .ok (.if_icmp .ge 22, 3) := by decide +kernel
theorem d_ShakeHands_init_139 : decode b_ShakeHands_init 139 = .ok (.aload_n 0, 1) := by decide +kernel
theorem d_ShakeHands_init_140 : decode b_ShakeHands_init 140 = .ok (.getfield 61, 3) := by decide +kernel
theorem d_ShakeHands_init_143 : decode b_ShakeHands_init 143 = .ok (.iload_n 1, 1) := by decide +kernel
theorem d_ShakeHands_init_144 : decode b_ShakeHands_init 144 = .ok (.new 59, 3) := by decide +kernel
theorem d_ShakeHands_init_147 : decode b_ShakeHands_init 147 = .ok (.dup, 1) := by decide +kernel
theorem d_ShakeHands_init_148 : decode b_ShakeHands_init 148 = .ok (.invokespecial 65, 3) := by decide +kernel
theorem d_ShakeHands_init_151 : decode b_ShakeHands_init 151 = .ok (.aastore, 1) := by decide +kernel
theorem d_ShakeHands_init_152 : decode b_ShakeHands_init 152 = .ok (.iinc 1 1, 3) := by decide +kernel
theorem d_ShakeHands_init_155 : decode b_ShakeHands_init 155 = .ok (.goto (-21), 3) := by decide +kernel
theorem d_ShakeHands_init_158 : decode b_ShakeHands_init 158 = .ok (.aload_n 0, 1) := by decide +kernel
theorem d_ShakeHands_init_159 : decode b_ShakeHands_init 159 = .ok (.bipush 6, 2) := by decide +kernel
theorem d_ShakeHands_init_161 : decode b_ShakeHands_init 161 = .ok (.newarray .long, 2) := by decide +kernel
theorem d_ShakeHands_init_163 : decode b_ShakeHands_init 163 = .ok (.putfield 66, 3) := by decide +kernel
theorem d_ShakeHands_init_166 : decode b_ShakeHands_init 166 = .ok (.return_, 1) := by decide +kernel
theorem nu_ShakeHands (ad : Nat → Nat) : ∀ j, j < 11 → defaultValue (t_ShakeHands j) = vp_V (([2, 2, 2, 2, 2, 2, 2, 2, 2, 0, 0] : List Nat).mapIdx (fun i kd => fldC ad zM 0 i kd)) j := by
  intro j hj
  match j, hj with
  | 0, _ => exact (vpV_fld (ad := ad) (M := zM) (a := 0) (ds := [2, 2, 2, 2, 2, 2, 2, 2, 2, 0, 0]) (j := 0) (kd := 2) rfl).symm
  | 1, _ => exact (vpV_fld (ad := ad) (M := zM) (a := 0) (ds := [2, 2, 2, 2, 2, 2, 2, 2, 2, 0, 0]) (j := 1) (kd := 2) rfl).symm
  | 2, _ => exact (vpV_fld (ad := ad) (M := zM) (a := 0) (ds := [2, 2, 2, 2, 2, 2, 2, 2, 2, 0, 0]) (j := 2) (kd := 2) rfl).symm
  | 3, _ => exact (vpV_fld (ad := ad) (M := zM) (a := 0) (ds := [2, 2, 2, 2, 2, 2, 2, 2, 2, 0, 0]) (j := 3) (kd := 2) rfl).symm
  | 4, _ => exact (vpV_fld (ad := ad) (M := zM) (a := 0) (ds := [2, 2, 2, 2, 2, 2, 2, 2, 2, 0, 0]) (j := 4) (kd := 2) rfl).symm
  | 5, _ => exact (vpV_fld (ad := ad) (M := zM) (a := 0) (ds := [2, 2, 2, 2, 2, 2, 2, 2, 2, 0, 0]) (j := 5) (kd := 2) rfl).symm
  | 6, _ => exact (vpV_fld (ad := ad) (M := zM) (a := 0) (ds := [2, 2, 2, 2, 2, 2, 2, 2, 2, 0, 0]) (j := 6) (kd := 2) rfl).symm
  | 7, _ => exact (vpV_fld (ad := ad) (M := zM) (a := 0) (ds := [2, 2, 2, 2, 2, 2, 2, 2, 2, 0, 0]) (j := 7) (kd := 2) rfl).symm
  | 8, _ => exact (vpV_fld (ad := ad) (M := zM) (a := 0) (ds := [2, 2, 2, 2, 2, 2, 2, 2, 2, 0, 0]) (j := 8) (kd := 2) rfl).symm
  | 9, _ => exact (vpV_fld (ad := ad) (M := zM) (a := 0) (ds := [2, 2, 2, 2, 2, 2, 2, 2, 2, 0, 0]) (j := 9) (kd := 0) rfl).symm
  | 10, _ => exact (vpV_fld (ad := ad) (M := zM) (a := 0) (ds := [2, 2, 2, 2, 2, 2, 2, 2, 2, 0, 0]) (j := 10) (kd := 0) rfl).symm
  | j + 11, h => exact absurd h (by omega)
def mtC_Tape : Mc := ("ShakeHands$Tape", b_Tape_init, 1, 2)
theorem d_Tape_init_0 : decode b_Tape_init 0 = .ok (.aload_n 0, 1) := by decide +kernel
theorem d_Tape_init_1 : decode b_Tape_init 1 = .ok (.invokespecial 1, 3) := by decide +kernel
theorem d_Tape_init_4 : decode b_Tape_init 4 = .ok (.aload_n 0, 1) := by decide +kernel
theorem d_Tape_init_5 : decode b_Tape_init 5 = .ok (.sipush 320, 3) := by decide +kernel
theorem d_Tape_init_8 : decode b_Tape_init 8 = .ok (.newarray .byte, 2) := by decide +kernel
theorem d_Tape_init_10 : decode b_Tape_init 10 = .ok (.putfield 9, 3) := by decide +kernel
theorem d_Tape_init_13 : decode b_Tape_init 13 = .ok (.return_, 1) := by decide +kernel
theorem nu_Tape (ad : Nat → Nat) : ∀ j, j < 2 → defaultValue (t_Tape j) = vp_V (([2, 0] : List Nat).mapIdx (fun i kd => fldC ad zM 0 i kd)) j := by
  intro j hj
  match j, hj with
  | 0, _ => exact (vpV_fld (ad := ad) (M := zM) (a := 0) (ds := [2, 0]) (j := 0) (kd := 2) rfl).symm
  | 1, _ => exact (vpV_fld (ad := ad) (M := zM) (a := 0) (ds := [2, 0]) (j := 1) (kd := 0) rfl).symm
  | j + 2, h => exact absurd h (by omega)
def mtC_Teller : Mc := ("ShakeHands$Teller", b_Teller_init, 2, 6)
theorem d_Teller_init_0 : decode b_Teller_init 0 = .ok (.aload_n 0, 1) := by decide +kernel
theorem d_Teller_init_1 : decode b_Teller_init 1 = .ok (.invokespecial 3, 3) := by decide +kernel
theorem d_Teller_init_4 : decode b_Teller_init 4 = .ok (.aload_n 0, 1) := by decide +kernel
theorem d_Teller_init_5 : decode b_Teller_init 5 = .ok (.new 9, 3) := by decide +kernel
theorem d_Teller_init_8 : decode b_Teller_init 8 = .ok (.dup, 1) := by decide +kernel
theorem d_Teller_init_9 : decode b_Teller_init 9 = .ok (.invokespecial 11, 3) := by decide +kernel
theorem d_Teller_init_12 : decode b_Teller_init 12 = .ok (.putfield 12, 3) := by decide +kernel
theorem d_Teller_init_15 : decode b_Teller_init 15 = .ok (.aload_n 0, 1) := by decide +kernel
theorem d_Teller_init_16 : decode b_Teller_init 16 = .ok (.bipush 6, 2) := by decide +kernel
theorem d_Teller_init_18 : decode b_Teller_init 18 = .ok (.newarray .long, 2) := by decide +kernel
theorem d_Teller_init_20 : decode b_Teller_init 20 = .ok (.putfield 18, 3) := by decide +kernel
theorem d_Teller_init_23 : decode b_Teller_init 23 = .ok (.aload_n 0, 1) := by decide +kernel
theorem d_Teller_init_24 : decode b_Teller_init 24 = .ok (.new 22, 3) := by decide +kernel
theorem d_Teller_init_27 : decode b_Teller_init 27 = .ok (.dup, 1) := by decide +kernel
theorem d_Teller_init_28 : decode b_Teller_init 28 = .ok (.invokespecial 24, 3) := by decide +kernel
theorem d_Teller_init_31 : decode b_Teller_init 31 = .ok (.putfield 25, 3) := by decide +kernel
theorem d_Teller_init_34 : decode b_Teller_init 34 = .ok (.aload_n 0, 1) := by decide +kernel
theorem d_Teller_init_35 : decode b_Teller_init 35 = .ok (.aload_n 1, 1) := by decide +kernel
theorem d_Teller_init_36 : decode b_Teller_init 36 = .ok (.putfield 29, 3) := by decide +kernel
theorem d_Teller_init_39 : decode b_Teller_init 39 = .ok (.return_, 1) := by decide +kernel
theorem nu_Teller (ad : Nat → Nat) : ∀ j, j < 15 → defaultValue (t_Teller j) = vp_V (([2, 2, 0, 0, 2, 2, 0, 0, 0, 0, 0, 0, 0, 0, 0] : List Nat).mapIdx (fun i kd => fldC ad zM 0 i kd)) j := by
  intro j hj
  match j, hj with
  | 0, _ => exact (vpV_fld (ad := ad) (M := zM) (a := 0) (ds := [2, 2, 0, 0, 2, 2, 0, 0, 0, 0, 0, 0, 0, 0, 0]) (j := 0) (kd := 2) rfl).symm
  | 1, _ => exact (vpV_fld (ad := ad) (M := zM) (a := 0) (ds := [2, 2, 0, 0, 2, 2, 0, 0, 0, 0, 0, 0, 0, 0, 0]) (j := 1) (kd := 2) rfl).symm
  | 2, _ => exact (vpV_fld (ad := ad) (M := zM) (a := 0) (ds := [2, 2, 0, 0, 2, 2, 0, 0, 0, 0, 0, 0, 0, 0, 0]) (j := 2) (kd := 0) rfl).symm
  | 3, _ => exact (vpV_fld (ad := ad) (M := zM) (a := 0) (ds := [2, 2, 0, 0, 2, 2, 0, 0, 0, 0, 0, 0, 0, 0, 0]) (j := 3) (kd := 0) rfl).symm
  | 4, _ => exact (vpV_fld (ad := ad) (M := zM) (a := 0) (ds := [2, 2, 0, 0, 2, 2, 0, 0, 0, 0, 0, 0, 0, 0, 0]) (j := 4) (kd := 2) rfl).symm
  | 5, _ => exact (vpV_fld (ad := ad) (M := zM) (a := 0) (ds := [2, 2, 0, 0, 2, 2, 0, 0, 0, 0, 0, 0, 0, 0, 0]) (j := 5) (kd := 2) rfl).symm
  | 6, _ => exact (vpV_fld (ad := ad) (M := zM) (a := 0) (ds := [2, 2, 0, 0, 2, 2, 0, 0, 0, 0, 0, 0, 0, 0, 0]) (j := 6) (kd := 0) rfl).symm
  | 7, _ => exact (vpV_fld (ad := ad) (M := zM) (a := 0) (ds := [2, 2, 0, 0, 2, 2, 0, 0, 0, 0, 0, 0, 0, 0, 0]) (j := 7) (kd := 0) rfl).symm
  | 8, _ => exact (vpV_fld (ad := ad) (M := zM) (a := 0) (ds := [2, 2, 0, 0, 2, 2, 0, 0, 0, 0, 0, 0, 0, 0, 0]) (j := 8) (kd := 0) rfl).symm
  | 9, _ => exact (vpV_fld (ad := ad) (M := zM) (a := 0) (ds := [2, 2, 0, 0, 2, 2, 0, 0, 0, 0, 0, 0, 0, 0, 0]) (j := 9) (kd := 0) rfl).symm
  | 10, _ => exact (vpV_fld (ad := ad) (M := zM) (a := 0) (ds := [2, 2, 0, 0, 2, 2, 0, 0, 0, 0, 0, 0, 0, 0, 0]) (j := 10) (kd := 0) rfl).symm
  | 11, _ => exact (vpV_fld (ad := ad) (M := zM) (a := 0) (ds := [2, 2, 0, 0, 2, 2, 0, 0, 0, 0, 0, 0, 0, 0, 0]) (j := 11) (kd := 0) rfl).symm
  | 12, _ => exact (vpV_fld (ad := ad) (M := zM) (a := 0) (ds := [2, 2, 0, 0, 2, 2, 0, 0, 0, 0, 0, 0, 0, 0, 0]) (j := 12) (kd := 0) rfl).symm
  | 13, _ => exact (vpV_fld (ad := ad) (M := zM) (a := 0) (ds := [2, 2, 0, 0, 2, 2, 0, 0, 0, 0, 0, 0, 0, 0, 0]) (j := 13) (kd := 0) rfl).symm
  | 14, _ => exact (vpV_fld (ad := ad) (M := zM) (a := 0) (ds := [2, 2, 0, 0, 2, 2, 0, 0, 0, 0, 0, 0, 0, 0, 0]) (j := 14) (kd := 0) rfl).symm
  | j + 15, h => exact absurd h (by omega)
def mtC_Circle : Mc := ("ShakeHands$Circle", b_Circle_init, 1, 4)
theorem d_Circle_init_0 : decode b_Circle_init 0 = .ok (.aload_n 0, 1) := by decide +kernel
theorem d_Circle_init_1 : decode b_Circle_init 1 = .ok (.invokespecial 5, 3) := by decide +kernel
theorem d_Circle_init_4 : decode b_Circle_init 4 = .ok (.aload_n 0, 1) := by decide +kernel
theorem d_Circle_init_5 : decode b_Circle_init 5 = .ok (.iconst 3, 1) := by decide +kernel
theorem d_Circle_init_6 : decode b_Circle_init 6 = .ok (.putfield 13, 3) := by decide +kernel
theorem d_Circle_init_9 : decode b_Circle_init 9 = .ok (.aload_n 0, 1) := by decide +kernel
theorem d_Circle_init_10 : decode b_Circle_init 10 = .ok (.bipush 9, 2) := by decide +kernel
theorem d_Circle_init_12 : decode b_Circle_init 12 = .ok (.putfield 17, 3) := by decide +kernel
theorem d_Circle_init_15 : decode b_Circle_init 15 = .ok (.aload_n 0, 1) := by decide +kernel
theorem d_Circle_init_16 : decode b_Circle_init 16 = .ok (.bipush 12, 2) := by decide +kernel
theorem d_Circle_init_18 : decode b_Circle_init 18 = .ok (.newarray .int, 2) := by decide +kernel
theorem d_Circle_init_20 : decode b_Circle_init 20 = .ok (.putfield 20, 3) := by decide +kernel
theorem d_Circle_init_23 : decode b_Circle_init 23 = .ok (.aload_n 0, 1) := by decide +kernel
theorem d_Circle_init_24 : decode b_Circle_init 24 = .ok (.bipush 16, 2) := by decide +kernel
theorem d_Circle_init_26 : decode b_Circle_init 26 = .ok (.newarray .int, 2) := by decide +kernel
theorem d_Circle_init_28 : decode b_Circle_init 28 = .ok (.putfield 24, 3) := by decide +kernel
theorem d_Circle_init_31 : decode b_Circle_init 31 = .ok (.aload_n 0, 1) := by decide +kernel
theorem d_Circle_init_32 : decode b_Circle_init 32 = .ok (.bipush 8, 2) := by decide +kernel
theorem d_Circle_init_34 : decode b_Circle_init 34 = .ok (.newarray .int, 2) := by decide +kernel
theorem d_Circle_init_36 : decode b_Circle_init 36 = .ok (.putfield 27, 3) := by decide +kernel
theorem d_Circle_init_39 : decode b_Circle_init 39 = .ok (.aload_n 0, 1) := by decide +kernel
theorem d_Circle_init_40 : decode b_Circle_init 40 = .ok (.new 1, 3) := by decide +kernel
theorem d_Circle_init_43 : decode b_Circle_init 43 = .ok (.dup, 1) := by decide +kernel
theorem d_Circle_init_44 : decode b_Circle_init 44 = .ok (.invokespecial 30, 3) := by decide +kernel
theorem d_Circle_init_47 : decode b_Circle_init 47 = .ok (.putfield 31, 3) := by decide +kernel
theorem d_Circle_init_50 : decode b_Circle_init 50 = .ok (.return_, 1) := by decide +kernel
theorem nu_Circle (ad : Nat → Nat) : ∀ j, j < 9 → defaultValue (t_Circle j) = vp_V (([0, 0, 2, 0, 2, 0, 2, 0, 2] : List Nat).mapIdx (fun i kd => fldC ad zM 0 i kd)) j := by
  intro j hj
  match j, hj with
  | 0, _ => exact (vpV_fld (ad := ad) (M := zM) (a := 0) (ds := [0, 0, 2, 0, 2, 0, 2, 0, 2]) (j := 0) (kd := 0) rfl).symm
  | 1, _ => exact (vpV_fld (ad := ad) (M := zM) (a := 0) (ds := [0, 0, 2, 0, 2, 0, 2, 0, 2]) (j := 1) (kd := 0) rfl).symm
  | 2, _ => exact (vpV_fld (ad := ad) (M := zM) (a := 0) (ds := [0, 0, 2, 0, 2, 0, 2, 0, 2]) (j := 2) (kd := 2) rfl).symm
  | 3, _ => exact (vpV_fld (ad := ad) (M := zM) (a := 0) (ds := [0, 0, 2, 0, 2, 0, 2, 0, 2]) (j := 3) (kd := 0) rfl).symm
  | 4, _ => exact (vpV_fld (ad := ad) (M := zM) (a := 0) (ds := [0, 0, 2, 0, 2, 0, 2, 0, 2]) (j := 4) (kd := 2) rfl).symm
  | 5, _ => exact (vpV_fld (ad := ad) (M := zM) (a := 0) (ds := [0, 0, 2, 0, 2, 0, 2, 0, 2]) (j := 5) (kd := 0) rfl).symm
  | 6, _ => exact (vpV_fld (ad := ad) (M := zM) (a := 0) (ds := [0, 0, 2, 0, 2, 0, 2, 0, 2]) (j := 6) (kd := 2) rfl).symm
  | 7, _ => exact (vpV_fld (ad := ad) (M := zM) (a := 0) (ds := [0, 0, 2, 0, 2, 0, 2, 0, 2]) (j := 7) (kd := 0) rfl).symm
  | 8, _ => exact (vpV_fld (ad := ad) (M := zM) (a := 0) (ds := [0, 0, 2, 0, 2, 0, 2, 0, 2]) (j := 8) (kd := 2) rfl).symm
  | j + 9, h => exact absurd h (by omega)
def mtC_Row : Mc := ("ShakeHands$Row", b_Row_init, 1, 2)
theorem d_Row_init_0 : decode b_Row_init 0 = .ok (.aload_n 0, 1) := by decide +kernel
theorem d_Row_init_1 : decode b_Row_init 1 = .ok (.invokespecial 3, 3) := by decide +kernel
theorem d_Row_init_4 : decode b_Row_init 4 = .ok (.return_, 1) := by decide +kernel
theorem nu_Row (ad : Nat → Nat) : ∀ j, j < 2 → defaultValue (t_Row j) = vp_V (([1, 0] : List Nat).mapIdx (fun i kd => fldC ad zM 0 i kd)) j := by
  intro j hj
  match j, hj with
  | 0, _ => exact (vpV_fld (ad := ad) (M := zM) (a := 0) (ds := [1, 0]) (j := 0) (kd := 1) rfl).symm
  | 1, _ => exact (vpV_fld (ad := ad) (M := zM) (a := 0) (ds := [1, 0]) (j := 1) (kd := 0) rfl).symm
  | j + 2, h => exact absurd h (by omega)
def mtC_Minds : Mc := ("ShakeHands$Minds", b_Minds_init, 1, 2)
theorem d_Minds_init_0 : decode b_Minds_init 0 = .ok (.aload_n 0, 1) := by decide +kernel
theorem d_Minds_init_1 : decode b_Minds_init 1 = .ok (.invokespecial 3, 3) := by decide +kernel
theorem d_Minds_init_4 : decode b_Minds_init 4 = .ok (.aload_n 0, 1) := by decide +kernel
theorem d_Minds_init_5 : decode b_Minds_init 5 = .ok (.bipush 6, 2) := by decide +kernel
theorem d_Minds_init_7 : decode b_Minds_init 7 = .ok (.newarray .long, 2) := by decide +kernel
theorem d_Minds_init_9 : decode b_Minds_init 9 = .ok (.putfield 9, 3) := by decide +kernel
theorem d_Minds_init_12 : decode b_Minds_init 12 = .ok (.aload_n 0, 1) := by decide +kernel
theorem d_Minds_init_13 : decode b_Minds_init 13 = .ok (.bipush 6, 2) := by decide +kernel
theorem d_Minds_init_15 : decode b_Minds_init 15 = .ok (.newarray .int, 2) := by decide +kernel
theorem d_Minds_init_17 : decode b_Minds_init 17 = .ok (.putfield 15, 3) := by decide +kernel
theorem d_Minds_init_20 : decode b_Minds_init 20 = .ok (.return_, 1) := by decide +kernel
theorem nu_Minds (ad : Nat → Nat) : ∀ j, j < 4 → defaultValue (t_Minds j) = vp_V (([2, 0, 0, 2] : List Nat).mapIdx (fun i kd => fldC ad zM 0 i kd)) j := by
  intro j hj
  match j, hj with
  | 0, _ => exact (vpV_fld (ad := ad) (M := zM) (a := 0) (ds := [2, 0, 0, 2]) (j := 0) (kd := 2) rfl).symm
  | 1, _ => exact (vpV_fld (ad := ad) (M := zM) (a := 0) (ds := [2, 0, 0, 2]) (j := 1) (kd := 0) rfl).symm
  | 2, _ => exact (vpV_fld (ad := ad) (M := zM) (a := 0) (ds := [2, 0, 0, 2]) (j := 2) (kd := 0) rfl).symm
  | 3, _ => exact (vpV_fld (ad := ad) (M := zM) (a := 0) (ds := [2, 0, 0, 2]) (j := 3) (kd := 2) rfl).symm
  | j + 4, h => exact absurd h (by omega)
def mtC_Search : Mc := ("ShakeHands$Search", b_Search_init, 3, 2)
theorem d_Search_init_0 : decode b_Search_init 0 = .ok (.aload_n 0, 1) := by decide +kernel
theorem d_Search_init_1 : decode b_Search_init 1 = .ok (.invokespecial 3, 3) := by decide +kernel
theorem d_Search_init_4 : decode b_Search_init 4 = .ok (.aload_n 0, 1) := by decide +kernel
theorem d_Search_init_5 : decode b_Search_init 5 = .ok (.bipush 6, 2) := by decide +kernel
theorem d_Search_init_7 : decode b_Search_init 7 = .ok (.newarray .int, 2) := by decide +kernel
theorem d_Search_init_9 : decode b_Search_init 9 = .ok (.putfield 11, 3) := by decide +kernel
theorem d_Search_init_12 : decode b_Search_init 12 = .ok (.aload_n 0, 1) := by decide +kernel
theorem d_Search_init_13 : decode b_Search_init 13 = .ok (.bipush 6, 2) := by decide +kernel
theorem d_Search_init_15 : decode b_Search_init 15 = .ok (.newarray .int, 2) := by decide +kernel
theorem d_Search_init_17 : decode b_Search_init 17 = .ok (.putfield 15, 3) := by decide +kernel
theorem d_Search_init_20 : decode b_Search_init 20 = .ok (.aload_n 0, 1) := by decide +kernel
theorem d_Search_init_21 : decode b_Search_init 21 = .ok (.bipush 7, 2) := by decide +kernel
theorem d_Search_init_23 : decode b_Search_init 23 = .ok (.bipush 6, 2) := by decide +kernel
theorem d_Search_init_25 : decode b_Search_init 25 = .ok (.multianewarray 18 2, 4) := by decide +kernel
theorem d_Search_init_29 : decode b_Search_init 29 = .ok (.putfield 20, 3) := by decide +kernel
theorem d_Search_init_32 : decode b_Search_init 32 = .ok (.aload_n 0, 1) := by decide +kernel
theorem d_Search_init_33 : decode b_Search_init 33 = .ok (.aload_n 1, 1) := by decide +kernel
theorem d_Search_init_34 : decode b_Search_init 34 = .ok (.putfield 23, 3) := by decide +kernel
theorem d_Search_init_37 : decode b_Search_init 37 = .ok (.aload_n 0, 1) := by decide +kernel
theorem d_Search_init_38 : decode b_Search_init 38 = .ok (.aload_n 2, 1) := by decide +kernel
theorem d_Search_init_39 : decode b_Search_init 39 = .ok (.putfield 27, 3) := by decide +kernel
theorem d_Search_init_42 : decode b_Search_init 42 = .ok (.return_, 1) := by decide +kernel
theorem nu_Search (ad : Nat → Nat) : ∀ j, j < 13 → defaultValue (t_Search j) = vp_V (([2, 2, 0, 0, 0, 2, 2, 2, 0, 0, 0, 0, 0] : List Nat).mapIdx (fun i kd => fldC ad zM 0 i kd)) j := by
  intro j hj
  match j, hj with
  | 0, _ => exact (vpV_fld (ad := ad) (M := zM) (a := 0) (ds := [2, 2, 0, 0, 0, 2, 2, 2, 0, 0, 0, 0, 0]) (j := 0) (kd := 2) rfl).symm
  | 1, _ => exact (vpV_fld (ad := ad) (M := zM) (a := 0) (ds := [2, 2, 0, 0, 0, 2, 2, 2, 0, 0, 0, 0, 0]) (j := 1) (kd := 2) rfl).symm
  | 2, _ => exact (vpV_fld (ad := ad) (M := zM) (a := 0) (ds := [2, 2, 0, 0, 0, 2, 2, 2, 0, 0, 0, 0, 0]) (j := 2) (kd := 0) rfl).symm
  | 3, _ => exact (vpV_fld (ad := ad) (M := zM) (a := 0) (ds := [2, 2, 0, 0, 0, 2, 2, 2, 0, 0, 0, 0, 0]) (j := 3) (kd := 0) rfl).symm
  | 4, _ => exact (vpV_fld (ad := ad) (M := zM) (a := 0) (ds := [2, 2, 0, 0, 0, 2, 2, 2, 0, 0, 0, 0, 0]) (j := 4) (kd := 0) rfl).symm
  | 5, _ => exact (vpV_fld (ad := ad) (M := zM) (a := 0) (ds := [2, 2, 0, 0, 0, 2, 2, 2, 0, 0, 0, 0, 0]) (j := 5) (kd := 2) rfl).symm
  | 6, _ => exact (vpV_fld (ad := ad) (M := zM) (a := 0) (ds := [2, 2, 0, 0, 0, 2, 2, 2, 0, 0, 0, 0, 0]) (j := 6) (kd := 2) rfl).symm
  | 7, _ => exact (vpV_fld (ad := ad) (M := zM) (a := 0) (ds := [2, 2, 0, 0, 0, 2, 2, 2, 0, 0, 0, 0, 0]) (j := 7) (kd := 2) rfl).symm
  | 8, _ => exact (vpV_fld (ad := ad) (M := zM) (a := 0) (ds := [2, 2, 0, 0, 0, 2, 2, 2, 0, 0, 0, 0, 0]) (j := 8) (kd := 0) rfl).symm
  | 9, _ => exact (vpV_fld (ad := ad) (M := zM) (a := 0) (ds := [2, 2, 0, 0, 0, 2, 2, 2, 0, 0, 0, 0, 0]) (j := 9) (kd := 0) rfl).symm
  | 10, _ => exact (vpV_fld (ad := ad) (M := zM) (a := 0) (ds := [2, 2, 0, 0, 0, 2, 2, 2, 0, 0, 0, 0, 0]) (j := 10) (kd := 0) rfl).symm
  | 11, _ => exact (vpV_fld (ad := ad) (M := zM) (a := 0) (ds := [2, 2, 0, 0, 0, 2, 2, 2, 0, 0, 0, 0, 0]) (j := 11) (kd := 0) rfl).symm
  | 12, _ => exact (vpV_fld (ad := ad) (M := zM) (a := 0) (ds := [2, 2, 0, 0, 0, 2, 2, 2, 0, 0, 0, 0, 0]) (j := 12) (kd := 0) rfl).symm
  | j + 13, h => exact absurd h (by omega)
def mtC_Habit : Mc := ("ShakeHands$Habit", b_Habit_init, 3, 2)
theorem d_Habit_init_0 : decode b_Habit_init 0 = .ok (.aload_n 0, 1) := by decide +kernel
theorem d_Habit_init_1 : decode b_Habit_init 1 = .ok (.invokespecial 3, 3) := by decide +kernel
theorem d_Habit_init_4 : decode b_Habit_init 4 = .ok (.aload_n 0, 1) := by decide +kernel
theorem d_Habit_init_5 : decode b_Habit_init 5 = .ok (.sipush 1206, 3) := by decide +kernel
theorem d_Habit_init_8 : decode b_Habit_init 8 = .ok (.newarray .long, 2) := by decide +kernel
theorem d_Habit_init_10 : decode b_Habit_init 10 = .ok (.putfield 11, 3) := by decide +kernel
theorem d_Habit_init_13 : decode b_Habit_init 13 = .ok (.aload_n 0, 1) := by decide +kernel
theorem d_Habit_init_14 : decode b_Habit_init 14 = .ok (.bipush 6, 2) := by decide +kernel
theorem d_Habit_init_16 : decode b_Habit_init 16 = .ok (.newarray .long, 2) := by decide +kernel
theorem d_Habit_init_18 : decode b_Habit_init 18 = .ok (.putfield 15, 3) := by decide +kernel
theorem d_Habit_init_21 : decode b_Habit_init 21 = .ok (.aload_n 0, 1) := by decide +kernel
theorem d_Habit_init_22 : decode b_Habit_init 22 = .ok (.aload_n 1, 1) := by decide +kernel
theorem d_Habit_init_23 : decode b_Habit_init 23 = .ok (.putfield 18, 3) := by decide +kernel
theorem d_Habit_init_26 : decode b_Habit_init 26 = .ok (.aload_n 0, 1) := by decide +kernel
theorem d_Habit_init_27 : decode b_Habit_init 27 = .ok (.aload_n 2, 1) := by decide +kernel
theorem d_Habit_init_28 : decode b_Habit_init 28 = .ok (.putfield 22, 3) := by decide +kernel
theorem d_Habit_init_31 : decode b_Habit_init 31 = .ok (.return_, 1) := by decide +kernel
theorem nu_Habit (ad : Nat → Nat) : ∀ j, j < 4 → defaultValue (t_Habit j) = vp_V (([2, 2, 2, 2] : List Nat).mapIdx (fun i kd => fldC ad zM 0 i kd)) j := by
  intro j hj
  match j, hj with
  | 0, _ => exact (vpV_fld (ad := ad) (M := zM) (a := 0) (ds := [2, 2, 2, 2]) (j := 0) (kd := 2) rfl).symm
  | 1, _ => exact (vpV_fld (ad := ad) (M := zM) (a := 0) (ds := [2, 2, 2, 2]) (j := 1) (kd := 2) rfl).symm
  | 2, _ => exact (vpV_fld (ad := ad) (M := zM) (a := 0) (ds := [2, 2, 2, 2]) (j := 2) (kd := 2) rfl).symm
  | 3, _ => exact (vpV_fld (ad := ad) (M := zM) (a := 0) (ds := [2, 2, 2, 2]) (j := 3) (kd := 2) rfl).symm
  | j + 4, h => exact absurd h (by omega)
def mtC_Sheet : Mc := ("ShakeHands$Sheet", b_Sheet_init, 1, 2)
theorem d_Sheet_init_0 : decode b_Sheet_init 0 = .ok (.aload_n 0, 1) := by decide +kernel
theorem d_Sheet_init_1 : decode b_Sheet_init 1 = .ok (.invokespecial 1, 3) := by decide +kernel
theorem d_Sheet_init_4 : decode b_Sheet_init 4 = .ok (.aload_n 0, 1) := by decide +kernel
theorem d_Sheet_init_5 : decode b_Sheet_init 5 = .ok (.bipush 40, 2) := by decide +kernel
theorem d_Sheet_init_7 : decode b_Sheet_init 7 = .ok (.newarray .int, 2) := by decide +kernel
theorem d_Sheet_init_9 : decode b_Sheet_init 9 = .ok (.putfield 9, 3) := by decide +kernel
theorem d_Sheet_init_12 : decode b_Sheet_init 12 = .ok (.return_, 1) := by decide +kernel
theorem nu_Sheet (ad : Nat → Nat) : ∀ j, j < 4 → defaultValue (t_Sheet j) = vp_V (([0, 0, 0, 2] : List Nat).mapIdx (fun i kd => fldC ad zM 0 i kd)) j := by
  intro j hj
  match j, hj with
  | 0, _ => exact (vpV_fld (ad := ad) (M := zM) (a := 0) (ds := [0, 0, 0, 2]) (j := 0) (kd := 0) rfl).symm
  | 1, _ => exact (vpV_fld (ad := ad) (M := zM) (a := 0) (ds := [0, 0, 0, 2]) (j := 1) (kd := 0) rfl).symm
  | 2, _ => exact (vpV_fld (ad := ad) (M := zM) (a := 0) (ds := [0, 0, 0, 2]) (j := 2) (kd := 0) rfl).symm
  | 3, _ => exact (vpV_fld (ad := ad) (M := zM) (a := 0) (ds := [0, 0, 0, 2]) (j := 3) (kd := 2) rfl).symm
  | j + 4, h => exact absurd h (by omega)
theorem oi_ShakeHands_1 : Cond.methodLink "ShakeHands" 1 objectInit ∈ tbl := tb_1 23 (by decide +kernel) rfl
theorem oi_Circle_5 : Cond.methodLink "ShakeHands$Circle" 5 objectInit ∈ tbl := tb_1 54 (by decide +kernel) rfl
theorem oi_Habit_3 : Cond.methodLink "ShakeHands$Habit" 3 objectInit ∈ tbl := tb_2 19 (by decide +kernel) rfl
theorem oi_Minds_3 : Cond.methodLink "ShakeHands$Minds" 3 objectInit ∈ tbl := tb_1 176 (by decide +kernel) rfl
theorem oi_Row_3 : Cond.methodLink "ShakeHands$Row" 3 objectInit ∈ tbl := tb_1 60 (by decide +kernel) rfl
theorem oi_Search_3 : Cond.methodLink "ShakeHands$Search" 3 objectInit ∈ tbl := tb_1 206 (by decide +kernel) rfl
theorem oi_Sheet_1 : Cond.methodLink "ShakeHands$Sheet" 1 objectInit ∈ tbl := tb_2 39 (by decide +kernel) rfl
theorem oi_Tape_1 : Cond.methodLink "ShakeHands$Tape" 1 objectInit ∈ tbl := tb_1 31 (by decide +kernel) rfl
theorem oi_Teller_3 : Cond.methodLink "ShakeHands$Teller" 3 objectInit ∈ tbl := tb_1 48 (by decide +kernel) rfl
theorem cwl_ShakeHands_7 : Cond.classLink "ShakeHands" 7 "ShakeHands$Tape" ∈ tbl := tb_1 26 (by decide +kernel) rfl
theorem cwl_ShakeHands_16 : Cond.classLink "ShakeHands" 16 "ShakeHands$Teller" ∈ tbl := tb_1 43 (by decide +kernel) rfl
theorem cwl_ShakeHands_25 : Cond.classLink "ShakeHands" 25 "ShakeHands$Circle" ∈ tbl := tb_1 169 (by decide +kernel) rfl
theorem cwl_ShakeHands_32 : Cond.classLink "ShakeHands" 32 "ShakeHands$Minds" ∈ tbl := tb_1 171 (by decide +kernel) rfl
theorem cwl_ShakeHands_43 : Cond.classLink "ShakeHands" 43 "ShakeHands$Search" ∈ tbl := tb_1 201 (by decide +kernel) rfl
theorem cwl_ShakeHands_52 : Cond.classLink "ShakeHands" 52 "ShakeHands$Habit" ∈ tbl := tb_2 14 (by decide +kernel) rfl
theorem cwl_ShakeHands_59 : Cond.classLink "ShakeHands" 59 "ShakeHands$Sheet" ∈ tbl := tb_2 33 (by decide +kernel) rfl
theorem cwl_Circle_1 : Cond.classLink "ShakeHands$Circle" 1 "ShakeHands$Row" ∈ tbl := tb_1 55 (by decide +kernel) rfl
theorem cwl_Search_18 : Cond.classLink "ShakeHands$Search" 18 "[[J" ∈ tbl := tb_1 207 (by decide +kernel) rfl
theorem cwl_Teller_9 : Cond.classLink "ShakeHands$Teller" 9 "ShakeHands$Circle" ∈ tbl := tb_1 49 (by decide +kernel) rfl
theorem cwl_Teller_22 : Cond.classLink "ShakeHands$Teller" 22 "ShakeHands$Row" ∈ tbl := tb_1 116 (by decide +kernel) rfl
theorem ac_byte : Cond.arrayClass .byte ∈ tbl := tb_1 42 (by decide +kernel) rfl
theorem ac_int : Cond.arrayClass .int ∈ tbl := tb_1 70 (by decide +kernel) rfl
theorem ac_long : Cond.arrayClass .long ∈ tbl := tb_1 168 (by decide +kernel) rfl
theorem cN_ShakeHands_9 : ("ShakeHands", 9, y_Tape_init) ∈ nestI := by decide +kernel
theorem cI_ShakeHands_18 : Cond.methodLink "ShakeHands" 18 y_Teller_init ∈ tbl := tb_1 45 (by decide +kernel) rfl
theorem cN_ShakeHands_27 : ("ShakeHands", 27, y_Circle_init) ∈ nestI := by decide +kernel
theorem cN_ShakeHands_34 : ("ShakeHands", 34, y_Minds_init) ∈ nestI := by decide +kernel
theorem cI_ShakeHands_45 : Cond.methodLink "ShakeHands" 45 y_Search_init ∈ tbl := tb_1 203 (by decide +kernel) rfl
theorem cI_ShakeHands_54 : Cond.methodLink "ShakeHands" 54 y_Habit_init ∈ tbl := tb_2 16 (by decide +kernel) rfl
theorem cN_ShakeHands_65 : ("ShakeHands", 65, y_Sheet_init) ∈ nestI := by decide +kernel
theorem cN_Circle_30 : ("ShakeHands$Circle", 30, y_Row_init) ∈ nestI := by decide +kernel
theorem cN_Teller_11 : ("ShakeHands$Teller", 11, y_Circle_init) ∈ nestI := by decide +kernel
theorem cN_Teller_24 : ("ShakeHands$Teller", 24, y_Row_init) ∈ nestI := by decide +kernel
theorem dn_Circle_init : Dn y_Circle_init 0 := ⟨by decide +kernel, by decide +kernel, by decide +kernel⟩
theorem dn_Habit_init : Dn y_Habit_init 2 := ⟨by decide +kernel, by decide +kernel, by decide +kernel⟩
theorem dn_Minds_init : Dn y_Minds_init 0 := ⟨by decide +kernel, by decide +kernel, by decide +kernel⟩
theorem dn_Row_init : Dn y_Row_init 0 := ⟨by decide +kernel, by decide +kernel, by decide +kernel⟩
theorem dn_Search_init : Dn y_Search_init 2 := ⟨by decide +kernel, by decide +kernel, by decide +kernel⟩
theorem dn_Sheet_init : Dn y_Sheet_init 0 := ⟨by decide +kernel, by decide +kernel, by decide +kernel⟩
theorem dn_Tape_init : Dn y_Tape_init 0 := ⟨by decide +kernel, by decide +kernel, by decide +kernel⟩
theorem dn_Teller_init : Dn y_Teller_init 1 := ⟨by decide +kernel, by decide +kernel, by decide +kernel⟩
set_option maxRecDepth 20000 in
set_option maxHeartbeats 4000000 in
theorem CC_1 : CtC y_Tape_init mtC_Tape [Value.ref 1] [(8, [2, 2, 2, 2, 2, 2, 2, 2, 2, 0, 0]), (6, [2, 0])] (zM) (PC [(8, [2, 2, 2, 2, 2, 2, 2, 2, 2, 0, 0]), (6, [5, 0]), (101, [320])] (zM)) 1 320 := by
  refine ctc_of (by decide +kernel) rfl rfl (Nat.le_of_ble_eq_true rfl) ?_
  refine c_aload_n (pc := 0) (q := 0) d_Tape_init_0 rfl rfl ?_
  refine c_objInit (pc := 1) d_Tape_init_1 oi_Tape_1 (Nat.le_of_ble_eq_true rfl) (Nat.le_of_ble_eq_true rfl) ?_
  refine c_aload_n (pc := 4) (q := 0) d_Tape_init_4 rfl rfl ?_
  refine c_sipush (pc := 5) d_Tape_init_5 k_s_320 ?_
  refine c_newaB (pc := 8) (N := 320) (sh8 := [(8, [2, 2, 2, 2, 2, 2, 2, 2, 2, 0, 0]), (6, [2, 0]), (101, [320])]) (a9 := 2) d_Tape_init_8 (by decide) (by decide) ac_byte (Nat.le_of_ble_eq_true rfl) ⟨by funext y; simp [si, zM], by funext y; simp [si, zM]⟩ (Nat.le_of_ble_eq_true rfl) (Nat.le_of_ble_eq_true rfl) (Nat.le_of_ble_eq_true rfl) rfl rfl ?_
  refine c_putR (pc := 10) (sh8 := [(8, [2, 2, 2, 2, 2, 2, 2, 2, 2, 0, 0]), (6, [5, 0]), (101, [320])]) d_Tape_init_10 fl_Tape_9 rfl rfl (by decide) (by decide) (Nat.le_of_ble_eq_true rfl) (fun C T N h => by cases h; rfl) rfl ?_
  exact c_return (pc := 13) d_Tape_init_13 (Nat.le_of_ble_eq_true rfl) (Nat.le_of_ble_eq_true rfl) rfl rfl
set_option maxRecDepth 20000 in
set_option maxHeartbeats 4000000 in
theorem CC_2 : CtC y_Row_init mtC_Row [Value.ref 8] [(8, [4, 2, 2, 2, 2, 2, 2, 2, 2, 0, 0]), (6, [5, 0]), (101, [320]), (7, [2, 2, 0, 0, 2, 2, 0, 0, 0, 0, 0, 0, 0, 0, 0]), (0, [0, 0, 8, 0, 9, 0, 10, 0, 2]), (100, [12]), (100, [16]), (100, [8]), (3, [1, 0])] (si (si zM 4 0 3) 4 1 9) (PC [(8, [4, 2, 2, 2, 2, 2, 2, 2, 2, 0, 0]), (6, [5, 0]), (101, [320]), (7, [2, 2, 0, 0, 2, 2, 0, 0, 0, 0, 0, 0, 0, 0, 0]), (0, [0, 0, 8, 0, 9, 0, 10, 0, 2]), (100, [12]), (100, [16]), (100, [8]), (3, [1, 0])] (si (si zM 4 0 3) 4 1 9)) 0 0 := by
  refine ctc_of (by decide +kernel) rfl rfl (Nat.le_of_ble_eq_true rfl) ?_
  refine c_aload_n (pc := 0) (q := 0) d_Row_init_0 rfl rfl ?_
  refine c_objInit (pc := 1) d_Row_init_1 oi_Row_3 (Nat.le_of_ble_eq_true rfl) (Nat.le_of_ble_eq_true rfl) ?_
  exact c_return (pc := 4) d_Row_init_4 (Nat.le_of_ble_eq_true rfl) (Nat.le_of_ble_eq_true rfl) rfl rfl
set_option maxRecDepth 20000 in
set_option maxHeartbeats 4000000 in
theorem CC_3 : CtC y_Circle_init mtC_Circle [Value.ref 4] [(8, [4, 2, 2, 2, 2, 2, 2, 2, 2, 0, 0]), (6, [5, 0]), (101, [320]), (7, [2, 2, 0, 0, 2, 2, 0, 0, 0, 0, 0, 0, 0, 0, 0]), (0, [0, 0, 2, 0, 2, 0, 2, 0, 2])] (zM) (PC [(8, [4, 2, 2, 2, 2, 2, 2, 2, 2, 0, 0]), (6, [5, 0]), (101, [320]), (7, [2, 2, 0, 0, 2, 2, 0, 0, 0, 0, 0, 0, 0, 0, 0]), (0, [0, 0, 8, 0, 9, 0, 10, 0, 11]), (100, [12]), (100, [16]), (100, [8]), (3, [1, 0])] (si (si zM 4 0 3) 4 1 9)) 4 38 := by
  refine ctc_of (by decide +kernel) rfl rfl (Nat.le_of_ble_eq_true rfl) ?_
  refine c_aload_n (pc := 0) (q := 0) d_Circle_init_0 rfl rfl ?_
  refine c_objInit (pc := 1) d_Circle_init_1 oi_Circle_5 (Nat.le_of_ble_eq_true rfl) (Nat.le_of_ble_eq_true rfl) ?_
  refine c_aload_n (pc := 4) (q := 0) d_Circle_init_4 rfl rfl ?_
  refine c_iconst (pc := 5) d_Circle_init_5 k_i_3 ?_
  refine c_putI (pc := 6) d_Circle_init_6 fl_Circle_13 rfl (by decide) (by decide) rfl (Nat.le_of_ble_eq_true rfl) ?_
  refine c_aload_n (pc := 9) (q := 0) d_Circle_init_9 rfl rfl ?_
  refine c_bipush (pc := 10) d_Circle_init_10 k_b_9 ?_
  refine c_putI (pc := 12) d_Circle_init_12 fl_Circle_17 rfl (by decide) (by decide) rfl (Nat.le_of_ble_eq_true rfl) ?_
  refine c_aload_n (pc := 15) (q := 0) d_Circle_init_15 rfl rfl ?_
  refine c_bipush (pc := 16) d_Circle_init_16 k_b_12 ?_
  refine c_newaI (pc := 18) (N := 12) (sh8 := [(8, [4, 2, 2, 2, 2, 2, 2, 2, 2, 0, 0]), (6, [5, 0]), (101, [320]), (7, [2, 2, 0, 0, 2, 2, 0, 0, 0, 0, 0, 0, 0, 0, 0]), (0, [0, 0, 2, 0, 2, 0, 2, 0, 2]), (100, [12])]) (a9 := 5) d_Circle_init_18 (by decide) (by decide) ac_int (Nat.le_of_ble_eq_true rfl) ⟨by funext y; simp [si, zM], by funext y; simp [si, zM]⟩ (Nat.le_of_ble_eq_true rfl) (Nat.le_of_ble_eq_true rfl) (Nat.le_of_ble_eq_true rfl) rfl rfl ?_
  refine c_putR (pc := 20) (sh8 := [(8, [4, 2, 2, 2, 2, 2, 2, 2, 2, 0, 0]), (6, [5, 0]), (101, [320]), (7, [2, 2, 0, 0, 2, 2, 0, 0, 0, 0, 0, 0, 0, 0, 0]), (0, [0, 0, 8, 0, 2, 0, 2, 0, 2]), (100, [12])]) d_Circle_init_20 fl_Circle_20 rfl rfl (by decide) (by decide) (Nat.le_of_ble_eq_true rfl) (fun C T N h => by cases h; rfl) rfl ?_
  refine c_aload_n (pc := 23) (q := 0) d_Circle_init_23 rfl rfl ?_
  refine c_bipush (pc := 24) d_Circle_init_24 k_b_16 ?_
  refine c_newaI (pc := 26) (N := 16) (sh8 := [(8, [4, 2, 2, 2, 2, 2, 2, 2, 2, 0, 0]), (6, [5, 0]), (101, [320]), (7, [2, 2, 0, 0, 2, 2, 0, 0, 0, 0, 0, 0, 0, 0, 0]), (0, [0, 0, 8, 0, 2, 0, 2, 0, 2]), (100, [12]), (100, [16])]) (a9 := 6) d_Circle_init_26 (by decide) (by decide) ac_int (Nat.le_of_ble_eq_true rfl) ⟨by funext y; simp [si, zM], by funext y; simp [si, zM]⟩ (Nat.le_of_ble_eq_true rfl) (Nat.le_of_ble_eq_true rfl) (Nat.le_of_ble_eq_true rfl) rfl rfl ?_
  refine c_putR (pc := 28) (sh8 := [(8, [4, 2, 2, 2, 2, 2, 2, 2, 2, 0, 0]), (6, [5, 0]), (101, [320]), (7, [2, 2, 0, 0, 2, 2, 0, 0, 0, 0, 0, 0, 0, 0, 0]), (0, [0, 0, 8, 0, 9, 0, 2, 0, 2]), (100, [12]), (100, [16])]) d_Circle_init_28 fl_Circle_24 rfl rfl (by decide) (by decide) (Nat.le_of_ble_eq_true rfl) (fun C T N h => by cases h; rfl) rfl ?_
  refine c_aload_n (pc := 31) (q := 0) d_Circle_init_31 rfl rfl ?_
  refine c_bipush (pc := 32) d_Circle_init_32 k_b_8 ?_
  refine c_newaI (pc := 34) (N := 8) (sh8 := [(8, [4, 2, 2, 2, 2, 2, 2, 2, 2, 0, 0]), (6, [5, 0]), (101, [320]), (7, [2, 2, 0, 0, 2, 2, 0, 0, 0, 0, 0, 0, 0, 0, 0]), (0, [0, 0, 8, 0, 9, 0, 2, 0, 2]), (100, [12]), (100, [16]), (100, [8])]) (a9 := 7) d_Circle_init_34 (by decide) (by decide) ac_int (Nat.le_of_ble_eq_true rfl) ⟨by funext y; simp [si, zM], by funext y; simp [si, zM]⟩ (Nat.le_of_ble_eq_true rfl) (Nat.le_of_ble_eq_true rfl) (Nat.le_of_ble_eq_true rfl) rfl rfl ?_
  refine c_putR (pc := 36) (sh8 := [(8, [4, 2, 2, 2, 2, 2, 2, 2, 2, 0, 0]), (6, [5, 0]), (101, [320]), (7, [2, 2, 0, 0, 2, 2, 0, 0, 0, 0, 0, 0, 0, 0, 0]), (0, [0, 0, 8, 0, 9, 0, 10, 0, 2]), (100, [12]), (100, [16]), (100, [8])]) d_Circle_init_36 fl_Circle_27 rfl rfl (by decide) (by decide) (Nat.le_of_ble_eq_true rfl) (fun C T N h => by cases h; rfl) rfl ?_
  refine c_aload_n (pc := 39) (q := 0) d_Circle_init_39 rfl rfl ?_
  refine c_new (pc := 40) (ci := 3) (T := F_Row) (N := 2) (ds := [1, 0]) (sh8 := [(8, [4, 2, 2, 2, 2, 2, 2, 2, 2, 0, 0]), (6, [5, 0]), (101, [320]), (7, [2, 2, 0, 0, 2, 2, 0, 0, 0, 0, 0, 0, 0, 0, 0]), (0, [0, 0, 8, 0, 9, 0, 10, 0, 2]), (100, [12]), (100, [16]), (100, [8]), (3, [1, 0])]) (a9 := 8) d_Circle_init_40 rfl (by decide) i_Row t_Row_ok cwl_Circle_1 in_Row ini_Row (fun ad j hj => nu_Row ad j hj) ⟨by funext y; simp [si, zM], by funext y; simp [si, zM]⟩ (Nat.le_of_ble_eq_true rfl) (Nat.le_of_ble_eq_true rfl) (Nat.le_of_ble_eq_true rfl) rfl rfl ?_
  refine c_dup (pc := 43) d_Circle_init_43 rfl ?_
  refine c_initN (pc := 44) (as := []) (a := 8) d_Circle_init_44 CC_2 cN_Circle_30 cd_Row_init rfl im_Row_init ini_Row dn_Row_init rfl (by decide) (by decide) (Nat.le_of_ble_eq_true rfl) (Nat.le_of_ble_eq_true rfl) (Nat.le_of_ble_eq_true rfl) ?_
  refine c_putR (pc := 47) (sh8 := [(8, [4, 2, 2, 2, 2, 2, 2, 2, 2, 0, 0]), (6, [5, 0]), (101, [320]), (7, [2, 2, 0, 0, 2, 2, 0, 0, 0, 0, 0, 0, 0, 0, 0]), (0, [0, 0, 8, 0, 9, 0, 10, 0, 11]), (100, [12]), (100, [16]), (100, [8]), (3, [1, 0])]) d_Circle_init_47 fl_Circle_31 rfl rfl (by decide) (by decide) (Nat.le_of_ble_eq_true rfl) (fun C T N h => by cases h; rfl) rfl ?_
  exact c_return (pc := 50) d_Circle_init_50 (Nat.le_of_ble_eq_true rfl) (Nat.le_of_ble_eq_true rfl) rfl rfl
set_option maxRecDepth 20000 in
set_option maxHeartbeats 4000000 in
theorem CC_4 : CtC y_Row_init mtC_Row [Value.ref 10] [(8, [4, 2, 2, 2, 2, 2, 2, 2, 2, 0, 0]), (6, [5, 0]), (101, [320]), (7, [7, 12, 0, 0, 2, 2, 0, 0, 0, 0, 0, 0, 0, 0, 0]), (0, [0, 0, 8, 0, 9, 0, 10, 0, 11]), (100, [12]), (100, [16]), (100, [8]), (3, [1, 0]), (103, [6]), (3, [1, 0])] (si (si zM 4 0 3) 4 1 9) (PC [(8, [4, 2, 2, 2, 2, 2, 2, 2, 2, 0, 0]), (6, [5, 0]), (101, [320]), (7, [7, 12, 0, 0, 2, 2, 0, 0, 0, 0, 0, 0, 0, 0, 0]), (0, [0, 0, 8, 0, 9, 0, 10, 0, 11]), (100, [12]), (100, [16]), (100, [8]), (3, [1, 0]), (103, [6]), (3, [1, 0])] (si (si zM 4 0 3) 4 1 9)) 0 0 := by
  refine ctc_of (by decide +kernel) rfl rfl (Nat.le_of_ble_eq_true rfl) ?_
  refine c_aload_n (pc := 0) (q := 0) d_Row_init_0 rfl rfl ?_
  refine c_objInit (pc := 1) d_Row_init_1 oi_Row_3 (Nat.le_of_ble_eq_true rfl) (Nat.le_of_ble_eq_true rfl) ?_
  exact c_return (pc := 4) d_Row_init_4 (Nat.le_of_ble_eq_true rfl) (Nat.le_of_ble_eq_true rfl) rfl rfl
set_option maxRecDepth 20000 in
set_option maxHeartbeats 4000000 in
theorem CC_5 : CtC y_Teller_init mtC_Teller [Value.ref 3, Value.ref 1] [(8, [4, 2, 2, 2, 2, 2, 2, 2, 2, 0, 0]), (6, [5, 0]), (101, [320]), (7, [2, 2, 0, 0, 2, 2, 0, 0, 0, 0, 0, 0, 0, 0, 0])] (zM) (PC [(8, [4, 2, 2, 2, 2, 2, 2, 2, 2, 0, 0]), (6, [5, 0]), (101, [320]), (7, [7, 12, 0, 0, 4, 13, 0, 0, 0, 0, 0, 0, 0, 0, 0]), (0, [0, 0, 8, 0, 9, 0, 10, 0, 11]), (100, [12]), (100, [16]), (100, [8]), (3, [1, 0]), (103, [6]), (3, [1, 0])] (si (si zM 4 0 3) 4 1 9)) 7 55 := by
  refine ctc_of (by decide +kernel) rfl rfl (Nat.le_of_ble_eq_true rfl) ?_
  refine c_aload_n (pc := 0) (q := 0) d_Teller_init_0 rfl rfl ?_
  refine c_objInit (pc := 1) d_Teller_init_1 oi_Teller_3 (Nat.le_of_ble_eq_true rfl) (Nat.le_of_ble_eq_true rfl) ?_
  refine c_aload_n (pc := 4) (q := 0) d_Teller_init_4 rfl rfl ?_
  refine c_new (pc := 5) (ci := 0) (T := F_Circle) (N := 9) (ds := [0, 0, 2, 0, 2, 0, 2, 0, 2]) (sh8 := [(8, [4, 2, 2, 2, 2, 2, 2, 2, 2, 0, 0]), (6, [5, 0]), (101, [320]), (7, [2, 2, 0, 0, 2, 2, 0, 0, 0, 0, 0, 0, 0, 0, 0]), (0, [0, 0, 2, 0, 2, 0, 2, 0, 2])]) (a9 := 4) d_Teller_init_5 rfl (by decide) i_Circle t_Circle_ok cwl_Teller_9 in_Circle ini_Circle (fun ad j hj => nu_Circle ad j hj) ⟨by funext y; simp [si, zM], by funext y; simp [si, zM]⟩ (Nat.le_of_ble_eq_true rfl) (Nat.le_of_ble_eq_true rfl) (Nat.le_of_ble_eq_true rfl) rfl rfl ?_
  refine c_dup (pc := 8) d_Teller_init_8 rfl ?_
  refine c_initN (pc := 9) (as := []) (a := 4) d_Teller_init_9 CC_3 cN_Teller_11 cd_Circle_init rfl im_Circle_init ini_Circle dn_Circle_init rfl (by decide) (by decide) (Nat.le_of_ble_eq_true rfl) (Nat.le_of_ble_eq_true rfl) (Nat.le_of_ble_eq_true rfl) ?_
  refine c_putR (pc := 12) (sh8 := [(8, [4, 2, 2, 2, 2, 2, 2, 2, 2, 0, 0]), (6, [5, 0]), (101, [320]), (7, [7, 2, 0, 0, 2, 2, 0, 0, 0, 0, 0, 0, 0, 0, 0]), (0, [0, 0, 8, 0, 9, 0, 10, 0, 11]), (100, [12]), (100, [16]), (100, [8]), (3, [1, 0])]) d_Teller_init_12 fl_Teller_12 rfl rfl (by decide) (by decide) (Nat.le_of_ble_eq_true rfl) (fun C T N h => by cases h; rfl) rfl ?_
  refine c_aload_n (pc := 15) (q := 0) d_Teller_init_15 rfl rfl ?_
  refine c_bipush (pc := 16) d_Teller_init_16 k_b_6 ?_
  refine c_newaL (pc := 18) (N := 6) (sh8 := [(8, [4, 2, 2, 2, 2, 2, 2, 2, 2, 0, 0]), (6, [5, 0]), (101, [320]), (7, [7, 2, 0, 0, 2, 2, 0, 0, 0, 0, 0, 0, 0, 0, 0]), (0, [0, 0, 8, 0, 9, 0, 10, 0, 11]), (100, [12]), (100, [16]), (100, [8]), (3, [1, 0]), (103, [6])]) (a9 := 9) d_Teller_init_18 (by decide) (by decide) ac_long (Nat.le_of_ble_eq_true rfl) ⟨by funext y; simp [si, zM], by funext y; simp [si, zM]⟩ (Nat.le_of_ble_eq_true rfl) (Nat.le_of_ble_eq_true rfl) (Nat.le_of_ble_eq_true rfl) rfl rfl ?_
  refine c_putR (pc := 20) (sh8 := [(8, [4, 2, 2, 2, 2, 2, 2, 2, 2, 0, 0]), (6, [5, 0]), (101, [320]), (7, [7, 12, 0, 0, 2, 2, 0, 0, 0, 0, 0, 0, 0, 0, 0]), (0, [0, 0, 8, 0, 9, 0, 10, 0, 11]), (100, [12]), (100, [16]), (100, [8]), (3, [1, 0]), (103, [6])]) d_Teller_init_20 fl_Teller_18 rfl rfl (by decide) (by decide) (Nat.le_of_ble_eq_true rfl) (fun C T N h => by cases h; rfl) rfl ?_
  refine c_aload_n (pc := 23) (q := 0) d_Teller_init_23 rfl rfl ?_
  refine c_new (pc := 24) (ci := 3) (T := F_Row) (N := 2) (ds := [1, 0]) (sh8 := [(8, [4, 2, 2, 2, 2, 2, 2, 2, 2, 0, 0]), (6, [5, 0]), (101, [320]), (7, [7, 12, 0, 0, 2, 2, 0, 0, 0, 0, 0, 0, 0, 0, 0]), (0, [0, 0, 8, 0, 9, 0, 10, 0, 11]), (100, [12]), (100, [16]), (100, [8]), (3, [1, 0]), (103, [6]), (3, [1, 0])]) (a9 := 10) d_Teller_init_24 rfl (by decide) i_Row t_Row_ok cwl_Teller_22 in_Row ini_Row (fun ad j hj => nu_Row ad j hj) ⟨by funext y; simp [si, zM], by funext y; simp [si, zM]⟩ (Nat.le_of_ble_eq_true rfl) (Nat.le_of_ble_eq_true rfl) (Nat.le_of_ble_eq_true rfl) rfl rfl ?_
  refine c_dup (pc := 27) d_Teller_init_27 rfl ?_
  refine c_initN (pc := 28) (as := []) (a := 10) d_Teller_init_28 CC_4 cN_Teller_24 cd_Row_init rfl im_Row_init ini_Row dn_Row_init rfl (by decide) (by decide) (Nat.le_of_ble_eq_true rfl) (Nat.le_of_ble_eq_true rfl) (Nat.le_of_ble_eq_true rfl) ?_
  refine c_putR (pc := 31) (sh8 := [(8, [4, 2, 2, 2, 2, 2, 2, 2, 2, 0, 0]), (6, [5, 0]), (101, [320]), (7, [7, 12, 0, 0, 2, 13, 0, 0, 0, 0, 0, 0, 0, 0, 0]), (0, [0, 0, 8, 0, 9, 0, 10, 0, 11]), (100, [12]), (100, [16]), (100, [8]), (3, [1, 0]), (103, [6]), (3, [1, 0])]) d_Teller_init_31 fl_Teller_25 rfl rfl (by decide) (by decide) (Nat.le_of_ble_eq_true rfl) (fun C T N h => by cases h; rfl) rfl ?_
  refine c_aload_n (pc := 34) (q := 0) d_Teller_init_34 rfl rfl ?_
  refine c_aload_n (pc := 35) (q := 1) d_Teller_init_35 rfl rfl ?_
  refine c_putR (pc := 36) (sh8 := [(8, [4, 2, 2, 2, 2, 2, 2, 2, 2, 0, 0]), (6, [5, 0]), (101, [320]), (7, [7, 12, 0, 0, 4, 13, 0, 0, 0, 0, 0, 0, 0, 0, 0]), (0, [0, 0, 8, 0, 9, 0, 10, 0, 11]), (100, [12]), (100, [16]), (100, [8]), (3, [1, 0]), (103, [6]), (3, [1, 0])]) d_Teller_init_36 fl_Teller_29 rfl rfl (by decide) (by decide) (Nat.le_of_ble_eq_true rfl) (fun C T N h => by cases h; rfl) rfl ?_
  exact c_return (pc := 39) d_Teller_init_39 (Nat.le_of_ble_eq_true rfl) (Nat.le_of_ble_eq_true rfl) rfl rfl
set_option maxRecDepth 20000 in
set_option maxHeartbeats 4000000 in
theorem CC_6 : CtC y_Row_init mtC_Row [Value.ref 15] [(8, [4, 6, 2, 2, 2, 2, 2, 2, 2, 0, 0]), (6, [5, 0]), (101, [320]), (7, [7, 12, 0, 0, 4, 13, 0, 0, 0, 0, 0, 0, 0, 0, 0]), (0, [0, 0, 8, 0, 9, 0, 10, 0, 11]), (100, [12]), (100, [16]), (100, [8]), (3, [1, 0]), (103, [6]), (3, [1, 0]), (0, [0, 0, 15, 0, 16, 0, 17, 0, 2]), (100, [12]), (100, [16]), (100, [8]), (3, [1, 0])] (si (si (si (si zM 4 0 3) 4 1 9) 11 0 3) 11 1 9) (PC [(8, [4, 6, 2, 2, 2, 2, 2, 2, 2, 0, 0]), (6, [5, 0]), (101, [320]), (7, [7, 12, 0, 0, 4, 13, 0, 0, 0, 0, 0, 0, 0, 0, 0]), (0, [0, 0, 8, 0, 9, 0, 10, 0, 11]), (100, [12]), (100, [16]), (100, [8]), (3, [1, 0]), (103, [6]), (3, [1, 0]), (0, [0, 0, 15, 0, 16, 0, 17, 0, 2]), (100, [12]), (100, [16]), (100, [8]), (3, [1, 0])] (si (si (si (si zM 4 0 3) 4 1 9) 11 0 3) 11 1 9)) 0 0 := by
  refine ctc_of (by decide +kernel) rfl rfl (Nat.le_of_ble_eq_true rfl) ?_
  refine c_aload_n (pc := 0) (q := 0) d_Row_init_0 rfl rfl ?_
  refine c_objInit (pc := 1) d_Row_init_1 oi_Row_3 (Nat.le_of_ble_eq_true rfl) (Nat.le_of_ble_eq_true rfl) ?_
  exact c_return (pc := 4) d_Row_init_4 (Nat.le_of_ble_eq_true rfl) (Nat.le_of_ble_eq_true rfl) rfl rfl
set_option maxRecDepth 20000 in
set_option maxHeartbeats 4000000 in
theorem CC_7 : CtC y_Circle_init mtC_Circle [Value.ref 11] [(8, [4, 6, 2, 2, 2, 2, 2, 2, 2, 0, 0]), (6, [5, 0]), (101, [320]), (7, [7, 12, 0, 0, 4, 13, 0, 0, 0, 0, 0, 0, 0, 0, 0]), (0, [0, 0, 8, 0, 9, 0, 10, 0, 11]), (100, [12]), (100, [16]), (100, [8]), (3, [1, 0]), (103, [6]), (3, [1, 0]), (0, [0, 0, 2, 0, 2, 0, 2, 0, 2])] (si (si zM 4 0 3) 4 1 9) (PC [(8, [4, 6, 2, 2, 2, 2, 2, 2, 2, 0, 0]), (6, [5, 0]), (101, [320]), (7, [7, 12, 0, 0, 4, 13, 0, 0, 0, 0, 0, 0, 0, 0, 0]), (0, [0, 0, 8, 0, 9, 0, 10, 0, 11]), (100, [12]), (100, [16]), (100, [8]), (3, [1, 0]), (103, [6]), (3, [1, 0]), (0, [0, 0, 15, 0, 16, 0, 17, 0, 18]), (100, [12]), (100, [16]), (100, [8]), (3, [1, 0])] (si (si (si (si zM 4 0 3) 4 1 9) 11 0 3) 11 1 9)) 4 38 := by
  refine ctc_of (by decide +kernel) rfl rfl (Nat.le_of_ble_eq_true rfl) ?_
  refine c_aload_n (pc := 0) (q := 0) d_Circle_init_0 rfl rfl ?_
  refine c_objInit (pc := 1) d_Circle_init_1 oi_Circle_5 (Nat.le_of_ble_eq_true rfl) (Nat.le_of_ble_eq_true rfl) ?_
  refine c_aload_n (pc := 4) (q := 0) d_Circle_init_4 rfl rfl ?_
  refine c_iconst (pc := 5) d_Circle_init_5 k_i_3 ?_
  refine c_putI (pc := 6) d_Circle_init_6 fl_Circle_13 rfl (by decide) (by decide) rfl (Nat.le_of_ble_eq_true rfl) ?_
  refine c_aload_n (pc := 9) (q := 0) d_Circle_init_9 rfl rfl ?_
  refine c_bipush (pc := 10) d_Circle_init_10 k_b_9 ?_
  refine c_putI (pc := 12) d_Circle_init_12 fl_Circle_17 rfl (by decide) (by decide) rfl (Nat.le_of_ble_eq_true rfl) ?_
  refine c_aload_n (pc := 15) (q := 0) d_Circle_init_15 rfl rfl ?_
  refine c_bipush (pc := 16) d_Circle_init_16 k_b_12 ?_
  refine c_newaI (pc := 18) (N := 12) (sh8 := [(8, [4, 6, 2, 2, 2, 2, 2, 2, 2, 0, 0]), (6, [5, 0]), (101, [320]), (7, [7, 12, 0, 0, 4, 13, 0, 0, 0, 0, 0, 0, 0, 0, 0]), (0, [0, 0, 8, 0, 9, 0, 10, 0, 11]), (100, [12]), (100, [16]), (100, [8]), (3, [1, 0]), (103, [6]), (3, [1, 0]), (0, [0, 0, 2, 0, 2, 0, 2, 0, 2]), (100, [12])]) (a9 := 12) d_Circle_init_18 (by decide) (by decide) ac_int (Nat.le_of_ble_eq_true rfl) ⟨by funext y; simp [si, zM], by funext y; simp [si, zM]⟩ (Nat.le_of_ble_eq_true rfl) (Nat.le_of_ble_eq_true rfl) (Nat.le_of_ble_eq_true rfl) rfl rfl ?_
  refine c_putR (pc := 20) (sh8 := [(8, [4, 6, 2, 2, 2, 2, 2, 2, 2, 0, 0]), (6, [5, 0]), (101, [320]), (7, [7, 12, 0, 0, 4, 13, 0, 0, 0, 0, 0, 0, 0, 0, 0]), (0, [0, 0, 8, 0, 9, 0, 10, 0, 11]), (100, [12]), (100, [16]), (100, [8]), (3, [1, 0]), (103, [6]), (3, [1, 0]), (0, [0, 0, 15, 0, 2, 0, 2, 0, 2]), (100, [12])]) d_Circle_init_20 fl_Circle_20 rfl rfl (by decide) (by decide) (Nat.le_of_ble_eq_true rfl) (fun C T N h => by cases h; rfl) rfl ?_
  refine c_aload_n (pc := 23) (q := 0) d_Circle_init_23 rfl rfl ?_
  refine c_bipush (pc := 24) d_Circle_init_24 k_b_16 ?_
  refine c_newaI (pc := 26) (N := 16) (sh8 := [(8, [4, 6, 2, 2, 2, 2, 2, 2, 2, 0, 0]), (6, [5, 0]), (101, [320]), (7, [7, 12, 0, 0, 4, 13, 0, 0, 0, 0, 0, 0, 0, 0, 0]), (0, [0, 0, 8, 0, 9, 0, 10, 0, 11]), (100, [12]), (100, [16]), (100, [8]), (3, [1, 0]), (103, [6]), (3, [1, 0]), (0, [0, 0, 15, 0, 2, 0, 2, 0, 2]), (100, [12]), (100, [16])]) (a9 := 13) d_Circle_init_26 (by decide) (by decide) ac_int (Nat.le_of_ble_eq_true rfl) ⟨by funext y; simp [si, zM], by funext y; simp [si, zM]⟩ (Nat.le_of_ble_eq_true rfl) (Nat.le_of_ble_eq_true rfl) (Nat.le_of_ble_eq_true rfl) rfl rfl ?_
  refine c_putR (pc := 28) (sh8 := [(8, [4, 6, 2, 2, 2, 2, 2, 2, 2, 0, 0]), (6, [5, 0]), (101, [320]), (7, [7, 12, 0, 0, 4, 13, 0, 0, 0, 0, 0, 0, 0, 0, 0]), (0, [0, 0, 8, 0, 9, 0, 10, 0, 11]), (100, [12]), (100, [16]), (100, [8]), (3, [1, 0]), (103, [6]), (3, [1, 0]), (0, [0, 0, 15, 0, 16, 0, 2, 0, 2]), (100, [12]), (100, [16])]) d_Circle_init_28 fl_Circle_24 rfl rfl (by decide) (by decide) (Nat.le_of_ble_eq_true rfl) (fun C T N h => by cases h; rfl) rfl ?_
  refine c_aload_n (pc := 31) (q := 0) d_Circle_init_31 rfl rfl ?_
  refine c_bipush (pc := 32) d_Circle_init_32 k_b_8 ?_
  refine c_newaI (pc := 34) (N := 8) (sh8 := [(8, [4, 6, 2, 2, 2, 2, 2, 2, 2, 0, 0]), (6, [5, 0]), (101, [320]), (7, [7, 12, 0, 0, 4, 13, 0, 0, 0, 0, 0, 0, 0, 0, 0]), (0, [0, 0, 8, 0, 9, 0, 10, 0, 11]), (100, [12]), (100, [16]), (100, [8]), (3, [1, 0]), (103, [6]), (3, [1, 0]), (0, [0, 0, 15, 0, 16, 0, 2, 0, 2]), (100, [12]), (100, [16]), (100, [8])]) (a9 := 14) d_Circle_init_34 (by decide) (by decide) ac_int (Nat.le_of_ble_eq_true rfl) ⟨by funext y; simp [si, zM], by funext y; simp [si, zM]⟩ (Nat.le_of_ble_eq_true rfl) (Nat.le_of_ble_eq_true rfl) (Nat.le_of_ble_eq_true rfl) rfl rfl ?_
  refine c_putR (pc := 36) (sh8 := [(8, [4, 6, 2, 2, 2, 2, 2, 2, 2, 0, 0]), (6, [5, 0]), (101, [320]), (7, [7, 12, 0, 0, 4, 13, 0, 0, 0, 0, 0, 0, 0, 0, 0]), (0, [0, 0, 8, 0, 9, 0, 10, 0, 11]), (100, [12]), (100, [16]), (100, [8]), (3, [1, 0]), (103, [6]), (3, [1, 0]), (0, [0, 0, 15, 0, 16, 0, 17, 0, 2]), (100, [12]), (100, [16]), (100, [8])]) d_Circle_init_36 fl_Circle_27 rfl rfl (by decide) (by decide) (Nat.le_of_ble_eq_true rfl) (fun C T N h => by cases h; rfl) rfl ?_
  refine c_aload_n (pc := 39) (q := 0) d_Circle_init_39 rfl rfl ?_
  refine c_new (pc := 40) (ci := 3) (T := F_Row) (N := 2) (ds := [1, 0]) (sh8 := [(8, [4, 6, 2, 2, 2, 2, 2, 2, 2, 0, 0]), (6, [5, 0]), (101, [320]), (7, [7, 12, 0, 0, 4, 13, 0, 0, 0, 0, 0, 0, 0, 0, 0]), (0, [0, 0, 8, 0, 9, 0, 10, 0, 11]), (100, [12]), (100, [16]), (100, [8]), (3, [1, 0]), (103, [6]), (3, [1, 0]), (0, [0, 0, 15, 0, 16, 0, 17, 0, 2]), (100, [12]), (100, [16]), (100, [8]), (3, [1, 0])]) (a9 := 15) d_Circle_init_40 rfl (by decide) i_Row t_Row_ok cwl_Circle_1 in_Row ini_Row (fun ad j hj => nu_Row ad j hj) ⟨by funext y; simp [si, zM], by funext y; simp [si, zM]⟩ (Nat.le_of_ble_eq_true rfl) (Nat.le_of_ble_eq_true rfl) (Nat.le_of_ble_eq_true rfl) rfl rfl ?_
  refine c_dup (pc := 43) d_Circle_init_43 rfl ?_
  refine c_initN (pc := 44) (as := []) (a := 15) d_Circle_init_44 CC_6 cN_Circle_30 cd_Row_init rfl im_Row_init ini_Row dn_Row_init rfl (by decide) (by decide) (Nat.le_of_ble_eq_true rfl) (Nat.le_of_ble_eq_true rfl) (Nat.le_of_ble_eq_true rfl) ?_
  refine c_putR (pc := 47) (sh8 := [(8, [4, 6, 2, 2, 2, 2, 2, 2, 2, 0, 0]), (6, [5, 0]), (101, [320]), (7, [7, 12, 0, 0, 4, 13, 0, 0, 0, 0, 0, 0, 0, 0, 0]), (0, [0, 0, 8, 0, 9, 0, 10, 0, 11]), (100, [12]), (100, [16]), (100, [8]), (3, [1, 0]), (103, [6]), (3, [1, 0]), (0, [0, 0, 15, 0, 16, 0, 17, 0, 18]), (100, [12]), (100, [16]), (100, [8]), (3, [1, 0])]) d_Circle_init_47 fl_Circle_31 rfl rfl (by decide) (by decide) (Nat.le_of_ble_eq_true rfl) (fun C T N h => by cases h; rfl) rfl ?_
  exact c_return (pc := 50) d_Circle_init_50 (Nat.le_of_ble_eq_true rfl) (Nat.le_of_ble_eq_true rfl) rfl rfl
set_option maxRecDepth 20000 in
set_option maxHeartbeats 4000000 in
theorem CC_8 : CtC y_Minds_init mtC_Minds [Value.ref 16] [(8, [4, 6, 14, 2, 2, 2, 2, 2, 2, 0, 0]), (6, [5, 0]), (101, [320]), (7, [7, 12, 0, 0, 4, 13, 0, 0, 0, 0, 0, 0, 0, 0, 0]), (0, [0, 0, 8, 0, 9, 0, 10, 0, 11]), (100, [12]), (100, [16]), (100, [8]), (3, [1, 0]), (103, [6]), (3, [1, 0]), (0, [0, 0, 15, 0, 16, 0, 17, 0, 18]), (100, [12]), (100, [16]), (100, [8]), (3, [1, 0]), (2, [2, 0, 0, 2])] (si (si (si (si zM 4 0 3) 4 1 9) 11 0 3) 11 1 9) (PC [(8, [4, 6, 14, 2, 2, 2, 2, 2, 2, 0, 0]), (6, [5, 0]), (101, [320]), (7, [7, 12, 0, 0, 4, 13, 0, 0, 0, 0, 0, 0, 0, 0, 0]), (0, [0, 0, 8, 0, 9, 0, 10, 0, 11]), (100, [12]), (100, [16]), (100, [8]), (3, [1, 0]), (103, [6]), (3, [1, 0]), (0, [0, 0, 15, 0, 16, 0, 17, 0, 18]), (100, [12]), (100, [16]), (100, [8]), (3, [1, 0]), (2, [20, 0, 0, 21]), (103, [6]), (100, [6])] (si (si (si (si zM 4 0 3) 4 1 9) 11 0 3) 11 1 9)) 2 12 := by
  refine ctc_of (by decide +kernel) rfl rfl (Nat.le_of_ble_eq_true rfl) ?_
  refine c_aload_n (pc := 0) (q := 0) d_Minds_init_0 rfl rfl ?_
  refine c_objInit (pc := 1) d_Minds_init_1 oi_Minds_3 (Nat.le_of_ble_eq_true rfl) (Nat.le_of_ble_eq_true rfl) ?_
  refine c_aload_n (pc := 4) (q := 0) d_Minds_init_4 rfl rfl ?_
  refine c_bipush (pc := 5) d_Minds_init_5 k_b_6 ?_
  refine c_newaL (pc := 7) (N := 6) (sh8 := [(8, [4, 6, 14, 2, 2, 2, 2, 2, 2, 0, 0]), (6, [5, 0]), (101, [320]), (7, [7, 12, 0, 0, 4, 13, 0, 0, 0, 0, 0, 0, 0, 0, 0]), (0, [0, 0, 8, 0, 9, 0, 10, 0, 11]), (100, [12]), (100, [16]), (100, [8]), (3, [1, 0]), (103, [6]), (3, [1, 0]), (0, [0, 0, 15, 0, 16, 0, 17, 0, 18]), (100, [12]), (100, [16]), (100, [8]), (3, [1, 0]), (2, [2, 0, 0, 2]), (103, [6])]) (a9 := 17) d_Minds_init_7 (by decide) (by decide) ac_long (Nat.le_of_ble_eq_true rfl) ⟨by funext y; simp [si, zM], by funext y; simp [si, zM]⟩ (Nat.le_of_ble_eq_true rfl) (Nat.le_of_ble_eq_true rfl) (Nat.le_of_ble_eq_true rfl) rfl rfl ?_
  refine c_putR (pc := 9) (sh8 := [(8, [4, 6, 14, 2, 2, 2, 2, 2, 2, 0, 0]), (6, [5, 0]), (101, [320]), (7, [7, 12, 0, 0, 4, 13, 0, 0, 0, 0, 0, 0, 0, 0, 0]), (0, [0, 0, 8, 0, 9, 0, 10, 0, 11]), (100, [12]), (100, [16]), (100, [8]), (3, [1, 0]), (103, [6]), (3, [1, 0]), (0, [0, 0, 15, 0, 16, 0, 17, 0, 18]), (100, [12]), (100, [16]), (100, [8]), (3, [1, 0]), (2, [20, 0, 0, 2]), (103, [6])]) d_Minds_init_9 fl_Minds_9 rfl rfl (by decide) (by decide) (Nat.le_of_ble_eq_true rfl) (fun C T N h => by cases h; rfl) rfl ?_
  refine c_aload_n (pc := 12) (q := 0) d_Minds_init_12 rfl rfl ?_
  refine c_bipush (pc := 13) d_Minds_init_13 k_b_6 ?_
  refine c_newaI (pc := 15) (N := 6) (sh8 := [(8, [4, 6, 14, 2, 2, 2, 2, 2, 2, 0, 0]), (6, [5, 0]), (101, [320]), (7, [7, 12, 0, 0, 4, 13, 0, 0, 0, 0, 0, 0, 0, 0, 0]), (0, [0, 0, 8, 0, 9, 0, 10, 0, 11]), (100, [12]), (100, [16]), (100, [8]), (3, [1, 0]), (103, [6]), (3, [1, 0]), (0, [0, 0, 15, 0, 16, 0, 17, 0, 18]), (100, [12]), (100, [16]), (100, [8]), (3, [1, 0]), (2, [20, 0, 0, 2]), (103, [6]), (100, [6])]) (a9 := 18) d_Minds_init_15 (by decide) (by decide) ac_int (Nat.le_of_ble_eq_true rfl) ⟨by funext y; simp [si, zM], by funext y; simp [si, zM]⟩ (Nat.le_of_ble_eq_true rfl) (Nat.le_of_ble_eq_true rfl) (Nat.le_of_ble_eq_true rfl) rfl rfl ?_
  refine c_putR (pc := 17) (sh8 := [(8, [4, 6, 14, 2, 2, 2, 2, 2, 2, 0, 0]), (6, [5, 0]), (101, [320]), (7, [7, 12, 0, 0, 4, 13, 0, 0, 0, 0, 0, 0, 0, 0, 0]), (0, [0, 0, 8, 0, 9, 0, 10, 0, 11]), (100, [12]), (100, [16]), (100, [8]), (3, [1, 0]), (103, [6]), (3, [1, 0]), (0, [0, 0, 15, 0, 16, 0, 17, 0, 18]), (100, [12]), (100, [16]), (100, [8]), (3, [1, 0]), (2, [20, 0, 0, 21]), (103, [6]), (100, [6])]) d_Minds_init_17 fl_Minds_15 rfl rfl (by decide) (by decide) (Nat.le_of_ble_eq_true rfl) (fun C T N h => by cases h; rfl) rfl ?_
  exact c_return (pc := 20) d_Minds_init_20 (Nat.le_of_ble_eq_true rfl) (Nat.le_of_ble_eq_true rfl) rfl rfl
set_option maxRecDepth 20000 in
set_option maxHeartbeats 4000000 in
theorem CC_9 : CtC y_Minds_init mtC_Minds [Value.ref 20] [(8, [4, 6, 14, 19, 22, 2, 2, 2, 2, 0, 0]), (6, [5, 0]), (101, [320]), (7, [7, 12, 0, 0, 4, 13, 0, 0, 0, 0, 0, 0, 0, 0, 0]), (0, [0, 0, 8, 0, 9, 0, 10, 0, 11]), (100, [12]), (100, [16]), (100, [8]), (3, [1, 0]), (103, [6]), (3, [1, 0]), (0, [0, 0, 15, 0, 16, 0, 17, 0, 18]), (100, [12]), (100, [16]), (100, [8]), (3, [1, 0]), (2, [20, 0, 0, 21]), (103, [6]), (100, [6]), (104, [0, 0]), (2, [2, 0, 0, 2])] (si (si (si (si zM 4 0 3) 4 1 9) 11 0 3) 11 1 9) (PC [(8, [4, 6, 14, 19, 22, 2, 2, 2, 2, 0, 0]), (6, [5, 0]), (101, [320]), (7, [7, 12, 0, 0, 4, 13, 0, 0, 0, 0, 0, 0, 0, 0, 0]), (0, [0, 0, 8, 0, 9, 0, 10, 0, 11]), (100, [12]), (100, [16]), (100, [8]), (3, [1, 0]), (103, [6]), (3, [1, 0]), (0, [0, 0, 15, 0, 16, 0, 17, 0, 18]), (100, [12]), (100, [16]), (100, [8]), (3, [1, 0]), (2, [20, 0, 0, 21]), (103, [6]), (100, [6]), (104, [0, 0]), (2, [24, 0, 0, 25]), (103, [6]), (100, [6])] (si (si (si (si zM 4 0 3) 4 1 9) 11 0 3) 11 1 9)) 2 12 := by
  refine ctc_of (by decide +kernel) rfl rfl (Nat.le_of_ble_eq_true rfl) ?_
  refine c_aload_n (pc := 0) (q := 0) d_Minds_init_0 rfl rfl ?_
  refine c_objInit (pc := 1) d_Minds_init_1 oi_Minds_3 (Nat.le_of_ble_eq_true rfl) (Nat.le_of_ble_eq_true rfl) ?_
  refine c_aload_n (pc := 4) (q := 0) d_Minds_init_4 rfl rfl ?_
  refine c_bipush (pc := 5) d_Minds_init_5 k_b_6 ?_
  refine c_newaL (pc := 7) (N := 6) (sh8 := [(8, [4, 6, 14, 19, 22, 2, 2, 2, 2, 0, 0]), (6, [5, 0]), (101, [320]), (7, [7, 12, 0, 0, 4, 13, 0, 0, 0, 0, 0, 0, 0, 0, 0]), (0, [0, 0, 8, 0, 9, 0, 10, 0, 11]), (100, [12]), (100, [16]), (100, [8]), (3, [1, 0]), (103, [6]), (3, [1, 0]), (0, [0, 0, 15, 0, 16, 0, 17, 0, 18]), (100, [12]), (100, [16]), (100, [8]), (3, [1, 0]), (2, [20, 0, 0, 21]), (103, [6]), (100, [6]), (104, [0, 0]), (2, [2, 0, 0, 2]), (103, [6])]) (a9 := 21) d_Minds_init_7 (by decide) (by decide) ac_long (Nat.le_of_ble_eq_true rfl) ⟨by funext y; simp [si, zM], by funext y; simp [si, zM]⟩ (Nat.le_of_ble_eq_true rfl) (Nat.le_of_ble_eq_true rfl) (Nat.le_of_ble_eq_true rfl) rfl rfl ?_
  refine c_putR (pc := 9) (sh8 := [(8, [4, 6, 14, 19, 22, 2, 2, 2, 2, 0, 0]), (6, [5, 0]), (101, [320]), (7, [7, 12, 0, 0, 4, 13, 0, 0, 0, 0, 0, 0, 0, 0, 0]), (0, [0, 0, 8, 0, 9, 0, 10, 0, 11]), (100, [12]), (100, [16]), (100, [8]), (3, [1, 0]), (103, [6]), (3, [1, 0]), (0, [0, 0, 15, 0, 16, 0, 17, 0, 18]), (100, [12]), (100, [16]), (100, [8]), (3, [1, 0]), (2, [20, 0, 0, 21]), (103, [6]), (100, [6]), (104, [0, 0]), (2, [24, 0, 0, 2]), (103, [6])]) d_Minds_init_9 fl_Minds_9 rfl rfl (by decide) (by decide) (Nat.le_of_ble_eq_true rfl) (fun C T N h => by cases h; rfl) rfl ?_
  refine c_aload_n (pc := 12) (q := 0) d_Minds_init_12 rfl rfl ?_
  refine c_bipush (pc := 13) d_Minds_init_13 k_b_6 ?_
  refine c_newaI (pc := 15) (N := 6) (sh8 := [(8, [4, 6, 14, 19, 22, 2, 2, 2, 2, 0, 0]), (6, [5, 0]), (101, [320]), (7, [7, 12, 0, 0, 4, 13, 0, 0, 0, 0, 0, 0, 0, 0, 0]), (0, [0, 0, 8, 0, 9, 0, 10, 0, 11]), (100, [12]), (100, [16]), (100, [8]), (3, [1, 0]), (103, [6]), (3, [1, 0]), (0, [0, 0, 15, 0, 16, 0, 17, 0, 18]), (100, [12]), (100, [16]), (100, [8]), (3, [1, 0]), (2, [20, 0, 0, 21]), (103, [6]), (100, [6]), (104, [0, 0]), (2, [24, 0, 0, 2]), (103, [6]), (100, [6])]) (a9 := 22) d_Minds_init_15 (by decide) (by decide) ac_int (Nat.le_of_ble_eq_true rfl) ⟨by funext y; simp [si, zM], by funext y; simp [si, zM]⟩ (Nat.le_of_ble_eq_true rfl) (Nat.le_of_ble_eq_true rfl) (Nat.le_of_ble_eq_true rfl) rfl rfl ?_
  refine c_putR (pc := 17) (sh8 := [(8, [4, 6, 14, 19, 22, 2, 2, 2, 2, 0, 0]), (6, [5, 0]), (101, [320]), (7, [7, 12, 0, 0, 4, 13, 0, 0, 0, 0, 0, 0, 0, 0, 0]), (0, [0, 0, 8, 0, 9, 0, 10, 0, 11]), (100, [12]), (100, [16]), (100, [8]), (3, [1, 0]), (103, [6]), (3, [1, 0]), (0, [0, 0, 15, 0, 16, 0, 17, 0, 18]), (100, [12]), (100, [16]), (100, [8]), (3, [1, 0]), (2, [20, 0, 0, 21]), (103, [6]), (100, [6]), (104, [0, 0]), (2, [24, 0, 0, 25]), (103, [6]), (100, [6])]) d_Minds_init_17 fl_Minds_15 rfl rfl (by decide) (by decide) (Nat.le_of_ble_eq_true rfl) (fun C T N h => by cases h; rfl) rfl ?_
  exact c_return (pc := 20) d_Minds_init_20 (Nat.le_of_ble_eq_true rfl) (Nat.le_of_ble_eq_true rfl) rfl rfl
set_option maxRecDepth 20000 in
set_option maxHeartbeats 4000000 in
theorem CC_10 : CtC y_Minds_init mtC_Minds [Value.ref 23] [(8, [4, 6, 14, 19, 22, 2, 2, 2, 2, 0, 0]), (6, [5, 0]), (101, [320]), (7, [7, 12, 0, 0, 4, 13, 0, 0, 0, 0, 0, 0, 0, 0, 0]), (0, [0, 0, 8, 0, 9, 0, 10, 0, 11]), (100, [12]), (100, [16]), (100, [8]), (3, [1, 0]), (103, [6]), (3, [1, 0]), (0, [0, 0, 15, 0, 16, 0, 17, 0, 18]), (100, [12]), (100, [16]), (100, [8]), (3, [1, 0]), (2, [20, 0, 0, 21]), (103, [6]), (100, [6]), (104, [21, 0]), (2, [24, 0, 0, 25]), (103, [6]), (100, [6]), (2, [2, 0, 0, 2])] (si (si (si (si zM 4 0 3) 4 1 9) 11 0 3) 11 1 9) (PC [(8, [4, 6, 14, 19, 22, 2, 2, 2, 2, 0, 0]), (6, [5, 0]), (101, [320]), (7, [7, 12, 0, 0, 4, 13, 0, 0, 0, 0, 0, 0, 0, 0, 0]), (0, [0, 0, 8, 0, 9, 0, 10, 0, 11]), (100, [12]), (100, [16]), (100, [8]), (3, [1, 0]), (103, [6]), (3, [1, 0]), (0, [0, 0, 15, 0, 16, 0, 17, 0, 18]), (100, [12]), (100, [16]), (100, [8]), (3, [1, 0]), (2, [20, 0, 0, 21]), (103, [6]), (100, [6]), (104, [21, 0]), (2, [24, 0, 0, 25]), (103, [6]), (100, [6]), (2, [27, 0, 0, 28]), (103, [6]), (100, [6])] (si (si (si (si zM 4 0 3) 4 1 9) 11 0 3) 11 1 9)) 2 12 := by
  refine ctc_of (by decide +kernel) rfl rfl (Nat.le_of_ble_eq_true rfl) ?_
  refine c_aload_n (pc := 0) (q := 0) d_Minds_init_0 rfl rfl ?_
  refine c_objInit (pc := 1) d_Minds_init_1 oi_Minds_3 (Nat.le_of_ble_eq_true rfl) (Nat.le_of_ble_eq_true rfl) ?_
  refine c_aload_n (pc := 4) (q := 0) d_Minds_init_4 rfl rfl ?_
  refine c_bipush (pc := 5) d_Minds_init_5 k_b_6 ?_
  refine c_newaL (pc := 7) (N := 6) (sh8 := [(8, [4, 6, 14, 19, 22, 2, 2, 2, 2, 0, 0]), (6, [5, 0]), (101, [320]), (7, [7, 12, 0, 0, 4, 13, 0, 0, 0, 0, 0, 0, 0, 0, 0]), (0, [0, 0, 8, 0, 9, 0, 10, 0, 11]), (100, [12]), (100, [16]), (100, [8]), (3, [1, 0]), (103, [6]), (3, [1, 0]), (0, [0, 0, 15, 0, 16, 0, 17, 0, 18]), (100, [12]), (100, [16]), (100, [8]), (3, [1, 0]), (2, [20, 0, 0, 21]), (103, [6]), (100, [6]), (104, [21, 0]), (2, [24, 0, 0, 25]), (103, [6]), (100, [6]), (2, [2, 0, 0, 2]), (103, [6])]) (a9 := 24) d_Minds_init_7 (by decide) (by decide) ac_long (Nat.le_of_ble_eq_true rfl) ⟨by funext y; simp [si, zM], by funext y; simp [si, zM]⟩ (Nat.le_of_ble_eq_true rfl) (Nat.le_of_ble_eq_true rfl) (Nat.le_of_ble_eq_true rfl) rfl rfl ?_
  refine c_putR (pc := 9) (sh8 := [(8, [4, 6, 14, 19, 22, 2, 2, 2, 2, 0, 0]), (6, [5, 0]), (101, [320]), (7, [7, 12, 0, 0, 4, 13, 0, 0, 0, 0, 0, 0, 0, 0, 0]), (0, [0, 0, 8, 0, 9, 0, 10, 0, 11]), (100, [12]), (100, [16]), (100, [8]), (3, [1, 0]), (103, [6]), (3, [1, 0]), (0, [0, 0, 15, 0, 16, 0, 17, 0, 18]), (100, [12]), (100, [16]), (100, [8]), (3, [1, 0]), (2, [20, 0, 0, 21]), (103, [6]), (100, [6]), (104, [21, 0]), (2, [24, 0, 0, 25]), (103, [6]), (100, [6]), (2, [27, 0, 0, 2]), (103, [6])]) d_Minds_init_9 fl_Minds_9 rfl rfl (by decide) (by decide) (Nat.le_of_ble_eq_true rfl) (fun C T N h => by cases h; rfl) rfl ?_
  refine c_aload_n (pc := 12) (q := 0) d_Minds_init_12 rfl rfl ?_
  refine c_bipush (pc := 13) d_Minds_init_13 k_b_6 ?_
  refine c_newaI (pc := 15) (N := 6) (sh8 := [(8, [4, 6, 14, 19, 22, 2, 2, 2, 2, 0, 0]), (6, [5, 0]), (101, [320]), (7, [7, 12, 0, 0, 4, 13, 0, 0, 0, 0, 0, 0, 0, 0, 0]), (0, [0, 0, 8, 0, 9, 0, 10, 0, 11]), (100, [12]), (100, [16]), (100, [8]), (3, [1, 0]), (103, [6]), (3, [1, 0]), (0, [0, 0, 15, 0, 16, 0, 17, 0, 18]), (100, [12]), (100, [16]), (100, [8]), (3, [1, 0]), (2, [20, 0, 0, 21]), (103, [6]), (100, [6]), (104, [21, 0]), (2, [24, 0, 0, 25]), (103, [6]), (100, [6]), (2, [27, 0, 0, 2]), (103, [6]), (100, [6])]) (a9 := 25) d_Minds_init_15 (by decide) (by decide) ac_int (Nat.le_of_ble_eq_true rfl) ⟨by funext y; simp [si, zM], by funext y; simp [si, zM]⟩ (Nat.le_of_ble_eq_true rfl) (Nat.le_of_ble_eq_true rfl) (Nat.le_of_ble_eq_true rfl) rfl rfl ?_
  refine c_putR (pc := 17) (sh8 := [(8, [4, 6, 14, 19, 22, 2, 2, 2, 2, 0, 0]), (6, [5, 0]), (101, [320]), (7, [7, 12, 0, 0, 4, 13, 0, 0, 0, 0, 0, 0, 0, 0, 0]), (0, [0, 0, 8, 0, 9, 0, 10, 0, 11]), (100, [12]), (100, [16]), (100, [8]), (3, [1, 0]), (103, [6]), (3, [1, 0]), (0, [0, 0, 15, 0, 16, 0, 17, 0, 18]), (100, [12]), (100, [16]), (100, [8]), (3, [1, 0]), (2, [20, 0, 0, 21]), (103, [6]), (100, [6]), (104, [21, 0]), (2, [24, 0, 0, 25]), (103, [6]), (100, [6]), (2, [27, 0, 0, 28]), (103, [6]), (100, [6])]) d_Minds_init_17 fl_Minds_15 rfl rfl (by decide) (by decide) (Nat.le_of_ble_eq_true rfl) (fun C T N h => by cases h; rfl) rfl ?_
  exact c_return (pc := 20) d_Minds_init_20 (Nat.le_of_ble_eq_true rfl) (Nat.le_of_ble_eq_true rfl) rfl rfl
set_option maxRecDepth 20000 in
set_option maxHeartbeats 4000000 in
theorem CC_11 : CtC y_Search_init mtC_Search [Value.ref 26, Value.ref 11, Value.ref 16] [(8, [4, 6, 14, 19, 22, 2, 2, 2, 2, 0, 0]), (6, [5, 0]), (101, [320]), (7, [7, 12, 0, 0, 4, 13, 0, 0, 0, 0, 0, 0, 0, 0, 0]), (0, [0, 0, 8, 0, 9, 0, 10, 0, 11]), (100, [12]), (100, [16]), (100, [8]), (3, [1, 0]), (103, [6]), (3, [1, 0]), (0, [0, 0, 15, 0, 16, 0, 17, 0, 18]), (100, [12]), (100, [16]), (100, [8]), (3, [1, 0]), (2, [20, 0, 0, 21]), (103, [6]), (100, [6]), (104, [21, 24]), (2, [24, 0, 0, 25]), (103, [6]), (100, [6]), (2, [27, 0, 0, 28]), (103, [6]), (100, [6]), (4, [2, 2, 0, 0, 0, 2, 2, 2, 0, 0, 0, 0, 0])] (si (si (si (si zM 4 0 3) 4 1 9) 11 0 3) 11 1 9) (PC [(8, [4, 6, 14, 19, 22, 2, 2, 2, 2, 0, 0]), (6, [5, 0]), (101, [320]), (7, [7, 12, 0, 0, 4, 13, 0, 0, 0, 0, 0, 0, 0, 0, 0]), (0, [0, 0, 8, 0, 9, 0, 10, 0, 11]), (100, [12]), (100, [16]), (100, [8]), (3, [1, 0]), (103, [6]), (3, [1, 0]), (0, [0, 0, 15, 0, 16, 0, 17, 0, 18]), (100, [12]), (100, [16]), (100, [8]), (3, [1, 0]), (2, [20, 0, 0, 21]), (103, [6]), (100, [6]), (104, [21, 24]), (2, [24, 0, 0, 25]), (103, [6]), (100, [6]), (2, [27, 0, 0, 28]), (103, [6]), (100, [6]), (4, [30, 31, 0, 0, 0, 32, 14, 19, 0, 0, 0, 0, 0]), (100, [6]), (100, [6]), (106, [31, 32, 33, 34, 35, 36, 37]), (103, [6]), (103, [6]), (103, [6]), (103, [6]), (103, [6]), (103, [6]), (103, [6])] (si (si (si (si zM 4 0 3) 4 1 9) 11 0 3) 11 1 9)) 10 61 := by
  refine ctc_of (by decide +kernel) rfl rfl (Nat.le_of_ble_eq_true rfl) ?_
  refine c_aload_n (pc := 0) (q := 0) d_Search_init_0 rfl rfl ?_
  refine c_objInit (pc := 1) d_Search_init_1 oi_Search_3 (Nat.le_of_ble_eq_true rfl) (Nat.le_of_ble_eq_true rfl) ?_
  refine c_aload_n (pc := 4) (q := 0) d_Search_init_4 rfl rfl ?_
  refine c_bipush (pc := 5) d_Search_init_5 k_b_6 ?_
  refine c_newaI (pc := 7) (N := 6) (sh8 := [(8, [4, 6, 14, 19, 22, 2, 2, 2, 2, 0, 0]), (6, [5, 0]), (101, [320]), (7, [7, 12, 0, 0, 4, 13, 0, 0, 0, 0, 0, 0, 0, 0, 0]), (0, [0, 0, 8, 0, 9, 0, 10, 0, 11]), (100, [12]), (100, [16]), (100, [8]), (3, [1, 0]), (103, [6]), (3, [1, 0]), (0, [0, 0, 15, 0, 16, 0, 17, 0, 18]), (100, [12]), (100, [16]), (100, [8]), (3, [1, 0]), (2, [20, 0, 0, 21]), (103, [6]), (100, [6]), (104, [21, 24]), (2, [24, 0, 0, 25]), (103, [6]), (100, [6]), (2, [27, 0, 0, 28]), (103, [6]), (100, [6]), (4, [2, 2, 0, 0, 0, 2, 2, 2, 0, 0, 0, 0, 0]), (100, [6])]) (a9 := 27) d_Search_init_7 (by decide) (by decide) ac_int (Nat.le_of_ble_eq_true rfl) ⟨by funext y; simp [si, zM], by funext y; simp [si, zM]⟩ (Nat.le_of_ble_eq_true rfl) (Nat.le_of_ble_eq_true rfl) (Nat.le_of_ble_eq_true rfl) rfl rfl ?_
  refine c_putR (pc := 9) (sh8 := [(8, [4, 6, 14, 19, 22, 2, 2, 2, 2, 0, 0]), (6, [5, 0]), (101, [320]), (7, [7, 12, 0, 0, 4, 13, 0, 0, 0, 0, 0, 0, 0, 0, 0]), (0, [0, 0, 8, 0, 9, 0, 10, 0, 11]), (100, [12]), (100, [16]), (100, [8]), (3, [1, 0]), (103, [6]), (3, [1, 0]), (0, [0, 0, 15, 0, 16, 0, 17, 0, 18]), (100, [12]), (100, [16]), (100, [8]), (3, [1, 0]), (2, [20, 0, 0, 21]), (103, [6]), (100, [6]), (104, [21, 24]), (2, [24, 0, 0, 25]), (103, [6]), (100, [6]), (2, [27, 0, 0, 28]), (103, [6]), (100, [6]), (4, [30, 2, 0, 0, 0, 2, 2, 2, 0, 0, 0, 0, 0]), (100, [6])]) d_Search_init_9 fl_Search_11 rfl rfl (by decide) (by decide) (Nat.le_of_ble_eq_true rfl) (fun C T N h => by cases h; rfl) rfl ?_
  refine c_aload_n (pc := 12) (q := 0) d_Search_init_12 rfl rfl ?_
  refine c_bipush (pc := 13) d_Search_init_13 k_b_6 ?_
  refine c_newaI (pc := 15) (N := 6) (sh8 := [(8, [4, 6, 14, 19, 22, 2, 2, 2, 2, 0, 0]), (6, [5, 0]), (101, [320]), (7, [7, 12, 0, 0, 4, 13, 0, 0, 0, 0, 0, 0, 0, 0, 0]), (0, [0, 0, 8, 0, 9, 0, 10, 0, 11]), (100, [12]), (100, [16]), (100, [8]), (3, [1, 0]), (103, [6]), (3, [1, 0]), (0, [0, 0, 15, 0, 16, 0, 17, 0, 18]), (100, [12]), (100, [16]), (100, [8]), (3, [1, 0]), (2, [20, 0, 0, 21]), (103, [6]), (100, [6]), (104, [21, 24]), (2, [24, 0, 0, 25]), (103, [6]), (100, [6]), (2, [27, 0, 0, 28]), (103, [6]), (100, [6]), (4, [30, 2, 0, 0, 0, 2, 2, 2, 0, 0, 0, 0, 0]), (100, [6]), (100, [6])]) (a9 := 28) d_Search_init_15 (by decide) (by decide) ac_int (Nat.le_of_ble_eq_true rfl) ⟨by funext y; simp [si, zM], by funext y; simp [si, zM]⟩ (Nat.le_of_ble_eq_true rfl) (Nat.le_of_ble_eq_true rfl) (Nat.le_of_ble_eq_true rfl) rfl rfl ?_
  refine c_putR (pc := 17) (sh8 := [(8, [4, 6, 14, 19, 22, 2, 2, 2, 2, 0, 0]), (6, [5, 0]), (101, [320]), (7, [7, 12, 0, 0, 4, 13, 0, 0, 0, 0, 0, 0, 0, 0, 0]), (0, [0, 0, 8, 0, 9, 0, 10, 0, 11]), (100, [12]), (100, [16]), (100, [8]), (3, [1, 0]), (103, [6]), (3, [1, 0]), (0, [0, 0, 15, 0, 16, 0, 17, 0, 18]), (100, [12]), (100, [16]), (100, [8]), (3, [1, 0]), (2, [20, 0, 0, 21]), (103, [6]), (100, [6]), (104, [21, 24]), (2, [24, 0, 0, 25]), (103, [6]), (100, [6]), (2, [27, 0, 0, 28]), (103, [6]), (100, [6]), (4, [30, 31, 0, 0, 0, 2, 2, 2, 0, 0, 0, 0, 0]), (100, [6]), (100, [6])]) d_Search_init_17 fl_Search_15 rfl rfl (by decide) (by decide) (Nat.le_of_ble_eq_true rfl) (fun C T N h => by cases h; rfl) rfl ?_
  refine c_aload_n (pc := 20) (q := 0) d_Search_init_20 rfl rfl ?_
  refine c_bipush (pc := 21) d_Search_init_21 k_b_7 ?_
  refine c_bipush (pc := 23) d_Search_init_23 k_b_6 ?_
  refine c_mna (pc := 25) (sh8 := [(8, [4, 6, 14, 19, 22, 2, 2, 2, 2, 0, 0]), (6, [5, 0]), (101, [320]), (7, [7, 12, 0, 0, 4, 13, 0, 0, 0, 0, 0, 0, 0, 0, 0]), (0, [0, 0, 8, 0, 9, 0, 10, 0, 11]), (100, [12]), (100, [16]), (100, [8]), (3, [1, 0]), (103, [6]), (3, [1, 0]), (0, [0, 0, 15, 0, 16, 0, 17, 0, 18]), (100, [12]), (100, [16]), (100, [8]), (3, [1, 0]), (2, [20, 0, 0, 21]), (103, [6]), (100, [6]), (104, [21, 24]), (2, [24, 0, 0, 25]), (103, [6]), (100, [6]), (2, [27, 0, 0, 28]), (103, [6]), (100, [6]), (4, [30, 31, 0, 0, 0, 2, 2, 2, 0, 0, 0, 0, 0]), (100, [6]), (100, [6]), (106, [31, 32, 33, 34, 35, 36, 37]), (103, [6]), (103, [6]), (103, [6]), (103, [6]), (103, [6]), (103, [6]), (103, [6])]) (a9 := 29) d_Search_init_25 cwl_Search_18 ac_long (by decide) (Nat.le_of_ble_eq_true rfl) (Nat.le_of_ble_eq_true rfl) (Nat.le_of_ble_eq_true rfl) (fun r hr => by funext y; simp [si, zM]) rfl rfl ?_
  refine c_putR (pc := 29) (sh8 := [(8, [4, 6, 14, 19, 22, 2, 2, 2, 2, 0, 0]), (6, [5, 0]), (101, [320]), (7, [7, 12, 0, 0, 4, 13, 0, 0, 0, 0, 0, 0, 0, 0, 0]), (0, [0, 0, 8, 0, 9, 0, 10, 0, 11]), (100, [12]), (100, [16]), (100, [8]), (3, [1, 0]), (103, [6]), (3, [1, 0]), (0, [0, 0, 15, 0, 16, 0, 17, 0, 18]), (100, [12]), (100, [16]), (100, [8]), (3, [1, 0]), (2, [20, 0, 0, 21]), (103, [6]), (100, [6]), (104, [21, 24]), (2, [24, 0, 0, 25]), (103, [6]), (100, [6]), (2, [27, 0, 0, 28]), (103, [6]), (100, [6]), (4, [30, 31, 0, 0, 0, 32, 2, 2, 0, 0, 0, 0, 0]), (100, [6]), (100, [6]), (106, [31, 32, 33, 34, 35, 36, 37]), (103, [6]), (103, [6]), (103, [6]), (103, [6]), (103, [6]), (103, [6]), (103, [6])]) d_Search_init_29 fl_Search_20 rfl rfl (by decide) (by decide) (Nat.le_of_ble_eq_true rfl) (fun C T N h => by cases h; rfl) rfl ?_
  refine c_aload_n (pc := 32) (q := 0) d_Search_init_32 rfl rfl ?_
  refine c_aload_n (pc := 33) (q := 1) d_Search_init_33 rfl rfl ?_
  refine c_putR (pc := 34) (sh8 := [(8, [4, 6, 14, 19, 22, 2, 2, 2, 2, 0, 0]), (6, [5, 0]), (101, [320]), (7, [7, 12, 0, 0, 4, 13, 0, 0, 0, 0, 0, 0, 0, 0, 0]), (0, [0, 0, 8, 0, 9, 0, 10, 0, 11]), (100, [12]), (100, [16]), (100, [8]), (3, [1, 0]), (103, [6]), (3, [1, 0]), (0, [0, 0, 15, 0, 16, 0, 17, 0, 18]), (100, [12]), (100, [16]), (100, [8]), (3, [1, 0]), (2, [20, 0, 0, 21]), (103, [6]), (100, [6]), (104, [21, 24]), (2, [24, 0, 0, 25]), (103, [6]), (100, [6]), (2, [27, 0, 0, 28]), (103, [6]), (100, [6]), (4, [30, 31, 0, 0, 0, 32, 14, 2, 0, 0, 0, 0, 0]), (100, [6]), (100, [6]), (106, [31, 32, 33, 34, 35, 36, 37]), (103, [6]), (103, [6]), (103, [6]), (103, [6]), (103, [6]), (103, [6]), (103, [6])]) d_Search_init_34 fl_Search_23 rfl rfl (by decide) (by decide) (Nat.le_of_ble_eq_true rfl) (fun C T N h => by cases h; rfl) rfl ?_
  refine c_aload_n (pc := 37) (q := 0) d_Search_init_37 rfl rfl ?_
  refine c_aload_n (pc := 38) (q := 2) d_Search_init_38 rfl rfl ?_
  refine c_putR (pc := 39) (sh8 := [(8, [4, 6, 14, 19, 22, 2, 2, 2, 2, 0, 0]), (6, [5, 0]), (101, [320]), (7, [7, 12, 0, 0, 4, 13, 0, 0, 0, 0, 0, 0, 0, 0, 0]), (0, [0, 0, 8, 0, 9, 0, 10, 0, 11]), (100, [12]), (100, [16]), (100, [8]), (3, [1, 0]), (103, [6]), (3, [1, 0]), (0, [0, 0, 15, 0, 16, 0, 17, 0, 18]), (100, [12]), (100, [16]), (100, [8]), (3, [1, 0]), (2, [20, 0, 0, 21]), (103, [6]), (100, [6]), (104, [21, 24]), (2, [24, 0, 0, 25]), (103, [6]), (100, [6]), (2, [27, 0, 0, 28]), (103, [6]), (100, [6]), (4, [30, 31, 0, 0, 0, 32, 14, 19, 0, 0, 0, 0, 0]), (100, [6]), (100, [6]), (106, [31, 32, 33, 34, 35, 36, 37]), (103, [6]), (103, [6]), (103, [6]), (103, [6]), (103, [6]), (103, [6]), (103, [6])]) d_Search_init_39 fl_Search_27 rfl rfl (by decide) (by decide) (Nat.le_of_ble_eq_true rfl) (fun C T N h => by cases h; rfl) rfl ?_
  exact c_return (pc := 42) d_Search_init_42 (Nat.le_of_ble_eq_true rfl) (Nat.le_of_ble_eq_true rfl) rfl rfl
set_option maxRecDepth 20000 in
set_option maxHeartbeats 4000000 in
theorem CC_12 : CtC y_Habit_init mtC_Habit [Value.ref 37, Value.ref 11, Value.ref 16] [(8, [4, 6, 14, 19, 22, 29, 2, 2, 2, 0, 0]), (6, [5, 0]), (101, [320]), (7, [7, 12, 0, 0, 4, 13, 0, 0, 0, 0, 0, 0, 0, 0, 0]), (0, [0, 0, 8, 0, 9, 0, 10, 0, 11]), (100, [12]), (100, [16]), (100, [8]), (3, [1, 0]), (103, [6]), (3, [1, 0]), (0, [0, 0, 15, 0, 16, 0, 17, 0, 18]), (100, [12]), (100, [16]), (100, [8]), (3, [1, 0]), (2, [20, 0, 0, 21]), (103, [6]), (100, [6]), (104, [21, 24]), (2, [24, 0, 0, 25]), (103, [6]), (100, [6]), (2, [27, 0, 0, 28]), (103, [6]), (100, [6]), (4, [30, 31, 0, 0, 0, 32, 14, 19, 0, 0, 0, 0, 0]), (100, [6]), (100, [6]), (106, [31, 32, 33, 34, 35, 36, 37]), (103, [6]), (103, [6]), (103, [6]), (103, [6]), (103, [6]), (103, [6]), (103, [6]), (1, [2, 2, 2, 2])] (si (si (si (si zM 4 0 3) 4 1 9) 11 0 3) 11 1 9) (PC [(8, [4, 6, 14, 19, 22, 29, 2, 2, 2, 0, 0]), (6, [5, 0]), (101, [320]), (7, [7, 12, 0, 0, 4, 13, 0, 0, 0, 0, 0, 0, 0, 0, 0]), (0, [0, 0, 8, 0, 9, 0, 10, 0, 11]), (100, [12]), (100, [16]), (100, [8]), (3, [1, 0]), (103, [6]), (3, [1, 0]), (0, [0, 0, 15, 0, 16, 0, 17, 0, 18]), (100, [12]), (100, [16]), (100, [8]), (3, [1, 0]), (2, [20, 0, 0, 21]), (103, [6]), (100, [6]), (104, [21, 24]), (2, [24, 0, 0, 25]), (103, [6]), (100, [6]), (2, [27, 0, 0, 28]), (103, [6]), (100, [6]), (4, [30, 31, 0, 0, 0, 32, 14, 19, 0, 0, 0, 0, 0]), (100, [6]), (100, [6]), (106, [31, 32, 33, 34, 35, 36, 37]), (103, [6]), (103, [6]), (103, [6]), (103, [6]), (103, [6]), (103, [6]), (103, [6]), (1, [41, 42, 14, 19]), (103, [1206]), (103, [6])] (si (si (si (si zM 4 0 3) 4 1 9) 11 0 3) 11 1 9)) 2 1212 := by
  refine ctc_of (by decide +kernel) rfl rfl (Nat.le_of_ble_eq_true rfl) ?_
  refine c_aload_n (pc := 0) (q := 0) d_Habit_init_0 rfl rfl ?_
  refine c_objInit (pc := 1) d_Habit_init_1 oi_Habit_3 (Nat.le_of_ble_eq_true rfl) (Nat.le_of_ble_eq_true rfl) ?_
  refine c_aload_n (pc := 4) (q := 0) d_Habit_init_4 rfl rfl ?_
  refine c_sipush (pc := 5) d_Habit_init_5 k_s_1206 ?_
  refine c_newaL (pc := 8) (N := 1206) (sh8 := [(8, [4, 6, 14, 19, 22, 29, 2, 2, 2, 0, 0]), (6, [5, 0]), (101, [320]), (7, [7, 12, 0, 0, 4, 13, 0, 0, 0, 0, 0, 0, 0, 0, 0]), (0, [0, 0, 8, 0, 9, 0, 10, 0, 11]), (100, [12]), (100, [16]), (100, [8]), (3, [1, 0]), (103, [6]), (3, [1, 0]), (0, [0, 0, 15, 0, 16, 0, 17, 0, 18]), (100, [12]), (100, [16]), (100, [8]), (3, [1, 0]), (2, [20, 0, 0, 21]), (103, [6]), (100, [6]), (104, [21, 24]), (2, [24, 0, 0, 25]), (103, [6]), (100, [6]), (2, [27, 0, 0, 28]), (103, [6]), (100, [6]), (4, [30, 31, 0, 0, 0, 32, 14, 19, 0, 0, 0, 0, 0]), (100, [6]), (100, [6]), (106, [31, 32, 33, 34, 35, 36, 37]), (103, [6]), (103, [6]), (103, [6]), (103, [6]), (103, [6]), (103, [6]), (103, [6]), (1, [2, 2, 2, 2]), (103, [1206])]) (a9 := 38) d_Habit_init_8 (by decide) (by decide) ac_long (Nat.le_of_ble_eq_true rfl) ⟨by funext y; simp [si, zM], by funext y; simp [si, zM]⟩ (Nat.le_of_ble_eq_true rfl) (Nat.le_of_ble_eq_true rfl) (Nat.le_of_ble_eq_true rfl) rfl rfl ?_
  refine c_putR (pc := 10) (sh8 := [(8, [4, 6, 14, 19, 22, 29, 2, 2, 2, 0, 0]), (6, [5, 0]), (101, [320]), (7, [7, 12, 0, 0, 4, 13, 0, 0, 0, 0, 0, 0, 0, 0, 0]), (0, [0, 0, 8, 0, 9, 0, 10, 0, 11]), (100, [12]), (100, [16]), (100, [8]), (3, [1, 0]), (103, [6]), (3, [1, 0]), (0, [0, 0, 15, 0, 16, 0, 17, 0, 18]), (100, [12]), (100, [16]), (100, [8]), (3, [1, 0]), (2, [20, 0, 0, 21]), (103, [6]), (100, [6]), (104, [21, 24]), (2, [24, 0, 0, 25]), (103, [6]), (100, [6]), (2, [27, 0, 0, 28]), (103, [6]), (100, [6]), (4, [30, 31, 0, 0, 0, 32, 14, 19, 0, 0, 0, 0, 0]), (100, [6]), (100, [6]), (106, [31, 32, 33, 34, 35, 36, 37]), (103, [6]), (103, [6]), (103, [6]), (103, [6]), (103, [6]), (103, [6]), (103, [6]), (1, [41, 2, 2, 2]), (103, [1206])]) d_Habit_init_10 fl_Habit_11 rfl rfl (by decide) (by decide) (Nat.le_of_ble_eq_true rfl) (fun C T N h => by cases h; rfl) rfl ?_
  refine c_aload_n (pc := 13) (q := 0) d_Habit_init_13 rfl rfl ?_
  refine c_bipush (pc := 14) d_Habit_init_14 k_b_6 ?_
  refine c_newaL (pc := 16) (N := 6) (sh8 := [(8, [4, 6, 14, 19, 22, 29, 2, 2, 2, 0, 0]), (6, [5, 0]), (101, [320]), (7, [7, 12, 0, 0, 4, 13, 0, 0, 0, 0, 0, 0, 0, 0, 0]), (0, [0, 0, 8, 0, 9, 0, 10, 0, 11]), (100, [12]), (100, [16]), (100, [8]), (3, [1, 0]), (103, [6]), (3, [1, 0]), (0, [0, 0, 15, 0, 16, 0, 17, 0, 18]), (100, [12]), (100, [16]), (100, [8]), (3, [1, 0]), (2, [20, 0, 0, 21]), (103, [6]), (100, [6]), (104, [21, 24]), (2, [24, 0, 0, 25]), (103, [6]), (100, [6]), (2, [27, 0, 0, 28]), (103, [6]), (100, [6]), (4, [30, 31, 0, 0, 0, 32, 14, 19, 0, 0, 0, 0, 0]), (100, [6]), (100, [6]), (106, [31, 32, 33, 34, 35, 36, 37]), (103, [6]), (103, [6]), (103, [6]), (103, [6]), (103, [6]), (103, [6]), (103, [6]), (1, [41, 2, 2, 2]), (103, [1206]), (103, [6])]) (a9 := 39) d_Habit_init_16 (by decide) (by decide) ac_long (Nat.le_of_ble_eq_true rfl) ⟨by funext y; simp [si, zM], by funext y; simp [si, zM]⟩ (Nat.le_of_ble_eq_true rfl) (Nat.le_of_ble_eq_true rfl) (Nat.le_of_ble_eq_true rfl) rfl rfl ?_
  refine c_putR (pc := 18) (sh8 := [(8, [4, 6, 14, 19, 22, 29, 2, 2, 2, 0, 0]), (6, [5, 0]), (101, [320]), (7, [7, 12, 0, 0, 4, 13, 0, 0, 0, 0, 0, 0, 0, 0, 0]), (0, [0, 0, 8, 0, 9, 0, 10, 0, 11]), (100, [12]), (100, [16]), (100, [8]), (3, [1, 0]), (103, [6]), (3, [1, 0]), (0, [0, 0, 15, 0, 16, 0, 17, 0, 18]), (100, [12]), (100, [16]), (100, [8]), (3, [1, 0]), (2, [20, 0, 0, 21]), (103, [6]), (100, [6]), (104, [21, 24]), (2, [24, 0, 0, 25]), (103, [6]), (100, [6]), (2, [27, 0, 0, 28]), (103, [6]), (100, [6]), (4, [30, 31, 0, 0, 0, 32, 14, 19, 0, 0, 0, 0, 0]), (100, [6]), (100, [6]), (106, [31, 32, 33, 34, 35, 36, 37]), (103, [6]), (103, [6]), (103, [6]), (103, [6]), (103, [6]), (103, [6]), (103, [6]), (1, [41, 42, 2, 2]), (103, [1206]), (103, [6])]) d_Habit_init_18 fl_Habit_15 rfl rfl (by decide) (by decide) (Nat.le_of_ble_eq_true rfl) (fun C T N h => by cases h; rfl) rfl ?_
  refine c_aload_n (pc := 21) (q := 0) d_Habit_init_21 rfl rfl ?_
  refine c_aload_n (pc := 22) (q := 1) d_Habit_init_22 rfl rfl ?_
  refine c_putR (pc := 23) (sh8 := [(8, [4, 6, 14, 19, 22, 29, 2, 2, 2, 0, 0]), (6, [5, 0]), (101, [320]), (7, [7, 12, 0, 0, 4, 13, 0, 0, 0, 0, 0, 0, 0, 0, 0]), (0, [0, 0, 8, 0, 9, 0, 10, 0, 11]), (100, [12]), (100, [16]), (100, [8]), (3, [1, 0]), (103, [6]), (3, [1, 0]), (0, [0, 0, 15, 0, 16, 0, 17, 0, 18]), (100, [12]), (100, [16]), (100, [8]), (3, [1, 0]), (2, [20, 0, 0, 21]), (103, [6]), (100, [6]), (104, [21, 24]), (2, [24, 0, 0, 25]), (103, [6]), (100, [6]), (2, [27, 0, 0, 28]), (103, [6]), (100, [6]), (4, [30, 31, 0, 0, 0, 32, 14, 19, 0, 0, 0, 0, 0]), (100, [6]), (100, [6]), (106, [31, 32, 33, 34, 35, 36, 37]), (103, [6]), (103, [6]), (103, [6]), (103, [6]), (103, [6]), (103, [6]), (103, [6]), (1, [41, 42, 14, 2]), (103, [1206]), (103, [6])]) d_Habit_init_23 fl_Habit_18 rfl rfl (by decide) (by decide) (Nat.le_of_ble_eq_true rfl) (fun C T N h => by cases h; rfl) rfl ?_
  refine c_aload_n (pc := 26) (q := 0) d_Habit_init_26 rfl rfl ?_
  refine c_aload_n (pc := 27) (q := 2) d_Habit_init_27 rfl rfl ?_
  refine c_putR (pc := 28) (sh8 := [(8, [4, 6, 14, 19, 22, 29, 2, 2, 2, 0, 0]), (6, [5, 0]), (101, [320]), (7, [7, 12, 0, 0, 4, 13, 0, 0, 0, 0, 0, 0, 0, 0, 0]), (0, [0, 0, 8, 0, 9, 0, 10, 0, 11]), (100, [12]), (100, [16]), (100, [8]), (3, [1, 0]), (103, [6]), (3, [1, 0]), (0, [0, 0, 15, 0, 16, 0, 17, 0, 18]), (100, [12]), (100, [16]), (100, [8]), (3, [1, 0]), (2, [20, 0, 0, 21]), (103, [6]), (100, [6]), (104, [21, 24]), (2, [24, 0, 0, 25]), (103, [6]), (100, [6]), (2, [27, 0, 0, 28]), (103, [6]), (100, [6]), (4, [30, 31, 0, 0, 0, 32, 14, 19, 0, 0, 0, 0, 0]), (100, [6]), (100, [6]), (106, [31, 32, 33, 34, 35, 36, 37]), (103, [6]), (103, [6]), (103, [6]), (103, [6]), (103, [6]), (103, [6]), (103, [6]), (1, [41, 42, 14, 19]), (103, [1206]), (103, [6])]) d_Habit_init_28 fl_Habit_22 rfl rfl (by decide) (by decide) (Nat.le_of_ble_eq_true rfl) (fun C T N h => by cases h; rfl) rfl ?_
  exact c_return (pc := 31) d_Habit_init_31 (Nat.le_of_ble_eq_true rfl) (Nat.le_of_ble_eq_true rfl) rfl rfl
set_option maxRecDepth 20000 in
set_option maxHeartbeats 4000000 in
theorem CC_13 : CtC y_Sheet_init mtC_Sheet [Value.ref 41] [(8, [4, 6, 14, 19, 22, 29, 40, 43, 2, 0, 0]), (6, [5, 0]), (101, [320]), (7, [7, 12, 0, 0, 4, 13, 0, 0, 0, 0, 0, 0, 0, 0, 0]), (0, [0, 0, 8, 0, 9, 0, 10, 0, 11]), (100, [12]), (100, [16]), (100, [8]), (3, [1, 0]), (103, [6]), (3, [1, 0]), (0, [0, 0, 15, 0, 16, 0, 17, 0, 18]), (100, [12]), (100, [16]), (100, [8]), (3, [1, 0]), (2, [20, 0, 0, 21]), (103, [6]), (100, [6]), (104, [21, 24]), (2, [24, 0, 0, 25]), (103, [6]), (100, [6]), (2, [27, 0, 0, 28]), (103, [6]), (100, [6]), (4, [30, 31, 0, 0, 0, 32, 14, 19, 0, 0, 0, 0, 0]), (100, [6]), (100, [6]), (106, [31, 32, 33, 34, 35, 36, 37]), (103, [6]), (103, [6]), (103, [6]), (103, [6]), (103, [6]), (103, [6]), (103, [6]), (1, [41, 42, 14, 19]), (103, [1206]), (103, [6]), (105, [0, 0, 0, 0]), (5, [0, 0, 0, 2])] (si (si (si (si zM 4 0 3) 4 1 9) 11 0 3) 11 1 9) (PC [(8, [4, 6, 14, 19, 22, 29, 40, 43, 2, 0, 0]), (6, [5, 0]), (101, [320]), (7, [7, 12, 0, 0, 4, 13, 0, 0, 0, 0, 0, 0, 0, 0, 0]), (0, [0, 0, 8, 0, 9, 0, 10, 0, 11]), (100, [12]), (100, [16]), (100, [8]), (3, [1, 0]), (103, [6]), (3, [1, 0]), (0, [0, 0, 15, 0, 16, 0, 17, 0, 18]), (100, [12]), (100, [16]), (100, [8]), (3, [1, 0]), (2, [20, 0, 0, 21]), (103, [6]), (100, [6]), (104, [21, 24]), (2, [24, 0, 0, 25]), (103, [6]), (100, [6]), (2, [27, 0, 0, 28]), (103, [6]), (100, [6]), (4, [30, 31, 0, 0, 0, 32, 14, 19, 0, 0, 0, 0, 0]), (100, [6]), (100, [6]), (106, [31, 32, 33, 34, 35, 36, 37]), (103, [6]), (103, [6]), (103, [6]), (103, [6]), (103, [6]), (103, [6]), (103, [6]), (1, [41, 42, 14, 19]), (103, [1206]), (103, [6]), (105, [0, 0, 0, 0]), (5, [0, 0, 0, 45]), (100, [40])] (si (si (si (si zM 4 0 3) 4 1 9) 11 0 3) 11 1 9)) 1 40 := by
  refine ctc_of (by decide +kernel) rfl rfl (Nat.le_of_ble_eq_true rfl) ?_
  refine c_aload_n (pc := 0) (q := 0) d_Sheet_init_0 rfl rfl ?_
  refine c_objInit (pc := 1) d_Sheet_init_1 oi_Sheet_1 (Nat.le_of_ble_eq_true rfl) (Nat.le_of_ble_eq_true rfl) ?_
  refine c_aload_n (pc := 4) (q := 0) d_Sheet_init_4 rfl rfl ?_
  refine c_bipush (pc := 5) d_Sheet_init_5 k_b_40 ?_
  refine c_newaI (pc := 7) (N := 40) (sh8 := [(8, [4, 6, 14, 19, 22, 29, 40, 43, 2, 0, 0]), (6, [5, 0]), (101, [320]), (7, [7, 12, 0, 0, 4, 13, 0, 0, 0, 0, 0, 0, 0, 0, 0]), (0, [0, 0, 8, 0, 9, 0, 10, 0, 11]), (100, [12]), (100, [16]), (100, [8]), (3, [1, 0]), (103, [6]), (3, [1, 0]), (0, [0, 0, 15, 0, 16, 0, 17, 0, 18]), (100, [12]), (100, [16]), (100, [8]), (3, [1, 0]), (2, [20, 0, 0, 21]), (103, [6]), (100, [6]), (104, [21, 24]), (2, [24, 0, 0, 25]), (103, [6]), (100, [6]), (2, [27, 0, 0, 28]), (103, [6]), (100, [6]), (4, [30, 31, 0, 0, 0, 32, 14, 19, 0, 0, 0, 0, 0]), (100, [6]), (100, [6]), (106, [31, 32, 33, 34, 35, 36, 37]), (103, [6]), (103, [6]), (103, [6]), (103, [6]), (103, [6]), (103, [6]), (103, [6]), (1, [41, 42, 14, 19]), (103, [1206]), (103, [6]), (105, [0, 0, 0, 0]), (5, [0, 0, 0, 2]), (100, [40])]) (a9 := 42) d_Sheet_init_7 (by decide) (by decide) ac_int (Nat.le_of_ble_eq_true rfl) ⟨by funext y; simp [si, zM], by funext y; simp [si, zM]⟩ (Nat.le_of_ble_eq_true rfl) (Nat.le_of_ble_eq_true rfl) (Nat.le_of_ble_eq_true rfl) rfl rfl ?_
  refine c_putR (pc := 9) (sh8 := [(8, [4, 6, 14, 19, 22, 29, 40, 43, 2, 0, 0]), (6, [5, 0]), (101, [320]), (7, [7, 12, 0, 0, 4, 13, 0, 0, 0, 0, 0, 0, 0, 0, 0]), (0, [0, 0, 8, 0, 9, 0, 10, 0, 11]), (100, [12]), (100, [16]), (100, [8]), (3, [1, 0]), (103, [6]), (3, [1, 0]), (0, [0, 0, 15, 0, 16, 0, 17, 0, 18]), (100, [12]), (100, [16]), (100, [8]), (3, [1, 0]), (2, [20, 0, 0, 21]), (103, [6]), (100, [6]), (104, [21, 24]), (2, [24, 0, 0, 25]), (103, [6]), (100, [6]), (2, [27, 0, 0, 28]), (103, [6]), (100, [6]), (4, [30, 31, 0, 0, 0, 32, 14, 19, 0, 0, 0, 0, 0]), (100, [6]), (100, [6]), (106, [31, 32, 33, 34, 35, 36, 37]), (103, [6]), (103, [6]), (103, [6]), (103, [6]), (103, [6]), (103, [6]), (103, [6]), (1, [41, 42, 14, 19]), (103, [1206]), (103, [6]), (105, [0, 0, 0, 0]), (5, [0, 0, 0, 45]), (100, [40])]) d_Sheet_init_9 fl_Sheet_9 rfl rfl (by decide) (by decide) (Nat.le_of_ble_eq_true rfl) (fun C T N h => by cases h; rfl) rfl ?_
  exact c_return (pc := 12) d_Sheet_init_12 (Nat.le_of_ble_eq_true rfl) (Nat.le_of_ble_eq_true rfl) rfl rfl
set_option maxRecDepth 20000 in
set_option maxHeartbeats 4000000 in
theorem CC_14 : CtC y_Sheet_init mtC_Sheet [Value.ref 43] [(8, [4, 6, 14, 19, 22, 29, 40, 43, 2, 0, 0]), (6, [5, 0]), (101, [320]), (7, [7, 12, 0, 0, 4, 13, 0, 0, 0, 0, 0, 0, 0, 0, 0]), (0, [0, 0, 8, 0, 9, 0, 10, 0, 11]), (100, [12]), (100, [16]), (100, [8]), (3, [1, 0]), (103, [6]), (3, [1, 0]), (0, [0, 0, 15, 0, 16, 0, 17, 0, 18]), (100, [12]), (100, [16]), (100, [8]), (3, [1, 0]), (2, [20, 0, 0, 21]), (103, [6]), (100, [6]), (104, [21, 24]), (2, [24, 0, 0, 25]), (103, [6]), (100, [6]), (2, [27, 0, 0, 28]), (103, [6]), (100, [6]), (4, [30, 31, 0, 0, 0, 32, 14, 19, 0, 0, 0, 0, 0]), (100, [6]), (100, [6]), (106, [31, 32, 33, 34, 35, 36, 37]), (103, [6]), (103, [6]), (103, [6]), (103, [6]), (103, [6]), (103, [6]), (103, [6]), (1, [41, 42, 14, 19]), (103, [1206]), (103, [6]), (105, [42, 0, 0, 0]), (5, [0, 0, 0, 45]), (100, [40]), (5, [0, 0, 0, 2])] (si (si (si (si zM 4 0 3) 4 1 9) 11 0 3) 11 1 9) (PC [(8, [4, 6, 14, 19, 22, 29, 40, 43, 2, 0, 0]), (6, [5, 0]), (101, [320]), (7, [7, 12, 0, 0, 4, 13, 0, 0, 0, 0, 0, 0, 0, 0, 0]), (0, [0, 0, 8, 0, 9, 0, 10, 0, 11]), (100, [12]), (100, [16]), (100, [8]), (3, [1, 0]), (103, [6]), (3, [1, 0]), (0, [0, 0, 15, 0, 16, 0, 17, 0, 18]), (100, [12]), (100, [16]), (100, [8]), (3, [1, 0]), (2, [20, 0, 0, 21]), (103, [6]), (100, [6]), (104, [21, 24]), (2, [24, 0, 0, 25]), (103, [6]), (100, [6]), (2, [27, 0, 0, 28]), (103, [6]), (100, [6]), (4, [30, 31, 0, 0, 0, 32, 14, 19, 0, 0, 0, 0, 0]), (100, [6]), (100, [6]), (106, [31, 32, 33, 34, 35, 36, 37]), (103, [6]), (103, [6]), (103, [6]), (103, [6]), (103, [6]), (103, [6]), (103, [6]), (1, [41, 42, 14, 19]), (103, [1206]), (103, [6]), (105, [42, 0, 0, 0]), (5, [0, 0, 0, 45]), (100, [40]), (5, [0, 0, 0, 47]), (100, [40])] (si (si (si (si zM 4 0 3) 4 1 9) 11 0 3) 11 1 9)) 1 40 := by
  refine ctc_of (by decide +kernel) rfl rfl (Nat.le_of_ble_eq_true rfl) ?_
  refine c_aload_n (pc := 0) (q := 0) d_Sheet_init_0 rfl rfl ?_
  refine c_objInit (pc := 1) d_Sheet_init_1 oi_Sheet_1 (Nat.le_of_ble_eq_true rfl) (Nat.le_of_ble_eq_true rfl) ?_
  refine c_aload_n (pc := 4) (q := 0) d_Sheet_init_4 rfl rfl ?_
  refine c_bipush (pc := 5) d_Sheet_init_5 k_b_40 ?_
  refine c_newaI (pc := 7) (N := 40) (sh8 := [(8, [4, 6, 14, 19, 22, 29, 40, 43, 2, 0, 0]), (6, [5, 0]), (101, [320]), (7, [7, 12, 0, 0, 4, 13, 0, 0, 0, 0, 0, 0, 0, 0, 0]), (0, [0, 0, 8, 0, 9, 0, 10, 0, 11]), (100, [12]), (100, [16]), (100, [8]), (3, [1, 0]), (103, [6]), (3, [1, 0]), (0, [0, 0, 15, 0, 16, 0, 17, 0, 18]), (100, [12]), (100, [16]), (100, [8]), (3, [1, 0]), (2, [20, 0, 0, 21]), (103, [6]), (100, [6]), (104, [21, 24]), (2, [24, 0, 0, 25]), (103, [6]), (100, [6]), (2, [27, 0, 0, 28]), (103, [6]), (100, [6]), (4, [30, 31, 0, 0, 0, 32, 14, 19, 0, 0, 0, 0, 0]), (100, [6]), (100, [6]), (106, [31, 32, 33, 34, 35, 36, 37]), (103, [6]), (103, [6]), (103, [6]), (103, [6]), (103, [6]), (103, [6]), (103, [6]), (1, [41, 42, 14, 19]), (103, [1206]), (103, [6]), (105, [42, 0, 0, 0]), (5, [0, 0, 0, 45]), (100, [40]), (5, [0, 0, 0, 2]), (100, [40])]) (a9 := 44) d_Sheet_init_7 (by decide) (by decide) ac_int (Nat.le_of_ble_eq_true rfl) ⟨by funext y; simp [si, zM], by funext y; simp [si, zM]⟩ (Nat.le_of_ble_eq_true rfl) (Nat.le_of_ble_eq_true rfl) (Nat.le_of_ble_eq_true rfl) rfl rfl ?_
  refine c_putR (pc := 9) (sh8 := [(8, [4, 6, 14, 19, 22, 29, 40, 43, 2, 0, 0]), (6, [5, 0]), (101, [320]), (7, [7, 12, 0, 0, 4, 13, 0, 0, 0, 0, 0, 0, 0, 0, 0]), (0, [0, 0, 8, 0, 9, 0, 10, 0, 11]), (100, [12]), (100, [16]), (100, [8]), (3, [1, 0]), (103, [6]), (3, [1, 0]), (0, [0, 0, 15, 0, 16, 0, 17, 0, 18]), (100, [12]), (100, [16]), (100, [8]), (3, [1, 0]), (2, [20, 0, 0, 21]), (103, [6]), (100, [6]), (104, [21, 24]), (2, [24, 0, 0, 25]), (103, [6]), (100, [6]), (2, [27, 0, 0, 28]), (103, [6]), (100, [6]), (4, [30, 31, 0, 0, 0, 32, 14, 19, 0, 0, 0, 0, 0]), (100, [6]), (100, [6]), (106, [31, 32, 33, 34, 35, 36, 37]), (103, [6]), (103, [6]), (103, [6]), (103, [6]), (103, [6]), (103, [6]), (103, [6]), (1, [41, 42, 14, 19]), (103, [1206]), (103, [6]), (105, [42, 0, 0, 0]), (5, [0, 0, 0, 45]), (100, [40]), (5, [0, 0, 0, 47]), (100, [40])]) d_Sheet_init_9 fl_Sheet_9 rfl rfl (by decide) (by decide) (Nat.le_of_ble_eq_true rfl) (fun C T N h => by cases h; rfl) rfl ?_
  exact c_return (pc := 12) d_Sheet_init_12 (Nat.le_of_ble_eq_true rfl) (Nat.le_of_ble_eq_true rfl) rfl rfl
set_option maxRecDepth 20000 in
set_option maxHeartbeats 4000000 in
theorem CC_15 : CtC y_Sheet_init mtC_Sheet [Value.ref 45] [(8, [4, 6, 14, 19, 22, 29, 40, 43, 2, 0, 0]), (6, [5, 0]), (101, [320]), (7, [7, 12, 0, 0, 4, 13, 0, 0, 0, 0, 0, 0, 0, 0, 0]), (0, [0, 0, 8, 0, 9, 0, 10, 0, 11]), (100, [12]), (100, [16]), (100, [8]), (3, [1, 0]), (103, [6]), (3, [1, 0]), (0, [0, 0, 15, 0, 16, 0, 17, 0, 18]), (100, [12]), (100, [16]), (100, [8]), (3, [1, 0]), (2, [20, 0, 0, 21]), (103, [6]), (100, [6]), (104, [21, 24]), (2, [24, 0, 0, 25]), (103, [6]), (100, [6]), (2, [27, 0, 0, 28]), (103, [6]), (100, [6]), (4, [30, 31, 0, 0, 0, 32, 14, 19, 0, 0, 0, 0, 0]), (100, [6]), (100, [6]), (106, [31, 32, 33, 34, 35, 36, 37]), (103, [6]), (103, [6]), (103, [6]), (103, [6]), (103, [6]), (103, [6]), (103, [6]), (1, [41, 42, 14, 19]), (103, [1206]), (103, [6]), (105, [42, 44, 0, 0]), (5, [0, 0, 0, 45]), (100, [40]), (5, [0, 0, 0, 47]), (100, [40]), (5, [0, 0, 0, 2])] (si (si (si (si zM 4 0 3) 4 1 9) 11 0 3) 11 1 9) (PC [(8, [4, 6, 14, 19, 22, 29, 40, 43, 2, 0, 0]), (6, [5, 0]), (101, [320]), (7, [7, 12, 0, 0, 4, 13, 0, 0, 0, 0, 0, 0, 0, 0, 0]), (0, [0, 0, 8, 0, 9, 0, 10, 0, 11]), (100, [12]), (100, [16]), (100, [8]), (3, [1, 0]), (103, [6]), (3, [1, 0]), (0, [0, 0, 15, 0, 16, 0, 17, 0, 18]), (100, [12]), (100, [16]), (100, [8]), (3, [1, 0]), (2, [20, 0, 0, 21]), (103, [6]), (100, [6]), (104, [21, 24]), (2, [24, 0, 0, 25]), (103, [6]), (100, [6]), (2, [27, 0, 0, 28]), (103, [6]), (100, [6]), (4, [30, 31, 0, 0, 0, 32, 14, 19, 0, 0, 0, 0, 0]), (100, [6]), (100, [6]), (106, [31, 32, 33, 34, 35, 36, 37]), (103, [6]), (103, [6]), (103, [6]), (103, [6]), (103, [6]), (103, [6]), (103, [6]), (1, [41, 42, 14, 19]), (103, [1206]), (103, [6]), (105, [42, 44, 0, 0]), (5, [0, 0, 0, 45]), (100, [40]), (5, [0, 0, 0, 47]), (100, [40]), (5, [0, 0, 0, 49]), (100, [40])] (si (si (si (si zM 4 0 3) 4 1 9) 11 0 3) 11 1 9)) 1 40 := by
  refine ctc_of (by decide +kernel) rfl rfl (Nat.le_of_ble_eq_true rfl) ?_
  refine c_aload_n (pc := 0) (q := 0) d_Sheet_init_0 rfl rfl ?_
  refine c_objInit (pc := 1) d_Sheet_init_1 oi_Sheet_1 (Nat.le_of_ble_eq_true rfl) (Nat.le_of_ble_eq_true rfl) ?_
  refine c_aload_n (pc := 4) (q := 0) d_Sheet_init_4 rfl rfl ?_
  refine c_bipush (pc := 5) d_Sheet_init_5 k_b_40 ?_
  refine c_newaI (pc := 7) (N := 40) (sh8 := [(8, [4, 6, 14, 19, 22, 29, 40, 43, 2, 0, 0]), (6, [5, 0]), (101, [320]), (7, [7, 12, 0, 0, 4, 13, 0, 0, 0, 0, 0, 0, 0, 0, 0]), (0, [0, 0, 8, 0, 9, 0, 10, 0, 11]), (100, [12]), (100, [16]), (100, [8]), (3, [1, 0]), (103, [6]), (3, [1, 0]), (0, [0, 0, 15, 0, 16, 0, 17, 0, 18]), (100, [12]), (100, [16]), (100, [8]), (3, [1, 0]), (2, [20, 0, 0, 21]), (103, [6]), (100, [6]), (104, [21, 24]), (2, [24, 0, 0, 25]), (103, [6]), (100, [6]), (2, [27, 0, 0, 28]), (103, [6]), (100, [6]), (4, [30, 31, 0, 0, 0, 32, 14, 19, 0, 0, 0, 0, 0]), (100, [6]), (100, [6]), (106, [31, 32, 33, 34, 35, 36, 37]), (103, [6]), (103, [6]), (103, [6]), (103, [6]), (103, [6]), (103, [6]), (103, [6]), (1, [41, 42, 14, 19]), (103, [1206]), (103, [6]), (105, [42, 44, 0, 0]), (5, [0, 0, 0, 45]), (100, [40]), (5, [0, 0, 0, 47]), (100, [40]), (5, [0, 0, 0, 2]), (100, [40])]) (a9 := 46) d_Sheet_init_7 (by decide) (by decide) ac_int (Nat.le_of_ble_eq_true rfl) ⟨by funext y; simp [si, zM], by funext y; simp [si, zM]⟩ (Nat.le_of_ble_eq_true rfl) (Nat.le_of_ble_eq_true rfl) (Nat.le_of_ble_eq_true rfl) rfl rfl ?_
  refine c_putR (pc := 9) (sh8 := [(8, [4, 6, 14, 19, 22, 29, 40, 43, 2, 0, 0]), (6, [5, 0]), (101, [320]), (7, [7, 12, 0, 0, 4, 13, 0, 0, 0, 0, 0, 0, 0, 0, 0]), (0, [0, 0, 8, 0, 9, 0, 10, 0, 11]), (100, [12]), (100, [16]), (100, [8]), (3, [1, 0]), (103, [6]), (3, [1, 0]), (0, [0, 0, 15, 0, 16, 0, 17, 0, 18]), (100, [12]), (100, [16]), (100, [8]), (3, [1, 0]), (2, [20, 0, 0, 21]), (103, [6]), (100, [6]), (104, [21, 24]), (2, [24, 0, 0, 25]), (103, [6]), (100, [6]), (2, [27, 0, 0, 28]), (103, [6]), (100, [6]), (4, [30, 31, 0, 0, 0, 32, 14, 19, 0, 0, 0, 0, 0]), (100, [6]), (100, [6]), (106, [31, 32, 33, 34, 35, 36, 37]), (103, [6]), (103, [6]), (103, [6]), (103, [6]), (103, [6]), (103, [6]), (103, [6]), (1, [41, 42, 14, 19]), (103, [1206]), (103, [6]), (105, [42, 44, 0, 0]), (5, [0, 0, 0, 45]), (100, [40]), (5, [0, 0, 0, 47]), (100, [40]), (5, [0, 0, 0, 49]), (100, [40])]) d_Sheet_init_9 fl_Sheet_9 rfl rfl (by decide) (by decide) (Nat.le_of_ble_eq_true rfl) (fun C T N h => by cases h; rfl) rfl ?_
  exact c_return (pc := 12) d_Sheet_init_12 (Nat.le_of_ble_eq_true rfl) (Nat.le_of_ble_eq_true rfl) rfl rfl
set_option maxRecDepth 20000 in
set_option maxHeartbeats 4000000 in
theorem CC_16 : CtC y_Sheet_init mtC_Sheet [Value.ref 47] [(8, [4, 6, 14, 19, 22, 29, 40, 43, 2, 0, 0]), (6, [5, 0]), (101, [320]), (7, [7, 12, 0, 0, 4, 13, 0, 0, 0, 0, 0, 0, 0, 0, 0]), (0, [0, 0, 8, 0, 9, 0, 10, 0, 11]), (100, [12]), (100, [16]), (100, [8]), (3, [1, 0]), (103, [6]), (3, [1, 0]), (0, [0, 0, 15, 0, 16, 0, 17, 0, 18]), (100, [12]), (100, [16]), (100, [8]), (3, [1, 0]), (2, [20, 0, 0, 21]), (103, [6]), (100, [6]), (104, [21, 24]), (2, [24, 0, 0, 25]), (103, [6]), (100, [6]), (2, [27, 0, 0, 28]), (103, [6]), (100, [6]), (4, [30, 31, 0, 0, 0, 32, 14, 19, 0, 0, 0, 0, 0]), (100, [6]), (100, [6]), (106, [31, 32, 33, 34, 35, 36, 37]), (103, [6]), (103, [6]), (103, [6]), (103, [6]), (103, [6]), (103, [6]), (103, [6]), (1, [41, 42, 14, 19]), (103, [1206]), (103, [6]), (105, [42, 44, 46, 0]), (5, [0, 0, 0, 45]), (100, [40]), (5, [0, 0, 0, 47]), (100, [40]), (5, [0, 0, 0, 49]), (100, [40]), (5, [0, 0, 0, 2])] (si (si (si (si zM 4 0 3) 4 1 9) 11 0 3) 11 1 9) (PC [(8, [4, 6, 14, 19, 22, 29, 40, 43, 2, 0, 0]), (6, [5, 0]), (101, [320]), (7, [7, 12, 0, 0, 4, 13, 0, 0, 0, 0, 0, 0, 0, 0, 0]), (0, [0, 0, 8, 0, 9, 0, 10, 0, 11]), (100, [12]), (100, [16]), (100, [8]), (3, [1, 0]), (103, [6]), (3, [1, 0]), (0, [0, 0, 15, 0, 16, 0, 17, 0, 18]), (100, [12]), (100, [16]), (100, [8]), (3, [1, 0]), (2, [20, 0, 0, 21]), (103, [6]), (100, [6]), (104, [21, 24]), (2, [24, 0, 0, 25]), (103, [6]), (100, [6]), (2, [27, 0, 0, 28]), (103, [6]), (100, [6]), (4, [30, 31, 0, 0, 0, 32, 14, 19, 0, 0, 0, 0, 0]), (100, [6]), (100, [6]), (106, [31, 32, 33, 34, 35, 36, 37]), (103, [6]), (103, [6]), (103, [6]), (103, [6]), (103, [6]), (103, [6]), (103, [6]), (1, [41, 42, 14, 19]), (103, [1206]), (103, [6]), (105, [42, 44, 46, 0]), (5, [0, 0, 0, 45]), (100, [40]), (5, [0, 0, 0, 47]), (100, [40]), (5, [0, 0, 0, 49]), (100, [40]), (5, [0, 0, 0, 51]), (100, [40])] (si (si (si (si zM 4 0 3) 4 1 9) 11 0 3) 11 1 9)) 1 40 := by
  refine ctc_of (by decide +kernel) rfl rfl (Nat.le_of_ble_eq_true rfl) ?_
  refine c_aload_n (pc := 0) (q := 0) d_Sheet_init_0 rfl rfl ?_
  refine c_objInit (pc := 1) d_Sheet_init_1 oi_Sheet_1 (Nat.le_of_ble_eq_true rfl) (Nat.le_of_ble_eq_true rfl) ?_
  refine c_aload_n (pc := 4) (q := 0) d_Sheet_init_4 rfl rfl ?_
  refine c_bipush (pc := 5) d_Sheet_init_5 k_b_40 ?_
  refine c_newaI (pc := 7) (N := 40) (sh8 := [(8, [4, 6, 14, 19, 22, 29, 40, 43, 2, 0, 0]), (6, [5, 0]), (101, [320]), (7, [7, 12, 0, 0, 4, 13, 0, 0, 0, 0, 0, 0, 0, 0, 0]), (0, [0, 0, 8, 0, 9, 0, 10, 0, 11]), (100, [12]), (100, [16]), (100, [8]), (3, [1, 0]), (103, [6]), (3, [1, 0]), (0, [0, 0, 15, 0, 16, 0, 17, 0, 18]), (100, [12]), (100, [16]), (100, [8]), (3, [1, 0]), (2, [20, 0, 0, 21]), (103, [6]), (100, [6]), (104, [21, 24]), (2, [24, 0, 0, 25]), (103, [6]), (100, [6]), (2, [27, 0, 0, 28]), (103, [6]), (100, [6]), (4, [30, 31, 0, 0, 0, 32, 14, 19, 0, 0, 0, 0, 0]), (100, [6]), (100, [6]), (106, [31, 32, 33, 34, 35, 36, 37]), (103, [6]), (103, [6]), (103, [6]), (103, [6]), (103, [6]), (103, [6]), (103, [6]), (1, [41, 42, 14, 19]), (103, [1206]), (103, [6]), (105, [42, 44, 46, 0]), (5, [0, 0, 0, 45]), (100, [40]), (5, [0, 0, 0, 47]), (100, [40]), (5, [0, 0, 0, 49]), (100, [40]), (5, [0, 0, 0, 2]), (100, [40])]) (a9 := 48) d_Sheet_init_7 (by decide) (by decide) ac_int (Nat.le_of_ble_eq_true rfl) ⟨by funext y; simp [si, zM], by funext y; simp [si, zM]⟩ (Nat.le_of_ble_eq_true rfl) (Nat.le_of_ble_eq_true rfl) (Nat.le_of_ble_eq_true rfl) rfl rfl ?_
  refine c_putR (pc := 9) (sh8 := [(8, [4, 6, 14, 19, 22, 29, 40, 43, 2, 0, 0]), (6, [5, 0]), (101, [320]), (7, [7, 12, 0, 0, 4, 13, 0, 0, 0, 0, 0, 0, 0, 0, 0]), (0, [0, 0, 8, 0, 9, 0, 10, 0, 11]), (100, [12]), (100, [16]), (100, [8]), (3, [1, 0]), (103, [6]), (3, [1, 0]), (0, [0, 0, 15, 0, 16, 0, 17, 0, 18]), (100, [12]), (100, [16]), (100, [8]), (3, [1, 0]), (2, [20, 0, 0, 21]), (103, [6]), (100, [6]), (104, [21, 24]), (2, [24, 0, 0, 25]), (103, [6]), (100, [6]), (2, [27, 0, 0, 28]), (103, [6]), (100, [6]), (4, [30, 31, 0, 0, 0, 32, 14, 19, 0, 0, 0, 0, 0]), (100, [6]), (100, [6]), (106, [31, 32, 33, 34, 35, 36, 37]), (103, [6]), (103, [6]), (103, [6]), (103, [6]), (103, [6]), (103, [6]), (103, [6]), (1, [41, 42, 14, 19]), (103, [1206]), (103, [6]), (105, [42, 44, 46, 0]), (5, [0, 0, 0, 45]), (100, [40]), (5, [0, 0, 0, 47]), (100, [40]), (5, [0, 0, 0, 49]), (100, [40]), (5, [0, 0, 0, 51]), (100, [40])]) d_Sheet_init_9 fl_Sheet_9 rfl rfl (by decide) (by decide) (Nat.le_of_ble_eq_true rfl) (fun C T N h => by cases h; rfl) rfl ?_
  exact c_return (pc := 12) d_Sheet_init_12 (Nat.le_of_ble_eq_true rfl) (Nat.le_of_ble_eq_true rfl) rfl rfl
set_option maxRecDepth 20000 in
set_option maxHeartbeats 4000000 in
theorem CC_17 : CtC y_ShakeHands_init mtC_ShakeHands [Value.ref 0] [(8, [2, 2, 2, 2, 2, 2, 2, 2, 2, 0, 0])] (zM) (PC [(8, [4, 6, 14, 19, 22, 29, 40, 43, 52, 0, 0]), (6, [5, 0]), (101, [320]), (7, [7, 12, 0, 0, 4, 13, 0, 0, 0, 0, 0, 0, 0, 0, 0]), (0, [0, 0, 8, 0, 9, 0, 10, 0, 11]), (100, [12]), (100, [16]), (100, [8]), (3, [1, 0]), (103, [6]), (3, [1, 0]), (0, [0, 0, 15, 0, 16, 0, 17, 0, 18]), (100, [12]), (100, [16]), (100, [8]), (3, [1, 0]), (2, [20, 0, 0, 21]), (103, [6]), (100, [6]), (104, [21, 24]), (2, [24, 0, 0, 25]), (103, [6]), (100, [6]), (2, [27, 0, 0, 28]), (103, [6]), (100, [6]), (4, [30, 31, 0, 0, 0, 32, 14, 19, 0, 0, 0, 0, 0]), (100, [6]), (100, [6]), (106, [31, 32, 33, 34, 35, 36, 37]), (103, [6]), (103, [6]), (103, [6]), (103, [6]), (103, [6]), (103, [6]), (103, [6]), (1, [41, 42, 14, 19]), (103, [1206]), (103, [6]), (105, [42, 44, 46, 48]), (5, [0, 0, 0, 45]), (100, [40]), (5, [0, 0, 0, 47]), (100, [40]), (5, [0, 0, 0, 49]), (100, [40]), (5, [0, 0, 0, 51]), (100, [40]), (103, [6])] (si (si (si (si zM 4 0 3) 4 1 9) 11 0 3) 11 1 9)) 49 1965 := by
  refine ctc_of (by decide +kernel) rfl rfl (Nat.le_of_ble_eq_true rfl) ?_
  refine c_aload_n (pc := 0) (q := 0) d_ShakeHands_init_0 rfl rfl ?_
  refine c_objInit (pc := 1) d_ShakeHands_init_1 oi_ShakeHands_1 (Nat.le_of_ble_eq_true rfl) (Nat.le_of_ble_eq_true rfl) ?_
  refine c_aload_n (pc := 4) (q := 0) d_ShakeHands_init_4 rfl rfl ?_
  refine c_new (pc := 5) (ci := 6) (T := F_Tape) (N := 2) (ds := [2, 0]) (sh8 := [(8, [2, 2, 2, 2, 2, 2, 2, 2, 2, 0, 0]), (6, [2, 0])]) (a9 := 1) d_ShakeHands_init_5 rfl (by decide) i_Tape t_Tape_ok cwl_ShakeHands_7 in_Tape ini_Tape (fun ad j hj => nu_Tape ad j hj) ⟨by funext y; simp [si, zM], by funext y; simp [si, zM]⟩ (Nat.le_of_ble_eq_true rfl) (Nat.le_of_ble_eq_true rfl) (Nat.le_of_ble_eq_true rfl) rfl rfl ?_
  refine c_dup (pc := 8) d_ShakeHands_init_8 rfl ?_
  refine c_initN (pc := 9) (as := []) (a := 1) d_ShakeHands_init_9 CC_1 cN_ShakeHands_9 cd_Tape_init rfl im_Tape_init ini_Tape dn_Tape_init rfl (by decide) (by decide) (Nat.le_of_ble_eq_true rfl) (Nat.le_of_ble_eq_true rfl) (Nat.le_of_ble_eq_true rfl) ?_
  refine c_putR (pc := 12) (sh8 := [(8, [4, 2, 2, 2, 2, 2, 2, 2, 2, 0, 0]), (6, [5, 0]), (101, [320])]) d_ShakeHands_init_12 fl_ShakeHands_10 rfl rfl (by decide) (by decide) (Nat.le_of_ble_eq_true rfl) (fun C T N h => by cases h; rfl) rfl ?_
  refine c_aload_n (pc := 15) (q := 0) d_ShakeHands_init_15 rfl rfl ?_
  refine c_new (pc := 16) (ci := 7) (T := F_Teller) (N := 15) (ds := [2, 2, 0, 0, 2, 2, 0, 0, 0, 0, 0, 0, 0, 0, 0]) (sh8 := [(8, [4, 2, 2, 2, 2, 2, 2, 2, 2, 0, 0]), (6, [5, 0]), (101, [320]), (7, [2, 2, 0, 0, 2, 2, 0, 0, 0, 0, 0, 0, 0, 0, 0])]) (a9 := 3) d_ShakeHands_init_16 rfl (by decide) i_Teller t_Teller_ok cwl_ShakeHands_16 in_Teller ini_Teller (fun ad j hj => nu_Teller ad j hj) ⟨by funext y; simp [si, zM], by funext y; simp [si, zM]⟩ (Nat.le_of_ble_eq_true rfl) (Nat.le_of_ble_eq_true rfl) (Nat.le_of_ble_eq_true rfl) rfl rfl ?_
  refine c_dup (pc := 19) d_ShakeHands_init_19 rfl ?_
  refine c_aload_n (pc := 20) (q := 0) d_ShakeHands_init_20 rfl rfl ?_
  refine c_getA (pc := 21) (b := 1) d_ShakeHands_init_21 fl_ShakeHands_10 rfl (by decide) rfl ?_
  refine c_init (pc := 24) (as := [Value.ref 1]) (a := 3) d_ShakeHands_init_24 CC_5 cI_ShakeHands_18 cd_Teller_init rfl im_Teller_init ini_Teller dn_Teller_init rfl (by decide) (by decide) (Nat.le_of_ble_eq_true rfl) (Nat.le_of_ble_eq_true rfl) (Nat.le_of_ble_eq_true rfl) ?_
  refine c_putR (pc := 27) (sh8 := [(8, [4, 6, 2, 2, 2, 2, 2, 2, 2, 0, 0]), (6, [5, 0]), (101, [320]), (7, [7, 12, 0, 0, 4, 13, 0, 0, 0, 0, 0, 0, 0, 0, 0]), (0, [0, 0, 8, 0, 9, 0, 10, 0, 11]), (100, [12]), (100, [16]), (100, [8]), (3, [1, 0]), (103, [6]), (3, [1, 0])]) d_ShakeHands_init_27 fl_ShakeHands_21 rfl rfl (by decide) (by decide) (Nat.le_of_ble_eq_true rfl) (fun C T N h => by cases h; rfl) rfl ?_
  refine c_aload_n (pc := 30) (q := 0) d_ShakeHands_init_30 rfl rfl ?_
  refine c_new (pc := 31) (ci := 0) (T := F_Circle) (N := 9) (ds := [0, 0, 2, 0, 2, 0, 2, 0, 2]) (sh8 := [(8, [4, 6, 2, 2, 2, 2, 2, 2, 2, 0, 0]), (6, [5, 0]), (101, [320]), (7, [7, 12, 0, 0, 4, 13, 0, 0, 0, 0, 0, 0, 0, 0, 0]), (0, [0, 0, 8, 0, 9, 0, 10, 0, 11]), (100, [12]), (100, [16]), (100, [8]), (3, [1, 0]), (103, [6]), (3, [1, 0]), (0, [0, 0, 2, 0, 2, 0, 2, 0, 2])]) (a9 := 11) d_ShakeHands_init_31 rfl (by decide) i_Circle t_Circle_ok cwl_ShakeHands_25 in_Circle ini_Circle (fun ad j hj => nu_Circle ad j hj) ⟨by funext y; simp [si, zM], by funext y; simp [si, zM]⟩ (Nat.le_of_ble_eq_true rfl) (Nat.le_of_ble_eq_true rfl) (Nat.le_of_ble_eq_true rfl) rfl rfl ?_
  refine c_dup (pc := 34) d_ShakeHands_init_34 rfl ?_
  refine c_initN (pc := 35) (as := []) (a := 11) d_ShakeHands_init_35 CC_7 cN_ShakeHands_27 cd_Circle_init rfl im_Circle_init ini_Circle dn_Circle_init rfl (by decide) (by decide) (Nat.le_of_ble_eq_true rfl) (Nat.le_of_ble_eq_true rfl) (Nat.le_of_ble_eq_true rfl) ?_
  refine c_putR (pc := 38) (sh8 := [(8, [4, 6, 14, 2, 2, 2, 2, 2, 2, 0, 0]), (6, [5, 0]), (101, [320]), (7, [7, 12, 0, 0, 4, 13, 0, 0, 0, 0, 0, 0, 0, 0, 0]), (0, [0, 0, 8, 0, 9, 0, 10, 0, 11]), (100, [12]), (100, [16]), (100, [8]), (3, [1, 0]), (103, [6]), (3, [1, 0]), (0, [0, 0, 15, 0, 16, 0, 17, 0, 18]), (100, [12]), (100, [16]), (100, [8]), (3, [1, 0])]) d_ShakeHands_init_38 fl_ShakeHands_28 rfl rfl (by decide) (by decide) (Nat.le_of_ble_eq_true rfl) (fun C T N h => by cases h; rfl) rfl ?_
  refine c_aload_n (pc := 41) (q := 0) d_ShakeHands_init_41 rfl rfl ?_
  refine c_new (pc := 42) (ci := 2) (T := F_Minds) (N := 4) (ds := [2, 0, 0, 2]) (sh8 := [(8, [4, 6, 14, 2, 2, 2, 2, 2, 2, 0, 0]), (6, [5, 0]), (101, [320]), (7, [7, 12, 0, 0, 4, 13, 0, 0, 0, 0, 0, 0, 0, 0, 0]), (0, [0, 0, 8, 0, 9, 0, 10, 0, 11]), (100, [12]), (100, [16]), (100, [8]), (3, [1, 0]), (103, [6]), (3, [1, 0]), (0, [0, 0, 15, 0, 16, 0, 17, 0, 18]), (100, [12]), (100, [16]), (100, [8]), (3, [1, 0]), (2, [2, 0, 0, 2])]) (a9 := 16) d_ShakeHands_init_42 rfl (by decide) i_Minds t_Minds_ok cwl_ShakeHands_32 in_Minds ini_Minds (fun ad j hj => nu_Minds ad j hj) ⟨by funext y; simp [si, zM], by funext y; simp [si, zM]⟩ (Nat.le_of_ble_eq_true rfl) (Nat.le_of_ble_eq_true rfl) (Nat.le_of_ble_eq_true rfl) rfl rfl ?_
  refine c_dup (pc := 45) d_ShakeHands_init_45 rfl ?_
  refine c_initN (pc := 46) (as := []) (a := 16) d_ShakeHands_init_46 CC_8 cN_ShakeHands_34 cd_Minds_init rfl im_Minds_init ini_Minds dn_Minds_init rfl (by decide) (by decide) (Nat.le_of_ble_eq_true rfl) (Nat.le_of_ble_eq_true rfl) (Nat.le_of_ble_eq_true rfl) ?_
  refine c_putR (pc := 49) (sh8 := [(8, [4, 6, 14, 19, 2, 2, 2, 2, 2, 0, 0]), (6, [5, 0]), (101, [320]), (7, [7, 12, 0, 0, 4, 13, 0, 0, 0, 0, 0, 0, 0, 0, 0]), (0, [0, 0, 8, 0, 9, 0, 10, 0, 11]), (100, [12]), (100, [16]), (100, [8]), (3, [1, 0]), (103, [6]), (3, [1, 0]), (0, [0, 0, 15, 0, 16, 0, 17, 0, 18]), (100, [12]), (100, [16]), (100, [8]), (3, [1, 0]), (2, [20, 0, 0, 21]), (103, [6]), (100, [6])]) d_ShakeHands_init_49 fl_ShakeHands_35 rfl rfl (by decide) (by decide) (Nat.le_of_ble_eq_true rfl) (fun C T N h => by cases h; rfl) rfl ?_
  refine c_aload_n (pc := 52) (q := 0) d_ShakeHands_init_52 rfl rfl ?_
  refine c_iconst (pc := 53) d_ShakeHands_init_53 k_i_2 ?_
  refine c_anewM (pc := 54) (N := 2) (sh8 := [(8, [4, 6, 14, 19, 2, 2, 2, 2, 2, 0, 0]), (6, [5, 0]), (101, [320]), (7, [7, 12, 0, 0, 4, 13, 0, 0, 0, 0, 0, 0, 0, 0, 0]), (0, [0, 0, 8, 0, 9, 0, 10, 0, 11]), (100, [12]), (100, [16]), (100, [8]), (3, [1, 0]), (103, [6]), (3, [1, 0]), (0, [0, 0, 15, 0, 16, 0, 17, 0, 18]), (100, [12]), (100, [16]), (100, [8]), (3, [1, 0]), (2, [20, 0, 0, 21]), (103, [6]), (100, [6]), (104, [0, 0])]) (a9 := 19) d_ShakeHands_init_54 (by decide) (by decide) cwl_ShakeHands_32 (Nat.le_of_ble_eq_true rfl) (Nat.le_of_ble_eq_true rfl) (Nat.le_of_ble_eq_true rfl) (Nat.le_of_ble_eq_true rfl) rfl rfl ?_
  refine c_putR (pc := 57) (sh8 := [(8, [4, 6, 14, 19, 22, 2, 2, 2, 2, 0, 0]), (6, [5, 0]), (101, [320]), (7, [7, 12, 0, 0, 4, 13, 0, 0, 0, 0, 0, 0, 0, 0, 0]), (0, [0, 0, 8, 0, 9, 0, 10, 0, 11]), (100, [12]), (100, [16]), (100, [8]), (3, [1, 0]), (103, [6]), (3, [1, 0]), (0, [0, 0, 15, 0, 16, 0, 17, 0, 18]), (100, [12]), (100, [16]), (100, [8]), (3, [1, 0]), (2, [20, 0, 0, 21]), (103, [6]), (100, [6]), (104, [0, 0])]) d_ShakeHands_init_57 fl_ShakeHands_39 rfl rfl (by decide) (by decide) (Nat.le_of_ble_eq_true rfl) (fun C T N h => by cases h; rfl) rfl ?_
  refine c_iconst (pc := 60) d_ShakeHands_init_60 k_i_0 ?_
  refine c_istore_n (pc := 61) d_ShakeHands_init_61 rfl (by decide) rfl ?_
  refine c_iload_n (pc := 62) (q := 0) d_ShakeHands_init_62 rfl rfl ?_
  refine c_iconst (pc := 63) d_ShakeHands_init_63 k_i_2 ?_
  refine c_ge_f (pc := 64) (tgt := 86) d_ShakeHands_init_64 (by decide) (by decide) ?_
  refine c_aload_n (pc := 67) (q := 1) d_ShakeHands_init_67 rfl rfl ?_
  refine c_getA (pc := 68) (b := 19) d_ShakeHands_init_68 fl_ShakeHands_39 rfl (by decide) rfl ?_
  refine c_iload_n (pc := 71) (q := 0) d_ShakeHands_init_71 rfl rfl ?_
  refine c_new (pc := 72) (ci := 2) (T := F_Minds) (N := 4) (ds := [2, 0, 0, 2]) (sh8 := [(8, [4, 6, 14, 19, 22, 2, 2, 2, 2, 0, 0]), (6, [5, 0]), (101, [320]), (7, [7, 12, 0, 0, 4, 13, 0, 0, 0, 0, 0, 0, 0, 0, 0]), (0, [0, 0, 8, 0, 9, 0, 10, 0, 11]), (100, [12]), (100, [16]), (100, [8]), (3, [1, 0]), (103, [6]), (3, [1, 0]), (0, [0, 0, 15, 0, 16, 0, 17, 0, 18]), (100, [12]), (100, [16]), (100, [8]), (3, [1, 0]), (2, [20, 0, 0, 21]), (103, [6]), (100, [6]), (104, [0, 0]), (2, [2, 0, 0, 2])]) (a9 := 20) d_ShakeHands_init_72 rfl (by decide) i_Minds t_Minds_ok cwl_ShakeHands_32 in_Minds ini_Minds (fun ad j hj => nu_Minds ad j hj) ⟨by funext y; simp [si, zM], by funext y; simp [si, zM]⟩ (Nat.le_of_ble_eq_true rfl) (Nat.le_of_ble_eq_true rfl) (Nat.le_of_ble_eq_true rfl) rfl rfl ?_
  refine c_dup (pc := 75) d_ShakeHands_init_75 rfl ?_
  refine c_initN (pc := 76) (as := []) (a := 20) d_ShakeHands_init_76 CC_9 cN_ShakeHands_34 cd_Minds_init rfl im_Minds_init ini_Minds dn_Minds_init rfl (by decide) (by decide) (Nat.le_of_ble_eq_true rfl) (Nat.le_of_ble_eq_true rfl) (Nat.le_of_ble_eq_true rfl) ?_
  refine c_aastM (pc := 79) (sh8 := [(8, [4, 6, 14, 19, 22, 2, 2, 2, 2, 0, 0]), (6, [5, 0]), (101, [320]), (7, [7, 12, 0, 0, 4, 13, 0, 0, 0, 0, 0, 0, 0, 0, 0]), (0, [0, 0, 8, 0, 9, 0, 10, 0, 11]), (100, [12]), (100, [16]), (100, [8]), (3, [1, 0]), (103, [6]), (3, [1, 0]), (0, [0, 0, 15, 0, 16, 0, 17, 0, 18]), (100, [12]), (100, [16]), (100, [8]), (3, [1, 0]), (2, [20, 0, 0, 21]), (103, [6]), (100, [6]), (104, [21, 0]), (2, [24, 0, 0, 25]), (103, [6]), (100, [6])]) d_ShakeHands_init_79 rfl rfl (by decide) rfl (vp_in_nI (n := 0) (by decide) (by decide)) (Nat.le_of_ble_eq_true rfl) rfl ?_
  refine c_iinc (pc := 80) (q := 0) (v := 1) d_ShakeHands_init_80 rfl (by decide) (by decide) rfl ?_
  refine c_goto (pc := 83) (tgt := 62) d_ShakeHands_init_83 (by decide) ?_
  refine c_iload_n (pc := 62) (q := 0) d_ShakeHands_init_62 rfl rfl ?_
  refine c_iconst (pc := 63) d_ShakeHands_init_63 k_i_2 ?_
  refine c_ge_f (pc := 64) (tgt := 86) d_ShakeHands_init_64 (by decide) (by decide) ?_
  refine c_aload_n (pc := 67) (q := 1) d_ShakeHands_init_67 rfl rfl ?_
  refine c_getA (pc := 68) (b := 19) d_ShakeHands_init_68 fl_ShakeHands_39 rfl (by decide) rfl ?_
  refine c_iload_n (pc := 71) (q := 0) d_ShakeHands_init_71 rfl rfl ?_
  refine c_new (pc := 72) (ci := 2) (T := F_Minds) (N := 4) (ds := [2, 0, 0, 2]) (sh8 := [(8, [4, 6, 14, 19, 22, 2, 2, 2, 2, 0, 0]), (6, [5, 0]), (101, [320]), (7, [7, 12, 0, 0, 4, 13, 0, 0, 0, 0, 0, 0, 0, 0, 0]), (0, [0, 0, 8, 0, 9, 0, 10, 0, 11]), (100, [12]), (100, [16]), (100, [8]), (3, [1, 0]), (103, [6]), (3, [1, 0]), (0, [0, 0, 15, 0, 16, 0, 17, 0, 18]), (100, [12]), (100, [16]), (100, [8]), (3, [1, 0]), (2, [20, 0, 0, 21]), (103, [6]), (100, [6]), (104, [21, 0]), (2, [24, 0, 0, 25]), (103, [6]), (100, [6]), (2, [2, 0, 0, 2])]) (a9 := 23) d_ShakeHands_init_72 rfl (by decide) i_Minds t_Minds_ok cwl_ShakeHands_32 in_Minds ini_Minds (fun ad j hj => nu_Minds ad j hj) ⟨by funext y; simp [si, zM], by funext y; simp [si, zM]⟩ (Nat.le_of_ble_eq_true rfl) (Nat.le_of_ble_eq_true rfl) (Nat.le_of_ble_eq_true rfl) rfl rfl ?_
  refine c_dup (pc := 75) d_ShakeHands_init_75 rfl ?_
  refine c_initN (pc := 76) (as := []) (a := 23) d_ShakeHands_init_76 CC_10 cN_ShakeHands_34 cd_Minds_init rfl im_Minds_init ini_Minds dn_Minds_init rfl (by decide) (by decide) (Nat.le_of_ble_eq_true rfl) (Nat.le_of_ble_eq_true rfl) (Nat.le_of_ble_eq_true rfl) ?_
  refine c_aastM (pc := 79) (sh8 := [(8, [4, 6, 14, 19, 22, 2, 2, 2, 2, 0, 0]), (6, [5, 0]), (101, [320]), (7, [7, 12, 0, 0, 4, 13, 0, 0, 0, 0, 0, 0, 0, 0, 0]), (0, [0, 0, 8, 0, 9, 0, 10, 0, 11]), (100, [12]), (100, [16]), (100, [8]), (3, [1, 0]), (103, [6]), (3, [1, 0]), (0, [0, 0, 15, 0, 16, 0, 17, 0, 18]), (100, [12]), (100, [16]), (100, [8]), (3, [1, 0]), (2, [20, 0, 0, 21]), (103, [6]), (100, [6]), (104, [21, 24]), (2, [24, 0, 0, 25]), (103, [6]), (100, [6]), (2, [27, 0, 0, 28]), (103, [6]), (100, [6])]) d_ShakeHands_init_79 rfl rfl (by decide) rfl (vp_in_nI (n := 1) (by decide) (by decide)) (Nat.le_of_ble_eq_true rfl) rfl ?_
  refine c_iinc (pc := 80) (q := 0) (v := 2) d_ShakeHands_init_80 rfl (by decide) (by decide) rfl ?_
  refine c_goto (pc := 83) (tgt := 62) d_ShakeHands_init_83 (by decide) ?_
  refine c_iload_n (pc := 62) (q := 0) d_ShakeHands_init_62 rfl rfl ?_
  refine c_iconst (pc := 63) d_ShakeHands_init_63 k_i_2 ?_
  refine c_ge_t (pc := 64) (tgt := 86) d_ShakeHands_init_64 (by decide) (by decide) ?_
  refine c_aload_n (pc := 86) (q := 1) d_ShakeHands_init_86 rfl rfl ?_
  refine c_new (pc := 87) (ci := 4) (T := F_Search) (N := 13) (ds := [2, 2, 0, 0, 0, 2, 2, 2, 0, 0, 0, 0, 0]) (sh8 := [(8, [4, 6, 14, 19, 22, 2, 2, 2, 2, 0, 0]), (6, [5, 0]), (101, [320]), (7, [7, 12, 0, 0, 4, 13, 0, 0, 0, 0, 0, 0, 0, 0, 0]), (0, [0, 0, 8, 0, 9, 0, 10, 0, 11]), (100, [12]), (100, [16]), (100, [8]), (3, [1, 0]), (103, [6]), (3, [1, 0]), (0, [0, 0, 15, 0, 16, 0, 17, 0, 18]), (100, [12]), (100, [16]), (100, [8]), (3, [1, 0]), (2, [20, 0, 0, 21]), (103, [6]), (100, [6]), (104, [21, 24]), (2, [24, 0, 0, 25]), (103, [6]), (100, [6]), (2, [27, 0, 0, 28]), (103, [6]), (100, [6]), (4, [2, 2, 0, 0, 0, 2, 2, 2, 0, 0, 0, 0, 0])]) (a9 := 26) d_ShakeHands_init_87 rfl (by decide) i_Search t_Search_ok cwl_ShakeHands_43 in_Search ini_Search (fun ad j hj => nu_Search ad j hj) ⟨by funext y; simp [si, zM], by funext y; simp [si, zM]⟩ (Nat.le_of_ble_eq_true rfl) (Nat.le_of_ble_eq_true rfl) (Nat.le_of_ble_eq_true rfl) rfl rfl ?_
  refine c_dup (pc := 90) d_ShakeHands_init_90 rfl ?_
  refine c_aload_n (pc := 91) (q := 1) d_ShakeHands_init_91 rfl rfl ?_
  refine c_getA (pc := 92) (b := 11) d_ShakeHands_init_92 fl_ShakeHands_28 rfl (by decide) rfl ?_
  refine c_aload_n (pc := 95) (q := 1) d_ShakeHands_init_95 rfl rfl ?_
  refine c_getA (pc := 96) (b := 16) d_ShakeHands_init_96 fl_ShakeHands_35 rfl (by decide) rfl ?_
  refine c_init (pc := 99) (as := [Value.ref 11, Value.ref 16]) (a := 26) d_ShakeHands_init_99 CC_11 cI_ShakeHands_45 cd_Search_init rfl im_Search_init ini_Search dn_Search_init rfl (by decide) (by decide) (Nat.le_of_ble_eq_true rfl) (Nat.le_of_ble_eq_true rfl) (Nat.le_of_ble_eq_true rfl) ?_
  refine c_putR (pc := 102) (sh8 := [(8, [4, 6, 14, 19, 22, 29, 2, 2, 2, 0, 0]), (6, [5, 0]), (101, [320]), (7, [7, 12, 0, 0, 4, 13, 0, 0, 0, 0, 0, 0, 0, 0, 0]), (0, [0, 0, 8, 0, 9, 0, 10, 0, 11]), (100, [12]), (100, [16]), (100, [8]), (3, [1, 0]), (103, [6]), (3, [1, 0]), (0, [0, 0, 15, 0, 16, 0, 17, 0, 18]), (100, [12]), (100, [16]), (100, [8]), (3, [1, 0]), (2, [20, 0, 0, 21]), (103, [6]), (100, [6]), (104, [21, 24]), (2, [24, 0, 0, 25]), (103, [6]), (100, [6]), (2, [27, 0, 0, 28]), (103, [6]), (100, [6]), (4, [30, 31, 0, 0, 0, 32, 14, 19, 0, 0, 0, 0, 0]), (100, [6]), (100, [6]), (106, [31, 32, 33, 34, 35, 36, 37]), (103, [6]), (103, [6]), (103, [6]), (103, [6]), (103, [6]), (103, [6]), (103, [6])]) d_ShakeHands_init_102 fl_ShakeHands_48 rfl rfl (by decide) (by decide) (Nat.le_of_ble_eq_true rfl) (fun C T N h => by cases h; rfl) rfl ?_
  refine c_aload_n (pc := 105) (q := 1) d_ShakeHands_init_105 rfl rfl ?_
  refine c_new (pc := 106) (ci := 1) (T := F_Habit) (N := 4) (ds := [2, 2, 2, 2]) (sh8 := [(8, [4, 6, 14, 19, 22, 29, 2, 2, 2, 0, 0]), (6, [5, 0]), (101, [320]), (7, [7, 12, 0, 0, 4, 13, 0, 0, 0, 0, 0, 0, 0, 0, 0]), (0, [0, 0, 8, 0, 9, 0, 10, 0, 11]), (100, [12]), (100, [16]), (100, [8]), (3, [1, 0]), (103, [6]), (3, [1, 0]), (0, [0, 0, 15, 0, 16, 0, 17, 0, 18]), (100, [12]), (100, [16]), (100, [8]), (3, [1, 0]), (2, [20, 0, 0, 21]), (103, [6]), (100, [6]), (104, [21, 24]), (2, [24, 0, 0, 25]), (103, [6]), (100, [6]), (2, [27, 0, 0, 28]), (103, [6]), (100, [6]), (4, [30, 31, 0, 0, 0, 32, 14, 19, 0, 0, 0, 0, 0]), (100, [6]), (100, [6]), (106, [31, 32, 33, 34, 35, 36, 37]), (103, [6]), (103, [6]), (103, [6]), (103, [6]), (103, [6]), (103, [6]), (103, [6]), (1, [2, 2, 2, 2])]) (a9 := 37) d_ShakeHands_init_106 rfl (by decide) i_Habit t_Habit_ok cwl_ShakeHands_52 in_Habit ini_Habit (fun ad j hj => nu_Habit ad j hj) ⟨by funext y; simp [si, zM], by funext y; simp [si, zM]⟩ (Nat.le_of_ble_eq_true rfl) (Nat.le_of_ble_eq_true rfl) (Nat.le_of_ble_eq_true rfl) rfl rfl ?_
  refine c_dup (pc := 109) d_ShakeHands_init_109 rfl ?_
  refine c_aload_n (pc := 110) (q := 1) d_ShakeHands_init_110 rfl rfl ?_
  refine c_getA (pc := 111) (b := 11) d_ShakeHands_init_111 fl_ShakeHands_28 rfl (by decide) rfl ?_
  refine c_aload_n (pc := 114) (q := 1) d_ShakeHands_init_114 rfl rfl ?_
  refine c_getA (pc := 115) (b := 16) d_ShakeHands_init_115 fl_ShakeHands_35 rfl (by decide) rfl ?_
  refine c_init (pc := 118) (as := [Value.ref 11, Value.ref 16]) (a := 37) d_ShakeHands_init_118 CC_12 cI_ShakeHands_54 cd_Habit_init rfl im_Habit_init ini_Habit dn_Habit_init rfl (by decide) (by decide) (Nat.le_of_ble_eq_true rfl) (Nat.le_of_ble_eq_true rfl) (Nat.le_of_ble_eq_true rfl) ?_
  refine c_putR (pc := 121) (sh8 := [(8, [4, 6, 14, 19, 22, 29, 40, 2, 2, 0, 0]), (6, [5, 0]), (101, [320]), (7, [7, 12, 0, 0, 4, 13, 0, 0, 0, 0, 0, 0, 0, 0, 0]), (0, [0, 0, 8, 0, 9, 0, 10, 0, 11]), (100, [12]), (100, [16]), (100, [8]), (3, [1, 0]), (103, [6]), (3, [1, 0]), (0, [0, 0, 15, 0, 16, 0, 17, 0, 18]), (100, [12]), (100, [16]), (100, [8]), (3, [1, 0]), (2, [20, 0, 0, 21]), (103, [6]), (100, [6]), (104, [21, 24]), (2, [24, 0, 0, 25]), (103, [6]), (100, [6]), (2, [27, 0, 0, 28]), (103, [6]), (100, [6]), (4, [30, 31, 0, 0, 0, 32, 14, 19, 0, 0, 0, 0, 0]), (100, [6]), (100, [6]), (106, [31, 32, 33, 34, 35, 36, 37]), (103, [6]), (103, [6]), (103, [6]), (103, [6]), (103, [6]), (103, [6]), (103, [6]), (1, [41, 42, 14, 19]), (103, [1206]), (103, [6])]) d_ShakeHands_init_121 fl_ShakeHands_55 rfl rfl (by decide) (by decide) (Nat.le_of_ble_eq_true rfl) (fun C T N h => by cases h; rfl) rfl ?_
  refine c_aload_n (pc := 124) (q := 1) d_ShakeHands_init_124 rfl rfl ?_
  refine c_iconst (pc := 125) d_ShakeHands_init_125 k_i_4 ?_
  refine c_anewS (pc := 126) (N := 4) (sh8 := [(8, [4, 6, 14, 19, 22, 29, 40, 2, 2, 0, 0]), (6, [5, 0]), (101, [320]), (7, [7, 12, 0, 0, 4, 13, 0, 0, 0, 0, 0, 0, 0, 0, 0]), (0, [0, 0, 8, 0, 9, 0, 10, 0, 11]), (100, [12]), (100, [16]), (100, [8]), (3, [1, 0]), (103, [6]), (3, [1, 0]), (0, [0, 0, 15, 0, 16, 0, 17, 0, 18]), (100, [12]), (100, [16]), (100, [8]), (3, [1, 0]), (2, [20, 0, 0, 21]), (103, [6]), (100, [6]), (104, [21, 24]), (2, [24, 0, 0, 25]), (103, [6]), (100, [6]), (2, [27, 0, 0, 28]), (103, [6]), (100, [6]), (4, [30, 31, 0, 0, 0, 32, 14, 19, 0, 0, 0, 0, 0]), (100, [6]), (100, [6]), (106, [31, 32, 33, 34, 35, 36, 37]), (103, [6]), (103, [6]), (103, [6]), (103, [6]), (103, [6]), (103, [6]), (103, [6]), (1, [41, 42, 14, 19]), (103, [1206]), (103, [6]), (105, [0, 0, 0, 0])]) (a9 := 40) d_ShakeHands_init_126 (by decide) (by decide) cwl_ShakeHands_59 (Nat.le_of_ble_eq_true rfl) (Nat.le_of_ble_eq_true rfl) (Nat.le_of_ble_eq_true rfl) (Nat.le_of_ble_eq_true rfl) rfl rfl ?_
  refine c_putR (pc := 129) (sh8 := [(8, [4, 6, 14, 19, 22, 29, 40, 43, 2, 0, 0]), (6, [5, 0]), (101, [320]), (7, [7, 12, 0, 0, 4, 13, 0, 0, 0, 0, 0, 0, 0, 0, 0]), (0, [0, 0, 8, 0, 9, 0, 10, 0, 11]), (100, [12]), (100, [16]), (100, [8]), (3, [1, 0]), (103, [6]), (3, [1, 0]), (0, [0, 0, 15, 0, 16, 0, 17, 0, 18]), (100, [12]), (100, [16]), (100, [8]), (3, [1, 0]), (2, [20, 0, 0, 21]), (103, [6]), (100, [6]), (104, [21, 24]), (2, [24, 0, 0, 25]), (103, [6]), (100, [6]), (2, [27, 0, 0, 28]), (103, [6]), (100, [6]), (4, [30, 31, 0, 0, 0, 32, 14, 19, 0, 0, 0, 0, 0]), (100, [6]), (100, [6]), (106, [31, 32, 33, 34, 35, 36, 37]), (103, [6]), (103, [6]), (103, [6]), (103, [6]), (103, [6]), (103, [6]), (103, [6]), (1, [41, 42, 14, 19]), (103, [1206]), (103, [6]), (105, [0, 0, 0, 0])]) d_ShakeHands_init_129 fl_ShakeHands_61 rfl rfl (by decide) (by decide) (Nat.le_of_ble_eq_true rfl) (fun C T N h => by cases h; rfl) rfl ?_
  refine c_iconst (pc := 132) d_ShakeHands_init_132 k_i_0 ?_
  refine c_istore_n (pc := 133) d_ShakeHands_init_133 rfl (by decide) rfl ?_
  refine c_iload_n (pc := 134) (q := 0) d_ShakeHands_init_134 rfl rfl ?_
  refine c_iconst (pc := 135) d_ShakeHands_init_135 k_i_4 ?_
  refine c_ge_f (pc := 136) (tgt := 158) d_ShakeHands_init_136 (by decide) (by decide) ?_
  refine c_aload_n (pc := 139) (q := 1) d_ShakeHands_init_139 rfl rfl ?_
  refine c_getA (pc := 140) (b := 40) d_ShakeHands_init_140 fl_ShakeHands_61 rfl (by decide) rfl ?_
  refine c_iload_n (pc := 143) (q := 0) d_ShakeHands_init_143 rfl rfl ?_
  refine c_new (pc := 144) (ci := 5) (T := F_Sheet) (N := 4) (ds := [0, 0, 0, 2]) (sh8 := [(8, [4, 6, 14, 19, 22, 29, 40, 43, 2, 0, 0]), (6, [5, 0]), (101, [320]), (7, [7, 12, 0, 0, 4, 13, 0, 0, 0, 0, 0, 0, 0, 0, 0]), (0, [0, 0, 8, 0, 9, 0, 10, 0, 11]), (100, [12]), (100, [16]), (100, [8]), (3, [1, 0]), (103, [6]), (3, [1, 0]), (0, [0, 0, 15, 0, 16, 0, 17, 0, 18]), (100, [12]), (100, [16]), (100, [8]), (3, [1, 0]), (2, [20, 0, 0, 21]), (103, [6]), (100, [6]), (104, [21, 24]), (2, [24, 0, 0, 25]), (103, [6]), (100, [6]), (2, [27, 0, 0, 28]), (103, [6]), (100, [6]), (4, [30, 31, 0, 0, 0, 32, 14, 19, 0, 0, 0, 0, 0]), (100, [6]), (100, [6]), (106, [31, 32, 33, 34, 35, 36, 37]), (103, [6]), (103, [6]), (103, [6]), (103, [6]), (103, [6]), (103, [6]), (103, [6]), (1, [41, 42, 14, 19]), (103, [1206]), (103, [6]), (105, [0, 0, 0, 0]), (5, [0, 0, 0, 2])]) (a9 := 41) d_ShakeHands_init_144 rfl (by decide) i_Sheet t_Sheet_ok cwl_ShakeHands_59 in_Sheet ini_Sheet (fun ad j hj => nu_Sheet ad j hj) ⟨by funext y; simp [si, zM], by funext y; simp [si, zM]⟩ (Nat.le_of_ble_eq_true rfl) (Nat.le_of_ble_eq_true rfl) (Nat.le_of_ble_eq_true rfl) rfl rfl ?_
  refine c_dup (pc := 147) d_ShakeHands_init_147 rfl ?_
  refine c_initN (pc := 148) (as := []) (a := 41) d_ShakeHands_init_148 CC_13 cN_ShakeHands_65 cd_Sheet_init rfl im_Sheet_init ini_Sheet dn_Sheet_init rfl (by decide) (by decide) (Nat.le_of_ble_eq_true rfl) (Nat.le_of_ble_eq_true rfl) (Nat.le_of_ble_eq_true rfl) ?_
  refine c_aastS (pc := 151) (sh8 := [(8, [4, 6, 14, 19, 22, 29, 40, 43, 2, 0, 0]), (6, [5, 0]), (101, [320]), (7, [7, 12, 0, 0, 4, 13, 0, 0, 0, 0, 0, 0, 0, 0, 0]), (0, [0, 0, 8, 0, 9, 0, 10, 0, 11]), (100, [12]), (100, [16]), (100, [8]), (3, [1, 0]), (103, [6]), (3, [1, 0]), (0, [0, 0, 15, 0, 16, 0, 17, 0, 18]), (100, [12]), (100, [16]), (100, [8]), (3, [1, 0]), (2, [20, 0, 0, 21]), (103, [6]), (100, [6]), (104, [21, 24]), (2, [24, 0, 0, 25]), (103, [6]), (100, [6]), (2, [27, 0, 0, 28]), (103, [6]), (100, [6]), (4, [30, 31, 0, 0, 0, 32, 14, 19, 0, 0, 0, 0, 0]), (100, [6]), (100, [6]), (106, [31, 32, 33, 34, 35, 36, 37]), (103, [6]), (103, [6]), (103, [6]), (103, [6]), (103, [6]), (103, [6]), (103, [6]), (1, [41, 42, 14, 19]), (103, [1206]), (103, [6]), (105, [42, 0, 0, 0]), (5, [0, 0, 0, 45]), (100, [40])]) d_ShakeHands_init_151 rfl rfl (by decide) rfl (vp_in_nI (n := 0) (by decide) (by decide)) (Nat.le_of_ble_eq_true rfl) rfl ?_
  refine c_iinc (pc := 152) (q := 0) (v := 1) d_ShakeHands_init_152 rfl (by decide) (by decide) rfl ?_
  refine c_goto (pc := 155) (tgt := 134) d_ShakeHands_init_155 (by decide) ?_
  refine c_iload_n (pc := 134) (q := 0) d_ShakeHands_init_134 rfl rfl ?_
  refine c_iconst (pc := 135) d_ShakeHands_init_135 k_i_4 ?_
  refine c_ge_f (pc := 136) (tgt := 158) d_ShakeHands_init_136 (by decide) (by decide) ?_
  refine c_aload_n (pc := 139) (q := 1) d_ShakeHands_init_139 rfl rfl ?_
  refine c_getA (pc := 140) (b := 40) d_ShakeHands_init_140 fl_ShakeHands_61 rfl (by decide) rfl ?_
  refine c_iload_n (pc := 143) (q := 0) d_ShakeHands_init_143 rfl rfl ?_
  refine c_new (pc := 144) (ci := 5) (T := F_Sheet) (N := 4) (ds := [0, 0, 0, 2]) (sh8 := [(8, [4, 6, 14, 19, 22, 29, 40, 43, 2, 0, 0]), (6, [5, 0]), (101, [320]), (7, [7, 12, 0, 0, 4, 13, 0, 0, 0, 0, 0, 0, 0, 0, 0]), (0, [0, 0, 8, 0, 9, 0, 10, 0, 11]), (100, [12]), (100, [16]), (100, [8]), (3, [1, 0]), (103, [6]), (3, [1, 0]), (0, [0, 0, 15, 0, 16, 0, 17, 0, 18]), (100, [12]), (100, [16]), (100, [8]), (3, [1, 0]), (2, [20, 0, 0, 21]), (103, [6]), (100, [6]), (104, [21, 24]), (2, [24, 0, 0, 25]), (103, [6]), (100, [6]), (2, [27, 0, 0, 28]), (103, [6]), (100, [6]), (4, [30, 31, 0, 0, 0, 32, 14, 19, 0, 0, 0, 0, 0]), (100, [6]), (100, [6]), (106, [31, 32, 33, 34, 35, 36, 37]), (103, [6]), (103, [6]), (103, [6]), (103, [6]), (103, [6]), (103, [6]), (103, [6]), (1, [41, 42, 14, 19]), (103, [1206]), (103, [6]), (105, [42, 0, 0, 0]), (5, [0, 0, 0, 45]), (100, [40]), (5, [0, 0, 0, 2])]) (a9 := 43) d_ShakeHands_init_144 rfl (by decide) i_Sheet t_Sheet_ok cwl_ShakeHands_59 in_Sheet ini_Sheet (fun ad j hj => nu_Sheet ad j hj) ⟨by funext y; simp [si, zM], by funext y; simp [si, zM]⟩ (Nat.le_of_ble_eq_true rfl) (Nat.le_of_ble_eq_true rfl) (Nat.le_of_ble_eq_true rfl) rfl rfl ?_
  refine c_dup (pc := 147) d_ShakeHands_init_147 rfl ?_
  refine c_initN (pc := 148) (as := []) (a := 43) d_ShakeHands_init_148 CC_14 cN_ShakeHands_65 cd_Sheet_init rfl im_Sheet_init ini_Sheet dn_Sheet_init rfl (by decide) (by decide) (Nat.le_of_ble_eq_true rfl) (Nat.le_of_ble_eq_true rfl) (Nat.le_of_ble_eq_true rfl) ?_
  refine c_aastS (pc := 151) (sh8 := [(8, [4, 6, 14, 19, 22, 29, 40, 43, 2, 0, 0]), (6, [5, 0]), (101, [320]), (7, [7, 12, 0, 0, 4, 13, 0, 0, 0, 0, 0, 0, 0, 0, 0]), (0, [0, 0, 8, 0, 9, 0, 10, 0, 11]), (100, [12]), (100, [16]), (100, [8]), (3, [1, 0]), (103, [6]), (3, [1, 0]), (0, [0, 0, 15, 0, 16, 0, 17, 0, 18]), (100, [12]), (100, [16]), (100, [8]), (3, [1, 0]), (2, [20, 0, 0, 21]), (103, [6]), (100, [6]), (104, [21, 24]), (2, [24, 0, 0, 25]), (103, [6]), (100, [6]), (2, [27, 0, 0, 28]), (103, [6]), (100, [6]), (4, [30, 31, 0, 0, 0, 32, 14, 19, 0, 0, 0, 0, 0]), (100, [6]), (100, [6]), (106, [31, 32, 33, 34, 35, 36, 37]), (103, [6]), (103, [6]), (103, [6]), (103, [6]), (103, [6]), (103, [6]), (103, [6]), (1, [41, 42, 14, 19]), (103, [1206]), (103, [6]), (105, [42, 44, 0, 0]), (5, [0, 0, 0, 45]), (100, [40]), (5, [0, 0, 0, 47]), (100, [40])]) d_ShakeHands_init_151 rfl rfl (by decide) rfl (vp_in_nI (n := 1) (by decide) (by decide)) (Nat.le_of_ble_eq_true rfl) rfl ?_
  refine c_iinc (pc := 152) (q := 0) (v := 2) d_ShakeHands_init_152 rfl (by decide) (by decide) rfl ?_
  refine c_goto (pc := 155) (tgt := 134) d_ShakeHands_init_155 (by decide) ?_
  refine c_iload_n (pc := 134) (q := 0) d_ShakeHands_init_134 rfl rfl ?_
  refine c_iconst (pc := 135) d_ShakeHands_init_135 k_i_4 ?_
  refine c_ge_f (pc := 136) (tgt := 158) d_ShakeHands_init_136 (by decide) (by decide) ?_
  refine c_aload_n (pc := 139) (q := 1) d_ShakeHands_init_139 rfl rfl ?_
  refine c_getA (pc := 140) (b := 40) d_ShakeHands_init_140 fl_ShakeHands_61 rfl (by decide) rfl ?_
  refine c_iload_n (pc := 143) (q := 0) d_ShakeHands_init_143 rfl rfl ?_
  refine c_new (pc := 144) (ci := 5) (T := F_Sheet) (N := 4) (ds := [0, 0, 0, 2]) (sh8 := [(8, [4, 6, 14, 19, 22, 29, 40, 43, 2, 0, 0]), (6, [5, 0]), (101, [320]), (7, [7, 12, 0, 0, 4, 13, 0, 0, 0, 0, 0, 0, 0, 0, 0]), (0, [0, 0, 8, 0, 9, 0, 10, 0, 11]), (100, [12]), (100, [16]), (100, [8]), (3, [1, 0]), (103, [6]), (3, [1, 0]), (0, [0, 0, 15, 0, 16, 0, 17, 0, 18]), (100, [12]), (100, [16]), (100, [8]), (3, [1, 0]), (2, [20, 0, 0, 21]), (103, [6]), (100, [6]), (104, [21, 24]), (2, [24, 0, 0, 25]), (103, [6]), (100, [6]), (2, [27, 0, 0, 28]), (103, [6]), (100, [6]), (4, [30, 31, 0, 0, 0, 32, 14, 19, 0, 0, 0, 0, 0]), (100, [6]), (100, [6]), (106, [31, 32, 33, 34, 35, 36, 37]), (103, [6]), (103, [6]), (103, [6]), (103, [6]), (103, [6]), (103, [6]), (103, [6]), (1, [41, 42, 14, 19]), (103, [1206]), (103, [6]), (105, [42, 44, 0, 0]), (5, [0, 0, 0, 45]), (100, [40]), (5, [0, 0, 0, 47]), (100, [40]), (5, [0, 0, 0, 2])]) (a9 := 45) d_ShakeHands_init_144 rfl (by decide) i_Sheet t_Sheet_ok cwl_ShakeHands_59 in_Sheet ini_Sheet (fun ad j hj => nu_Sheet ad j hj) ⟨by funext y; simp [si, zM], by funext y; simp [si, zM]⟩ (Nat.le_of_ble_eq_true rfl) (Nat.le_of_ble_eq_true rfl) (Nat.le_of_ble_eq_true rfl) rfl rfl ?_
  refine c_dup (pc := 147) d_ShakeHands_init_147 rfl ?_
  refine c_initN (pc := 148) (as := []) (a := 45) d_ShakeHands_init_148 CC_15 cN_ShakeHands_65 cd_Sheet_init rfl im_Sheet_init ini_Sheet dn_Sheet_init rfl (by decide) (by decide) (Nat.le_of_ble_eq_true rfl) (Nat.le_of_ble_eq_true rfl) (Nat.le_of_ble_eq_true rfl) ?_
  refine c_aastS (pc := 151) (sh8 := [(8, [4, 6, 14, 19, 22, 29, 40, 43, 2, 0, 0]), (6, [5, 0]), (101, [320]), (7, [7, 12, 0, 0, 4, 13, 0, 0, 0, 0, 0, 0, 0, 0, 0]), (0, [0, 0, 8, 0, 9, 0, 10, 0, 11]), (100, [12]), (100, [16]), (100, [8]), (3, [1, 0]), (103, [6]), (3, [1, 0]), (0, [0, 0, 15, 0, 16, 0, 17, 0, 18]), (100, [12]), (100, [16]), (100, [8]), (3, [1, 0]), (2, [20, 0, 0, 21]), (103, [6]), (100, [6]), (104, [21, 24]), (2, [24, 0, 0, 25]), (103, [6]), (100, [6]), (2, [27, 0, 0, 28]), (103, [6]), (100, [6]), (4, [30, 31, 0, 0, 0, 32, 14, 19, 0, 0, 0, 0, 0]), (100, [6]), (100, [6]), (106, [31, 32, 33, 34, 35, 36, 37]), (103, [6]), (103, [6]), (103, [6]), (103, [6]), (103, [6]), (103, [6]), (103, [6]), (1, [41, 42, 14, 19]), (103, [1206]), (103, [6]), (105, [42, 44, 46, 0]), (5, [0, 0, 0, 45]), (100, [40]), (5, [0, 0, 0, 47]), (100, [40]), (5, [0, 0, 0, 49]), (100, [40])]) d_ShakeHands_init_151 rfl rfl (by decide) rfl (vp_in_nI (n := 2) (by decide) (by decide)) (Nat.le_of_ble_eq_true rfl) rfl ?_
  refine c_iinc (pc := 152) (q := 0) (v := 3) d_ShakeHands_init_152 rfl (by decide) (by decide) rfl ?_
  refine c_goto (pc := 155) (tgt := 134) d_ShakeHands_init_155 (by decide) ?_
  refine c_iload_n (pc := 134) (q := 0) d_ShakeHands_init_134 rfl rfl ?_
  refine c_iconst (pc := 135) d_ShakeHands_init_135 k_i_4 ?_
  refine c_ge_f (pc := 136) (tgt := 158) d_ShakeHands_init_136 (by decide) (by decide) ?_
  refine c_aload_n (pc := 139) (q := 1) d_ShakeHands_init_139 rfl rfl ?_
  refine c_getA (pc := 140) (b := 40) d_ShakeHands_init_140 fl_ShakeHands_61 rfl (by decide) rfl ?_
  refine c_iload_n (pc := 143) (q := 0) d_ShakeHands_init_143 rfl rfl ?_
  refine c_new (pc := 144) (ci := 5) (T := F_Sheet) (N := 4) (ds := [0, 0, 0, 2]) (sh8 := [(8, [4, 6, 14, 19, 22, 29, 40, 43, 2, 0, 0]), (6, [5, 0]), (101, [320]), (7, [7, 12, 0, 0, 4, 13, 0, 0, 0, 0, 0, 0, 0, 0, 0]), (0, [0, 0, 8, 0, 9, 0, 10, 0, 11]), (100, [12]), (100, [16]), (100, [8]), (3, [1, 0]), (103, [6]), (3, [1, 0]), (0, [0, 0, 15, 0, 16, 0, 17, 0, 18]), (100, [12]), (100, [16]), (100, [8]), (3, [1, 0]), (2, [20, 0, 0, 21]), (103, [6]), (100, [6]), (104, [21, 24]), (2, [24, 0, 0, 25]), (103, [6]), (100, [6]), (2, [27, 0, 0, 28]), (103, [6]), (100, [6]), (4, [30, 31, 0, 0, 0, 32, 14, 19, 0, 0, 0, 0, 0]), (100, [6]), (100, [6]), (106, [31, 32, 33, 34, 35, 36, 37]), (103, [6]), (103, [6]), (103, [6]), (103, [6]), (103, [6]), (103, [6]), (103, [6]), (1, [41, 42, 14, 19]), (103, [1206]), (103, [6]), (105, [42, 44, 46, 0]), (5, [0, 0, 0, 45]), (100, [40]), (5, [0, 0, 0, 47]), (100, [40]), (5, [0, 0, 0, 49]), (100, [40]), (5, [0, 0, 0, 2])]) (a9 := 47) d_ShakeHands_init_144 rfl (by decide) i_Sheet t_Sheet_ok cwl_ShakeHands_59 in_Sheet ini_Sheet (fun ad j hj => nu_Sheet ad j hj) ⟨by funext y; simp [si, zM], by funext y; simp [si, zM]⟩ (Nat.le_of_ble_eq_true rfl) (Nat.le_of_ble_eq_true rfl) (Nat.le_of_ble_eq_true rfl) rfl rfl ?_
  refine c_dup (pc := 147) d_ShakeHands_init_147 rfl ?_
  refine c_initN (pc := 148) (as := []) (a := 47) d_ShakeHands_init_148 CC_16 cN_ShakeHands_65 cd_Sheet_init rfl im_Sheet_init ini_Sheet dn_Sheet_init rfl (by decide) (by decide) (Nat.le_of_ble_eq_true rfl) (Nat.le_of_ble_eq_true rfl) (Nat.le_of_ble_eq_true rfl) ?_
  refine c_aastS (pc := 151) (sh8 := [(8, [4, 6, 14, 19, 22, 29, 40, 43, 2, 0, 0]), (6, [5, 0]), (101, [320]), (7, [7, 12, 0, 0, 4, 13, 0, 0, 0, 0, 0, 0, 0, 0, 0]), (0, [0, 0, 8, 0, 9, 0, 10, 0, 11]), (100, [12]), (100, [16]), (100, [8]), (3, [1, 0]), (103, [6]), (3, [1, 0]), (0, [0, 0, 15, 0, 16, 0, 17, 0, 18]), (100, [12]), (100, [16]), (100, [8]), (3, [1, 0]), (2, [20, 0, 0, 21]), (103, [6]), (100, [6]), (104, [21, 24]), (2, [24, 0, 0, 25]), (103, [6]), (100, [6]), (2, [27, 0, 0, 28]), (103, [6]), (100, [6]), (4, [30, 31, 0, 0, 0, 32, 14, 19, 0, 0, 0, 0, 0]), (100, [6]), (100, [6]), (106, [31, 32, 33, 34, 35, 36, 37]), (103, [6]), (103, [6]), (103, [6]), (103, [6]), (103, [6]), (103, [6]), (103, [6]), (1, [41, 42, 14, 19]), (103, [1206]), (103, [6]), (105, [42, 44, 46, 48]), (5, [0, 0, 0, 45]), (100, [40]), (5, [0, 0, 0, 47]), (100, [40]), (5, [0, 0, 0, 49]), (100, [40]), (5, [0, 0, 0, 51]), (100, [40])]) d_ShakeHands_init_151 rfl rfl (by decide) rfl (vp_in_nI (n := 3) (by decide) (by decide)) (Nat.le_of_ble_eq_true rfl) rfl ?_
  refine c_iinc (pc := 152) (q := 0) (v := 4) d_ShakeHands_init_152 rfl (by decide) (by decide) rfl ?_
  refine c_goto (pc := 155) (tgt := 134) d_ShakeHands_init_155 (by decide) ?_
  refine c_iload_n (pc := 134) (q := 0) d_ShakeHands_init_134 rfl rfl ?_
  refine c_iconst (pc := 135) d_ShakeHands_init_135 k_i_4 ?_
  refine c_ge_t (pc := 136) (tgt := 158) d_ShakeHands_init_136 (by decide) (by decide) ?_
  refine c_aload_n (pc := 158) (q := 1) d_ShakeHands_init_158 rfl rfl ?_
  refine c_bipush (pc := 159) d_ShakeHands_init_159 k_b_6 ?_
  refine c_newaL (pc := 161) (N := 6) (sh8 := [(8, [4, 6, 14, 19, 22, 29, 40, 43, 2, 0, 0]), (6, [5, 0]), (101, [320]), (7, [7, 12, 0, 0, 4, 13, 0, 0, 0, 0, 0, 0, 0, 0, 0]), (0, [0, 0, 8, 0, 9, 0, 10, 0, 11]), (100, [12]), (100, [16]), (100, [8]), (3, [1, 0]), (103, [6]), (3, [1, 0]), (0, [0, 0, 15, 0, 16, 0, 17, 0, 18]), (100, [12]), (100, [16]), (100, [8]), (3, [1, 0]), (2, [20, 0, 0, 21]), (103, [6]), (100, [6]), (104, [21, 24]), (2, [24, 0, 0, 25]), (103, [6]), (100, [6]), (2, [27, 0, 0, 28]), (103, [6]), (100, [6]), (4, [30, 31, 0, 0, 0, 32, 14, 19, 0, 0, 0, 0, 0]), (100, [6]), (100, [6]), (106, [31, 32, 33, 34, 35, 36, 37]), (103, [6]), (103, [6]), (103, [6]), (103, [6]), (103, [6]), (103, [6]), (103, [6]), (1, [41, 42, 14, 19]), (103, [1206]), (103, [6]), (105, [42, 44, 46, 48]), (5, [0, 0, 0, 45]), (100, [40]), (5, [0, 0, 0, 47]), (100, [40]), (5, [0, 0, 0, 49]), (100, [40]), (5, [0, 0, 0, 51]), (100, [40]), (103, [6])]) (a9 := 49) d_ShakeHands_init_161 (by decide) (by decide) ac_long (Nat.le_of_ble_eq_true rfl) ⟨by funext y; simp [si, zM], by funext y; simp [si, zM]⟩ (Nat.le_of_ble_eq_true rfl) (Nat.le_of_ble_eq_true rfl) (Nat.le_of_ble_eq_true rfl) rfl rfl ?_
  refine c_putR (pc := 163) (sh8 := [(8, [4, 6, 14, 19, 22, 29, 40, 43, 52, 0, 0]), (6, [5, 0]), (101, [320]), (7, [7, 12, 0, 0, 4, 13, 0, 0, 0, 0, 0, 0, 0, 0, 0]), (0, [0, 0, 8, 0, 9, 0, 10, 0, 11]), (100, [12]), (100, [16]), (100, [8]), (3, [1, 0]), (103, [6]), (3, [1, 0]), (0, [0, 0, 15, 0, 16, 0, 17, 0, 18]), (100, [12]), (100, [16]), (100, [8]), (3, [1, 0]), (2, [20, 0, 0, 21]), (103, [6]), (100, [6]), (104, [21, 24]), (2, [24, 0, 0, 25]), (103, [6]), (100, [6]), (2, [27, 0, 0, 28]), (103, [6]), (100, [6]), (4, [30, 31, 0, 0, 0, 32, 14, 19, 0, 0, 0, 0, 0]), (100, [6]), (100, [6]), (106, [31, 32, 33, 34, 35, 36, 37]), (103, [6]), (103, [6]), (103, [6]), (103, [6]), (103, [6]), (103, [6]), (103, [6]), (1, [41, 42, 14, 19]), (103, [1206]), (103, [6]), (105, [42, 44, 46, 48]), (5, [0, 0, 0, 45]), (100, [40]), (5, [0, 0, 0, 47]), (100, [40]), (5, [0, 0, 0, 49]), (100, [40]), (5, [0, 0, 0, 51]), (100, [40]), (103, [6])]) d_ShakeHands_init_163 fl_ShakeHands_66 rfl rfl (by decide) (by decide) (Nat.le_of_ble_eq_true rfl) (fun C T N h => by cases h; rfl) rfl ?_
  exact c_return (pc := 166) d_ShakeHands_init_166 (Nat.le_of_ble_eq_true rfl) (Nat.le_of_ble_eq_true rfl) rfl rfl

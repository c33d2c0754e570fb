/-! CONSTANTS of the methods: shapes, links, numbers (written by wip/gen/emit.py) -/
def SHx : Shp := [(8, [3, 5, 13, 18, 21, 28, 39, 42, 51, 0, 0]), (6, [4, 0]), (101, [320]), (7, [6, 11, 0, 0, 3, 12, 0, 0, 0, 0, 0, 0, 0, 0, 0]), (0, [0, 0, 7, 0, 8, 0, 9, 0, 10]), (100, [12]), (100, [16]), (100, [8]), (3, [1, 0]), (103, [6]), (3, [1, 0]), (0, [0, 0, 14, 0, 15, 0, 16, 0, 17]), (100, [12]), (100, [16]), (100, [8]), (3, [1, 0]), (2, [19, 0, 0, 20]), (103, [6]), (100, [6]), (104, [20, 23]), (2, [23, 0, 0, 24]), (103, [6]), (100, [6]), (2, [26, 0, 0, 27]), (103, [6]), (100, [6]), (4, [29, 30, 0, 0, 0, 31, 13, 18, 0, 0, 0, 0, 0]), (100, [6]), (100, [6]), (106, [30, 31, 32, 33, 34, 35, 36]), (103, [6]), (103, [6]), (103, [6]), (103, [6]), (103, [6]), (103, [6]), (103, [6]), (1, [40, 41, 13, 18]), (103, [1206]), (103, [6]), (105, [41, 43, 45, 47]), (5, [0, 0, 0, 44]), (100, [40]), (5, [0, 0, 0, 46]), (100, [40]), (5, [0, 0, 0, 48]), (100, [40]), (5, [0, 0, 0, 50]), (100, [40]), (103, [6])]
theorem sx_0 : SHx[0]? = some (8, [3, 5, 13, 18, 21, 28, 39, 42, 51, 0, 0]) := rfl
theorem sx_1 : SHx[1]? = some (6, [4, 0]) := rfl
theorem sx_2 : SHx[2]? = some (101, [320]) := rfl
theorem sx_3 : SHx[3]? = some (7, [6, 11, 0, 0, 3, 12, 0, 0, 0, 0, 0, 0, 0, 0, 0]) := rfl
theorem sx_4 : SHx[4]? = some (0, [0, 0, 7, 0, 8, 0, 9, 0, 10]) := rfl
theorem sx_5 : SHx[5]? = some (100, [12]) := rfl
theorem sx_6 : SHx[6]? = some (100, [16]) := rfl
theorem sx_7 : SHx[7]? = some (100, [8]) := rfl
theorem sx_8 : SHx[8]? = some (3, [1, 0]) := rfl
theorem sx_9 : SHx[9]? = some (103, [6]) := rfl
theorem sx_10 : SHx[10]? = some (3, [1, 0]) := rfl
theorem sx_11 : SHx[11]? = some (0, [0, 0, 14, 0, 15, 0, 16, 0, 17]) := rfl
theorem sx_12 : SHx[12]? = some (100, [12]) := rfl
theorem sx_13 : SHx[13]? = some (100, [16]) := rfl
theorem sx_14 : SHx[14]? = some (100, [8]) := rfl
theorem sx_15 : SHx[15]? = some (3, [1, 0]) := rfl
theorem sx_16 : SHx[16]? = some (2, [19, 0, 0, 20]) := rfl
theorem sx_17 : SHx[17]? = some (103, [6]) := rfl
theorem sx_18 : SHx[18]? = some (100, [6]) := rfl
theorem sx_19 : SHx[19]? = some (104, [20, 23]) := rfl
theorem sx_20 : SHx[20]? = some (2, [23, 0, 0, 24]) := rfl
theorem sx_21 : SHx[21]? = some (103, [6]) := rfl
theorem sx_22 : SHx[22]? = some (100, [6]) := rfl
theorem sx_23 : SHx[23]? = some (2, [26, 0, 0, 27]) := rfl
theorem sx_24 : SHx[24]? = some (103, [6]) := rfl
theorem sx_25 : SHx[25]? = some (100, [6]) := rfl
theorem sx_26 : SHx[26]? = some (4, [29, 30, 0, 0, 0, 31, 13, 18, 0, 0, 0, 0, 0]) := rfl
theorem sx_27 : SHx[27]? = some (100, [6]) := rfl
theorem sx_28 : SHx[28]? = some (100, [6]) := rfl
theorem sx_29 : SHx[29]? = some (106, [30, 31, 32, 33, 34, 35, 36]) := rfl
theorem sx_30 : SHx[30]? = some (103, [6]) := rfl
theorem sx_31 : SHx[31]? = some (103, [6]) := rfl
theorem sx_32 : SHx[32]? = some (103, [6]) := rfl
theorem sx_33 : SHx[33]? = some (103, [6]) := rfl
theorem sx_34 : SHx[34]? = some (103, [6]) := rfl
theorem sx_35 : SHx[35]? = some (103, [6]) := rfl
theorem sx_36 : SHx[36]? = some (103, [6]) := rfl
theorem sx_37 : SHx[37]? = some (1, [40, 41, 13, 18]) := rfl
theorem sx_38 : SHx[38]? = some (103, [1206]) := rfl
theorem sx_39 : SHx[39]? = some (103, [6]) := rfl
theorem sx_40 : SHx[40]? = some (105, [41, 43, 45, 47]) := rfl
theorem sx_41 : SHx[41]? = some (5, [0, 0, 0, 44]) := rfl
theorem sx_42 : SHx[42]? = some (100, [40]) := rfl
theorem sx_43 : SHx[43]? = some (5, [0, 0, 0, 46]) := rfl
theorem sx_44 : SHx[44]? = some (100, [40]) := rfl
theorem sx_45 : SHx[45]? = some (5, [0, 0, 0, 48]) := rfl
theorem sx_46 : SHx[46]? = some (100, [40]) := rfl
theorem sx_47 : SHx[47]? = some (5, [0, 0, 0, 50]) := rfl
theorem sx_48 : SHx[48]? = some (100, [40]) := rfl
theorem sx_49 : SHx[49]? = some (103, [6]) := rfl
def SHm : Shp := [(9, [3, 4, 0, 0, 0, 0, 0, 5, 6, 7, 8, 9, 0, 0, 0, 0, 0, 0, 10, 11, 12, 13, 14, 15, 0, 16, 0, 0, 0, 0, 0, 0, 0, 17, 18, 0, 19, 20, 0, 0, 0, 0, 0, 0, 0, 0, 21, 0, 22, 23, 24, 25, 26, 27, 0]), (100, [234]), (102, [2]), (100, [12]), (100, [16]), (100, [8]), (100, [15]), (100, [15]), (100, [12]), (100, [16]), (100, [8]), (100, [60]), (102, [6]), (102, [6]), (100, [320]), (100, [600]), (100, [18]), (100, [4]), (100, [4]), (100, [80]), (103, [1206]), (100, [6]), (100, [6]), (100, [4]), (100, [4]), (100, [160])]
theorem sm_0 : SHm[0]? = some (9, [3, 4, 0, 0, 0, 0, 0, 5, 6, 7, 8, 9, 0, 0, 0, 0, 0, 0, 10, 11, 12, 13, 14, 15, 0, 16, 0, 0, 0, 0, 0, 0, 0, 17, 18, 0, 19, 20, 0, 0, 0, 0, 0, 0, 0, 0, 21, 0, 22, 23, 24, 25, 26, 27, 0]) := rfl
theorem sm_1 : SHm[1]? = some (100, [234]) := rfl
theorem sm_2 : SHm[2]? = some (102, [2]) := rfl
theorem sm_3 : SHm[3]? = some (100, [12]) := rfl
theorem sm_4 : SHm[4]? = some (100, [16]) := rfl
theorem sm_5 : SHm[5]? = some (100, [8]) := rfl
theorem sm_6 : SHm[6]? = some (100, [15]) := rfl
theorem sm_7 : SHm[7]? = some (100, [15]) := rfl
theorem sm_8 : SHm[8]? = some (100, [12]) := rfl
theorem sm_9 : SHm[9]? = some (100, [16]) := rfl
theorem sm_10 : SHm[10]? = some (100, [8]) := rfl
theorem sm_11 : SHm[11]? = some (100, [60]) := rfl
theorem sm_12 : SHm[12]? = some (102, [6]) := rfl
theorem sm_13 : SHm[13]? = some (102, [6]) := rfl
theorem sm_14 : SHm[14]? = some (100, [320]) := rfl
theorem sm_15 : SHm[15]? = some (100, [600]) := rfl
theorem sm_16 : SHm[16]? = some (100, [18]) := rfl
theorem sm_17 : SHm[17]? = some (100, [4]) := rfl
theorem sm_18 : SHm[18]? = some (100, [4]) := rfl
theorem sm_19 : SHm[19]? = some (100, [80]) := rfl
theorem sm_20 : SHm[20]? = some (103, [1206]) := rfl
theorem sm_21 : SHm[21]? = some (100, [6]) := rfl
theorem sm_22 : SHm[22]? = some (100, [6]) := rfl
theorem sm_23 : SHm[23]? = some (100, [4]) := rfl
theorem sm_24 : SHm[24]? = some (100, [4]) := rfl
theorem sm_25 : SHm[25]? = some (100, [160]) := rfl
theorem k_i_m8 : Int32.ofInt (-8) = (-8) := by decide
theorem k_i_m1 : Int32.ofInt (-1) = (-1) := by decide
theorem k_i_0 : Int32.ofInt 0 = 0 := by decide
theorem k_i_1 : Int32.ofInt 1 = 1 := by decide
theorem k_i_2 : Int32.ofInt 2 = 2 := by decide
theorem k_i_3 : Int32.ofInt 3 = 3 := by decide
theorem k_i_4 : Int32.ofInt 4 = 4 := by decide
theorem k_i_5 : Int32.ofInt 5 = 5 := by decide
theorem k_b_m20 : (Int8.ofInt (-20)).toInt32 = (-20) := by decide
theorem k_b_m14 : (Int8.ofInt (-14)).toInt32 = (-14) := by decide
theorem k_b_m12 : (Int8.ofInt (-12)).toInt32 = (-12) := by decide
theorem k_b_m11 : (Int8.ofInt (-11)).toInt32 = (-11) := by decide
theorem k_b_m10 : (Int8.ofInt (-10)).toInt32 = (-10) := by decide
theorem k_b_m4 : (Int8.ofInt (-4)).toInt32 = (-4) := by decide
theorem k_b_m3 : (Int8.ofInt (-3)).toInt32 = (-3) := by decide
theorem k_b_m2 : (Int8.ofInt (-2)).toInt32 = (-2) := by decide
theorem k_b_6 : (Int8.ofInt 6).toInt32 = 6 := by decide
theorem k_b_7 : (Int8.ofInt 7).toInt32 = 7 := by decide
theorem k_b_8 : (Int8.ofInt 8).toInt32 = 8 := by decide
theorem k_b_9 : (Int8.ofInt 9).toInt32 = 9 := by decide
theorem k_b_10 : (Int8.ofInt 10).toInt32 = 10 := by decide
theorem k_b_12 : (Int8.ofInt 12).toInt32 = 12 := by decide
theorem k_b_14 : (Int8.ofInt 14).toInt32 = 14 := by decide
theorem k_b_15 : (Int8.ofInt 15).toInt32 = 15 := by decide
theorem k_b_16 : (Int8.ofInt 16).toInt32 = 16 := by decide
theorem k_b_20 : (Int8.ofInt 20).toInt32 = 20 := by decide
theorem k_b_32 : (Int8.ofInt 32).toInt32 = 32 := by decide
theorem k_b_36 : (Int8.ofInt 36).toInt32 = 36 := by decide
theorem k_b_40 : (Int8.ofInt 40).toInt32 = 40 := by decide
theorem k_b_48 : (Int8.ofInt 48).toInt32 = 48 := by decide
theorem k_b_56 : (Int8.ofInt 56).toInt32 = 56 := by decide
theorem k_b_57 : (Int8.ofInt 57).toInt32 = 57 := by decide
theorem k_b_59 : (Int8.ofInt 59).toInt32 = 59 := by decide
theorem k_b_60 : (Int8.ofInt 60).toInt32 = 60 := by decide
theorem k_b_63 : (Int8.ofInt 63).toInt32 = 63 := by decide
theorem k_b_66 : (Int8.ofInt 66).toInt32 = 66 := by decide
theorem k_b_72 : (Int8.ofInt 72).toInt32 = 72 := by decide
theorem k_b_78 : (Int8.ofInt 78).toInt32 = 78 := by decide
theorem k_b_97 : (Int8.ofInt 97).toInt32 = 97 := by decide
theorem k_b_99 : (Int8.ofInt 99).toInt32 = 99 := by decide
theorem k_b_100 : (Int8.ofInt 100).toInt32 = 100 := by decide
theorem k_b_101 : (Int8.ofInt 101).toInt32 = 101 := by decide
theorem k_b_103 : (Int8.ofInt 103).toInt32 = 103 := by decide
theorem k_b_104 : (Int8.ofInt 104).toInt32 = 104 := by decide
theorem k_b_105 : (Int8.ofInt 105).toInt32 = 105 := by decide
theorem k_b_106 : (Int8.ofInt 106).toInt32 = 106 := by decide
theorem k_b_107 : (Int8.ofInt 107).toInt32 = 107 := by decide
theorem k_b_108 : (Int8.ofInt 108).toInt32 = 108 := by decide
theorem k_b_110 : (Int8.ofInt 110).toInt32 = 110 := by decide
theorem k_b_111 : (Int8.ofInt 111).toInt32 = 111 := by decide
theorem k_b_112 : (Int8.ofInt 112).toInt32 = 112 := by decide
theorem k_b_115 : (Int8.ofInt 115).toInt32 = 115 := by decide
theorem k_b_118 : (Int8.ofInt 118).toInt32 = 118 := by decide
theorem k_b_119 : (Int8.ofInt 119).toInt32 = 119 := by decide
theorem k_b_121 : (Int8.ofInt 121).toInt32 = 121 := by decide
theorem k_b_122 : (Int8.ofInt 122).toInt32 = 122 := by decide
theorem k_s_200 : (Int16.ofInt 200).toInt32 = 200 := by decide
theorem k_s_312 : (Int16.ofInt 312).toInt32 = 312 := by decide
theorem k_s_320 : (Int16.ofInt 320).toInt32 = 320 := by decide
theorem k_s_32767 : (Int16.ofInt 32767).toInt32 = 32767 := by decide
theorem k_l_0 : Int64.ofNat ((0 : Fin 2) : Nat) = 0 := by decide
theorem k_l_1 : Int64.ofNat ((1 : Fin 2) : Nat) = 1 := by decide
theorem fl_ShakeHands_10 : Fl "ShakeHands" 10 8 0 (.object "ShakeHands$Tape") true := ⟨R_ShakeHands, F_ShakeHands, 11, t_ShakeHands, rfl, by decide, i_ShakeHands, tb_2 55 (by decide +kernel) rfl, rfl, t_ShakeHands_ok, n_ShakeHands, by decide +kernel, rfl⟩
theorem fl_ShakeHands_21 : Fl "ShakeHands" 21 8 1 (.object "ShakeHands$Teller") true := ⟨R_ShakeHands, F_ShakeHands, 11, t_ShakeHands, rfl, by decide, i_ShakeHands, tb_2 56 (by decide +kernel) rfl, rfl, t_ShakeHands_ok, n_ShakeHands, by decide +kernel, rfl⟩
theorem fl_ShakeHands_28 : Fl "ShakeHands" 28 8 2 (.object "ShakeHands$Circle") true := ⟨R_ShakeHands, F_ShakeHands, 11, t_ShakeHands, rfl, by decide, i_ShakeHands, tb_2 57 (by decide +kernel) rfl, rfl, t_ShakeHands_ok, n_ShakeHands, by decide +kernel, rfl⟩
theorem fl_ShakeHands_35 : Fl "ShakeHands" 35 8 3 (.object "ShakeHands$Minds") true := ⟨R_ShakeHands, F_ShakeHands, 11, t_ShakeHands, rfl, by decide, i_ShakeHands, tb_2 58 (by decide +kernel) rfl, rfl, t_ShakeHands_ok, n_ShakeHands, by decide +kernel, rfl⟩
theorem fl_ShakeHands_39 : Fl "ShakeHands" 39 8 4 (.array (.object "ShakeHands$Minds")) true := ⟨R_ShakeHands, F_ShakeHands, 11, t_ShakeHands, rfl, by decide, i_ShakeHands, tb_2 59 (by decide +kernel) rfl, rfl, t_ShakeHands_ok, n_ShakeHands, by decide +kernel, rfl⟩
theorem fl_ShakeHands_48 : Fl "ShakeHands" 48 8 5 (.object "ShakeHands$Search") true := ⟨R_ShakeHands, F_ShakeHands, 11, t_ShakeHands, rfl, by decide, i_ShakeHands, tb_2 60 (by decide +kernel) rfl, rfl, t_ShakeHands_ok, n_ShakeHands, by decide +kernel, rfl⟩
theorem fl_ShakeHands_55 : Fl "ShakeHands" 55 8 6 (.object "ShakeHands$Habit") true := ⟨R_ShakeHands, F_ShakeHands, 11, t_ShakeHands, rfl, by decide, i_ShakeHands, tb_2 61 (by decide +kernel) rfl, rfl, t_ShakeHands_ok, n_ShakeHands, by decide +kernel, rfl⟩
theorem fl_ShakeHands_61 : Fl "ShakeHands" 61 8 7 (.array (.object "ShakeHands$Sheet")) true := ⟨R_ShakeHands, F_ShakeHands, 11, t_ShakeHands, rfl, by decide, i_ShakeHands, tb_2 62 (by decide +kernel) rfl, rfl, t_ShakeHands_ok, n_ShakeHands, by decide +kernel, rfl⟩
theorem fl_ShakeHands_66 : Fl "ShakeHands" 66 8 8 (.array .long) true := ⟨R_ShakeHands, F_ShakeHands, 11, t_ShakeHands, rfl, by decide, i_ShakeHands, tb_2 63 (by decide +kernel) rfl, rfl, t_ShakeHands_ok, n_ShakeHands, by decide +kernel, rfl⟩
theorem fl_ShakeHands_74 : Fl "ShakeHands" 74 6 1 (.int) false := ⟨R_Tape, F_Tape, 2, t_Tape, rfl, by decide, i_Tape, tb_1 36 (by decide +kernel) rfl, rfl, t_Tape_ok, n_Tape, by decide +kernel, rfl⟩
theorem fl_ShakeHands_82 : Fl "ShakeHands" 82 7 3 (.int) false := ⟨R_Teller, F_Teller, 15, t_Teller, rfl, by decide, i_Teller, tb_1 125 (by decide +kernel) rfl, rfl, t_Teller_ok, n_Teller, by decide +kernel, rfl⟩
theorem fl_ShakeHands_85 : Fl "ShakeHands" 85 7 0 (.object "ShakeHands$Circle") true := ⟨R_Teller, F_Teller, 15, t_Teller, rfl, by decide, i_Teller, tb_1 119 (by decide +kernel) rfl, rfl, t_Teller_ok, n_Teller, by decide +kernel, rfl⟩
theorem fl_ShakeHands_90 : Fl "ShakeHands" 90 7 1 (.array .long) true := ⟨R_Teller, F_Teller, 15, t_Teller, rfl, by decide, i_Teller, tb_1 121 (by decide +kernel) rfl, rfl, t_Teller_ok, n_Teller, by decide +kernel, rfl⟩
theorem fl_ShakeHands_93 : Fl "ShakeHands" 93 2 0 (.array .long) true := ⟨R_Minds, F_Minds, 4, t_Minds, rfl, by decide, i_Minds, tb_1 180 (by decide +kernel) rfl, rfl, t_Minds_ok, n_Minds, by decide +kernel, rfl⟩
theorem fl_ShakeHands_100 : Fl "ShakeHands" 100 7 2 (.int) false := ⟨R_Teller, F_Teller, 15, t_Teller, rfl, by decide, i_Teller, tb_1 123 (by decide +kernel) rfl, rfl, t_Teller_ok, n_Teller, by decide +kernel, rfl⟩
theorem fl_ShakeHands_103 : Fl "ShakeHands" 103 2 1 (.int) false := ⟨R_Minds, F_Minds, 4, t_Minds, rfl, by decide, i_Minds, tb_1 183 (by decide +kernel) rfl, rfl, t_Minds_ok, n_Minds, by decide +kernel, rfl⟩
theorem fl_ShakeHands_104 : Fl "ShakeHands" 104 2 2 (.int) false := ⟨R_Minds, F_Minds, 4, t_Minds, rfl, by decide, i_Minds, tb_1 186 (by decide +kernel) rfl, rfl, t_Minds_ok, n_Minds, by decide +kernel, rfl⟩
theorem fl_ShakeHands_107 : Fl "ShakeHands" 107 8 9 (.int) false := ⟨R_ShakeHands, F_ShakeHands, 11, t_ShakeHands, rfl, by decide, i_ShakeHands, tb_2 64 (by decide +kernel) rfl, rfl, t_ShakeHands_ok, n_ShakeHands, by decide +kernel, rfl⟩
theorem fl_ShakeHands_110 : Fl "ShakeHands" 110 0 0 (.int) false := ⟨R_Circle, F_Circle, 9, t_Circle, rfl, by decide, i_Circle, tb_1 74 (by decide +kernel) rfl, rfl, t_Circle_ok, n_Circle, by decide +kernel, rfl⟩
theorem fl_ShakeHands_113 : Fl "ShakeHands" 113 0 1 (.int) false := ⟨R_Circle, F_Circle, 9, t_Circle, rfl, by decide, i_Circle, tb_1 77 (by decide +kernel) rfl, rfl, t_Circle_ok, n_Circle, by decide +kernel, rfl⟩
theorem fl_ShakeHands_116 : Fl "ShakeHands" 116 0 3 (.int) false := ⟨R_Circle, F_Circle, 9, t_Circle, rfl, by decide, i_Circle, tb_1 82 (by decide +kernel) rfl, rfl, t_Circle_ok, n_Circle, by decide +kernel, rfl⟩
theorem fl_ShakeHands_119 : Fl "ShakeHands" 119 0 5 (.int) false := ⟨R_Circle, F_Circle, 9, t_Circle, rfl, by decide, i_Circle, tb_1 88 (by decide +kernel) rfl, rfl, t_Circle_ok, n_Circle, by decide +kernel, rfl⟩
theorem fl_ShakeHands_122 : Fl "ShakeHands" 122 0 7 (.int) false := ⟨R_Circle, F_Circle, 9, t_Circle, rfl, by decide, i_Circle, tb_1 94 (by decide +kernel) rfl, rfl, t_Circle_ok, n_Circle, by decide +kernel, rfl⟩
theorem fl_ShakeHands_131 : Fl "ShakeHands" 131 0 6 (.array .int) true := ⟨R_Circle, F_Circle, 9, t_Circle, rfl, by decide, i_Circle, tb_1 91 (by decide +kernel) rfl, rfl, t_Circle_ok, n_Circle, by decide +kernel, rfl⟩
theorem fl_ShakeHands_135 : Fl "ShakeHands" 135 0 4 (.array .int) true := ⟨R_Circle, F_Circle, 9, t_Circle, rfl, by decide, i_Circle, tb_1 85 (by decide +kernel) rfl, rfl, t_Circle_ok, n_Circle, by decide +kernel, rfl⟩
theorem fl_ShakeHands_138 : Fl "ShakeHands" 138 0 2 (.array .int) true := ⟨R_Circle, F_Circle, 9, t_Circle, rfl, by decide, i_Circle, tb_1 79 (by decide +kernel) rfl, rfl, t_Circle_ok, n_Circle, by decide +kernel, rfl⟩
theorem fl_ShakeHands_218 : Fl "ShakeHands" 218 4 0 (.array .int) true := ⟨R_Search, F_Search, 13, t_Search, rfl, by decide, i_Search, tb_1 210 (by decide +kernel) rfl, rfl, t_Search_ok, n_Search, by decide +kernel, rfl⟩
theorem fl_ShakeHands_239 : Fl "ShakeHands" 239 2 3 (.array .int) true := ⟨R_Minds, F_Minds, 4, t_Minds, rfl, by decide, i_Minds, tb_1 190 (by decide +kernel) rfl, rfl, t_Minds_ok, n_Minds, by decide +kernel, rfl⟩
theorem fl_ShakeHands_246 : Fl "ShakeHands" 246 4 2 (.int) false := ⟨R_Search, F_Search, 13, t_Search, rfl, by decide, i_Search, tb_1 214 (by decide +kernel) rfl, rfl, t_Search_ok, n_Search, by decide +kernel, rfl⟩
theorem fl_ShakeHands_249 : Fl "ShakeHands" 249 4 3 (.int) false := ⟨R_Search, F_Search, 13, t_Search, rfl, by decide, i_Search, tb_1 216 (by decide +kernel) rfl, rfl, t_Search_ok, n_Search, by decide +kernel, rfl⟩
theorem fl_ShakeHands_252 : Fl "ShakeHands" 252 4 4 (.int) false := ⟨R_Search, F_Search, 13, t_Search, rfl, by decide, i_Search, tb_1 218 (by decide +kernel) rfl, rfl, t_Search_ok, n_Search, by decide +kernel, rfl⟩
theorem fl_ShakeHands_258 : Fl "ShakeHands" 258 4 1 (.array .int) true := ⟨R_Search, F_Search, 13, t_Search, rfl, by decide, i_Search, tb_1 212 (by decide +kernel) rfl, rfl, t_Search_ok, n_Search, by decide +kernel, rfl⟩
theorem fl_ShakeHands_292 : Fl "ShakeHands" 292 8 10 (.int) false := ⟨R_ShakeHands, F_ShakeHands, 11, t_ShakeHands, rfl, by decide, i_ShakeHands, tb_2 65 (by decide +kernel) rfl, rfl, t_ShakeHands_ok, n_ShakeHands, by decide +kernel, rfl⟩
theorem fl_ShakeHands_298 : Fl "ShakeHands" 298 5 0 (.boolean) false := ⟨R_Sheet, F_Sheet, 4, t_Sheet, rfl, by decide, i_Sheet, tb_2 41 (by decide +kernel) rfl, rfl, t_Sheet_ok, n_Sheet, by decide +kernel, rfl⟩
theorem fl_ShakeHands_302 : Fl "ShakeHands" 302 5 1 (.int) false := ⟨R_Sheet, F_Sheet, 4, t_Sheet, rfl, by decide, i_Sheet, tb_2 43 (by decide +kernel) rfl, rfl, t_Sheet_ok, n_Sheet, by decide +kernel, rfl⟩
theorem fl_Circle_13 : Fl "ShakeHands$Circle" 13 0 0 (.int) false := ⟨R_Circle, F_Circle, 9, t_Circle, rfl, by decide, i_Circle, tb_1 71 (by decide +kernel) rfl, rfl, t_Circle_ok, n_Circle, by decide +kernel, rfl⟩
theorem fl_Circle_17 : Fl "ShakeHands$Circle" 17 0 1 (.int) false := ⟨R_Circle, F_Circle, 9, t_Circle, rfl, by decide, i_Circle, tb_1 75 (by decide +kernel) rfl, rfl, t_Circle_ok, n_Circle, by decide +kernel, rfl⟩
theorem fl_Circle_20 : Fl "ShakeHands$Circle" 20 0 2 (.array .int) true := ⟨R_Circle, F_Circle, 9, t_Circle, rfl, by decide, i_Circle, tb_1 78 (by decide +kernel) rfl, rfl, t_Circle_ok, n_Circle, by decide +kernel, rfl⟩
theorem fl_Circle_24 : Fl "ShakeHands$Circle" 24 0 4 (.array .int) true := ⟨R_Circle, F_Circle, 9, t_Circle, rfl, by decide, i_Circle, tb_1 84 (by decide +kernel) rfl, rfl, t_Circle_ok, n_Circle, by decide +kernel, rfl⟩
theorem fl_Circle_27 : Fl "ShakeHands$Circle" 27 0 6 (.array .int) true := ⟨R_Circle, F_Circle, 9, t_Circle, rfl, by decide, i_Circle, tb_1 90 (by decide +kernel) rfl, rfl, t_Circle_ok, n_Circle, by decide +kernel, rfl⟩
theorem fl_Circle_31 : Fl "ShakeHands$Circle" 31 0 8 (.object "ShakeHands$Row") true := ⟨R_Circle, F_Circle, 9, t_Circle, rfl, by decide, i_Circle, tb_1 96 (by decide +kernel) rfl, rfl, t_Circle_ok, n_Circle, by decide +kernel, rfl⟩
theorem fl_Circle_35 : Fl "ShakeHands$Circle" 35 0 3 (.int) false := ⟨R_Circle, F_Circle, 9, t_Circle, rfl, by decide, i_Circle, tb_1 81 (by decide +kernel) rfl, rfl, t_Circle_ok, n_Circle, by decide +kernel, rfl⟩
theorem fl_Circle_38 : Fl "ShakeHands$Circle" 38 0 5 (.int) false := ⟨R_Circle, F_Circle, 9, t_Circle, rfl, by decide, i_Circle, tb_1 87 (by decide +kernel) rfl, rfl, t_Circle_ok, n_Circle, by decide +kernel, rfl⟩
theorem fl_Circle_41 : Fl "ShakeHands$Circle" 41 0 7 (.int) false := ⟨R_Circle, F_Circle, 9, t_Circle, rfl, by decide, i_Circle, tb_1 93 (by decide +kernel) rfl, rfl, t_Circle_ok, n_Circle, by decide +kernel, rfl⟩
theorem fl_Circle_88 : Fl "ShakeHands$Circle" 88 3 1 (.int) false := ⟨R_Row, F_Row, 2, t_Row, rfl, by decide, i_Row, tb_1 63 (by decide +kernel) rfl, rfl, t_Row_ok, n_Row, by decide +kernel, rfl⟩
theorem fl_Habit_11 : Fl "ShakeHands$Habit" 11 1 0 (.array .long) true := ⟨R_Habit, F_Habit, 4, t_Habit, rfl, by decide, i_Habit, tb_2 20 (by decide +kernel) rfl, rfl, t_Habit_ok, n_Habit, by decide +kernel, rfl⟩
theorem fl_Habit_15 : Fl "ShakeHands$Habit" 15 1 1 (.array .long) true := ⟨R_Habit, F_Habit, 4, t_Habit, rfl, by decide, i_Habit, tb_2 21 (by decide +kernel) rfl, rfl, t_Habit_ok, n_Habit, by decide +kernel, rfl⟩
theorem fl_Habit_18 : Fl "ShakeHands$Habit" 18 1 2 (.object "ShakeHands$Circle") true := ⟨R_Habit, F_Habit, 4, t_Habit, rfl, by decide, i_Habit, tb_2 22 (by decide +kernel) rfl, rfl, t_Habit_ok, n_Habit, by decide +kernel, rfl⟩
theorem fl_Habit_22 : Fl "ShakeHands$Habit" 22 1 3 (.object "ShakeHands$Minds") true := ⟨R_Habit, F_Habit, 4, t_Habit, rfl, by decide, i_Habit, tb_2 23 (by decide +kernel) rfl, rfl, t_Habit_ok, n_Habit, by decide +kernel, rfl⟩
theorem fl_Habit_26 : Fl "ShakeHands$Habit" 26 2 0 (.array .long) true := ⟨R_Minds, F_Minds, 4, t_Minds, rfl, by decide, i_Minds, tb_1 178 (by decide +kernel) rfl, rfl, t_Minds_ok, n_Minds, by decide +kernel, rfl⟩
theorem fl_Habit_39 : Fl "ShakeHands$Habit" 39 2 1 (.int) false := ⟨R_Minds, F_Minds, 4, t_Minds, rfl, by decide, i_Minds, tb_1 182 (by decide +kernel) rfl, rfl, t_Minds_ok, n_Minds, by decide +kernel, rfl⟩
theorem fl_Minds_9 : Fl "ShakeHands$Minds" 9 2 0 (.array .long) true := ⟨R_Minds, F_Minds, 4, t_Minds, rfl, by decide, i_Minds, tb_1 177 (by decide +kernel) rfl, rfl, t_Minds_ok, n_Minds, by decide +kernel, rfl⟩
theorem fl_Minds_15 : Fl "ShakeHands$Minds" 15 2 3 (.array .int) true := ⟨R_Minds, F_Minds, 4, t_Minds, rfl, by decide, i_Minds, tb_1 188 (by decide +kernel) rfl, rfl, t_Minds_ok, n_Minds, by decide +kernel, rfl⟩
theorem fl_Minds_25 : Fl "ShakeHands$Minds" 25 2 1 (.int) false := ⟨R_Minds, F_Minds, 4, t_Minds, rfl, by decide, i_Minds, tb_1 181 (by decide +kernel) rfl, rfl, t_Minds_ok, n_Minds, by decide +kernel, rfl⟩
theorem fl_Minds_29 : Fl "ShakeHands$Minds" 29 2 2 (.int) false := ⟨R_Minds, F_Minds, 4, t_Minds, rfl, by decide, i_Minds, tb_1 185 (by decide +kernel) rfl, rfl, t_Minds_ok, n_Minds, by decide +kernel, rfl⟩
theorem fl_Row_17 : Fl "ShakeHands$Row" 17 3 0 (.long) false := ⟨R_Row, F_Row, 2, t_Row, rfl, by decide, i_Row, tb_1 61 (by decide +kernel) rfl, rfl, t_Row_ok, n_Row, by decide +kernel, rfl⟩
theorem fl_Row_21 : Fl "ShakeHands$Row" 21 3 1 (.int) false := ⟨R_Row, F_Row, 2, t_Row, rfl, by decide, i_Row, tb_1 62 (by decide +kernel) rfl, rfl, t_Row_ok, n_Row, by decide +kernel, rfl⟩
theorem fl_Search_11 : Fl "ShakeHands$Search" 11 4 0 (.array .int) true := ⟨R_Search, F_Search, 13, t_Search, rfl, by decide, i_Search, tb_1 209 (by decide +kernel) rfl, rfl, t_Search_ok, n_Search, by decide +kernel, rfl⟩
theorem fl_Search_15 : Fl "ShakeHands$Search" 15 4 1 (.array .int) true := ⟨R_Search, F_Search, 13, t_Search, rfl, by decide, i_Search, tb_1 211 (by decide +kernel) rfl, rfl, t_Search_ok, n_Search, by decide +kernel, rfl⟩
theorem fl_Search_20 : Fl "ShakeHands$Search" 20 4 5 (.array (.array .long)) true := ⟨R_Search, F_Search, 13, t_Search, rfl, by decide, i_Search, tb_1 219 (by decide +kernel) rfl, rfl, t_Search_ok, n_Search, by decide +kernel, rfl⟩
theorem fl_Search_23 : Fl "ShakeHands$Search" 23 4 6 (.object "ShakeHands$Circle") true := ⟨R_Search, F_Search, 13, t_Search, rfl, by decide, i_Search, tb_1 220 (by decide +kernel) rfl, rfl, t_Search_ok, n_Search, by decide +kernel, rfl⟩
theorem fl_Search_27 : Fl "ShakeHands$Search" 27 4 7 (.object "ShakeHands$Minds") true := ⟨R_Search, F_Search, 13, t_Search, rfl, by decide, i_Search, tb_1 221 (by decide +kernel) rfl, rfl, t_Search_ok, n_Search, by decide +kernel, rfl⟩
theorem fl_Search_31 : Fl "ShakeHands$Search" 31 0 0 (.int) false := ⟨R_Circle, F_Circle, 9, t_Circle, rfl, by decide, i_Circle, tb_1 72 (by decide +kernel) rfl, rfl, t_Circle_ok, n_Circle, by decide +kernel, rfl⟩
theorem fl_Search_37 : Fl "ShakeHands$Search" 37 4 8 (.int) false := ⟨R_Search, F_Search, 13, t_Search, rfl, by decide, i_Search, tb_1 222 (by decide +kernel) rfl, rfl, t_Search_ok, n_Search, by decide +kernel, rfl⟩
theorem fl_Search_40 : Fl "ShakeHands$Search" 40 2 0 (.array .long) true := ⟨R_Minds, F_Minds, 4, t_Minds, rfl, by decide, i_Minds, tb_1 179 (by decide +kernel) rfl, rfl, t_Minds_ok, n_Minds, by decide +kernel, rfl⟩
theorem fl_Search_52 : Fl "ShakeHands$Search" 52 4 9 (.int) false := ⟨R_Search, F_Search, 13, t_Search, rfl, by decide, i_Search, tb_1 223 (by decide +kernel) rfl, rfl, t_Search_ok, n_Search, by decide +kernel, rfl⟩
theorem fl_Search_55 : Fl "ShakeHands$Search" 55 4 10 (.int) false := ⟨R_Search, F_Search, 13, t_Search, rfl, by decide, i_Search, tb_1 224 (by decide +kernel) rfl, rfl, t_Search_ok, n_Search, by decide +kernel, rfl⟩
theorem fl_Search_58 : Fl "ShakeHands$Search" 58 4 11 (.int) false := ⟨R_Search, F_Search, 13, t_Search, rfl, by decide, i_Search, tb_1 225 (by decide +kernel) rfl, rfl, t_Search_ok, n_Search, by decide +kernel, rfl⟩
theorem fl_Search_61 : Fl "ShakeHands$Search" 61 4 12 (.int) false := ⟨R_Search, F_Search, 13, t_Search, rfl, by decide, i_Search, tb_1 226 (by decide +kernel) rfl, rfl, t_Search_ok, n_Search, by decide +kernel, rfl⟩
theorem fl_Search_80 : Fl "ShakeHands$Search" 80 4 2 (.int) false := ⟨R_Search, F_Search, 13, t_Search, rfl, by decide, i_Search, tb_1 213 (by decide +kernel) rfl, rfl, t_Search_ok, n_Search, by decide +kernel, rfl⟩
theorem fl_Search_83 : Fl "ShakeHands$Search" 83 4 3 (.int) false := ⟨R_Search, F_Search, 13, t_Search, rfl, by decide, i_Search, tb_1 215 (by decide +kernel) rfl, rfl, t_Search_ok, n_Search, by decide +kernel, rfl⟩
theorem fl_Search_86 : Fl "ShakeHands$Search" 86 4 4 (.int) false := ⟨R_Search, F_Search, 13, t_Search, rfl, by decide, i_Search, tb_1 217 (by decide +kernel) rfl, rfl, t_Search_ok, n_Search, by decide +kernel, rfl⟩
theorem fl_Search_101 : Fl "ShakeHands$Search" 101 2 2 (.int) false := ⟨R_Minds, F_Minds, 4, t_Minds, rfl, by decide, i_Minds, tb_1 187 (by decide +kernel) rfl, rfl, t_Minds_ok, n_Minds, by decide +kernel, rfl⟩
theorem fl_Search_110 : Fl "ShakeHands$Search" 110 2 3 (.array .int) true := ⟨R_Minds, F_Minds, 4, t_Minds, rfl, by decide, i_Minds, tb_1 189 (by decide +kernel) rfl, rfl, t_Minds_ok, n_Minds, by decide +kernel, rfl⟩
theorem fl_Search_125 : Fl "ShakeHands$Search" 125 2 1 (.int) false := ⟨R_Minds, F_Minds, 4, t_Minds, rfl, by decide, i_Minds, tb_1 184 (by decide +kernel) rfl, rfl, t_Minds_ok, n_Minds, by decide +kernel, rfl⟩
theorem fl_Sheet_9 : Fl "ShakeHands$Sheet" 9 5 3 (.array .int) true := ⟨R_Sheet, F_Sheet, 4, t_Sheet, rfl, by decide, i_Sheet, tb_2 45 (by decide +kernel) rfl, rfl, t_Sheet_ok, n_Sheet, by decide +kernel, rfl⟩
theorem fl_Sheet_13 : Fl "ShakeHands$Sheet" 13 5 0 (.boolean) false := ⟨R_Sheet, F_Sheet, 4, t_Sheet, rfl, by decide, i_Sheet, tb_2 40 (by decide +kernel) rfl, rfl, t_Sheet_ok, n_Sheet, by decide +kernel, rfl⟩
theorem fl_Sheet_17 : Fl "ShakeHands$Sheet" 17 5 2 (.int) false := ⟨R_Sheet, F_Sheet, 4, t_Sheet, rfl, by decide, i_Sheet, tb_2 44 (by decide +kernel) rfl, rfl, t_Sheet_ok, n_Sheet, by decide +kernel, rfl⟩
theorem fl_Sheet_21 : Fl "ShakeHands$Sheet" 21 5 1 (.int) false := ⟨R_Sheet, F_Sheet, 4, t_Sheet, rfl, by decide, i_Sheet, tb_2 42 (by decide +kernel) rfl, rfl, t_Sheet_ok, n_Sheet, by decide +kernel, rfl⟩
theorem fl_Tape_9 : Fl "ShakeHands$Tape" 9 6 0 (.array .byte) true := ⟨R_Tape, F_Tape, 2, t_Tape, rfl, by decide, i_Tape, tb_1 32 (by decide +kernel) rfl, rfl, t_Tape_ok, n_Tape, by decide +kernel, rfl⟩
theorem fl_Tape_13 : Fl "ShakeHands$Tape" 13 6 1 (.int) false := ⟨R_Tape, F_Tape, 2, t_Tape, rfl, by decide, i_Tape, tb_1 34 (by decide +kernel) rfl, rfl, t_Tape_ok, n_Tape, by decide +kernel, rfl⟩
theorem fl_Teller_12 : Fl "ShakeHands$Teller" 12 7 0 (.object "ShakeHands$Circle") true := ⟨R_Teller, F_Teller, 15, t_Teller, rfl, by decide, i_Teller, tb_1 118 (by decide +kernel) rfl, rfl, t_Teller_ok, n_Teller, by decide +kernel, rfl⟩
theorem fl_Teller_18 : Fl "ShakeHands$Teller" 18 7 1 (.array .long) true := ⟨R_Teller, F_Teller, 15, t_Teller, rfl, by decide, i_Teller, tb_1 120 (by decide +kernel) rfl, rfl, t_Teller_ok, n_Teller, by decide +kernel, rfl⟩
theorem fl_Teller_25 : Fl "ShakeHands$Teller" 25 7 5 (.object "ShakeHands$Row") true := ⟨R_Teller, F_Teller, 15, t_Teller, rfl, by decide, i_Teller, tb_1 127 (by decide +kernel) rfl, rfl, t_Teller_ok, n_Teller, by decide +kernel, rfl⟩
theorem fl_Teller_29 : Fl "ShakeHands$Teller" 29 7 4 (.object "ShakeHands$Tape") true := ⟨R_Teller, F_Teller, 15, t_Teller, rfl, by decide, i_Teller, tb_1 126 (by decide +kernel) rfl, rfl, t_Teller_ok, n_Teller, by decide +kernel, rfl⟩
theorem fl_Teller_36 : Fl "ShakeHands$Teller" 36 6 1 (.int) false := ⟨R_Tape, F_Tape, 2, t_Tape, rfl, by decide, i_Tape, tb_1 35 (by decide +kernel) rfl, rfl, t_Tape_ok, n_Tape, by decide +kernel, rfl⟩
theorem fl_Teller_45 : Fl "ShakeHands$Teller" 45 7 3 (.int) false := ⟨R_Teller, F_Teller, 15, t_Teller, rfl, by decide, i_Teller, tb_1 124 (by decide +kernel) rfl, rfl, t_Teller_ok, n_Teller, by decide +kernel, rfl⟩
theorem fl_Teller_48 : Fl "ShakeHands$Teller" 48 7 7 (.int) false := ⟨R_Teller, F_Teller, 15, t_Teller, rfl, by decide, i_Teller, tb_1 129 (by decide +kernel) rfl, rfl, t_Teller_ok, n_Teller, by decide +kernel, rfl⟩
theorem fl_Teller_57 : Fl "ShakeHands$Teller" 57 7 8 (.int) false := ⟨R_Teller, F_Teller, 15, t_Teller, rfl, by decide, i_Teller, tb_1 130 (by decide +kernel) rfl, rfl, t_Teller_ok, n_Teller, by decide +kernel, rfl⟩
theorem fl_Teller_63 : Fl "ShakeHands$Teller" 63 7 2 (.int) false := ⟨R_Teller, F_Teller, 15, t_Teller, rfl, by decide, i_Teller, tb_1 122 (by decide +kernel) rfl, rfl, t_Teller_ok, n_Teller, by decide +kernel, rfl⟩
theorem fl_Teller_66 : Fl "ShakeHands$Teller" 66 7 6 (.int) false := ⟨R_Teller, F_Teller, 15, t_Teller, rfl, by decide, i_Teller, tb_1 128 (by decide +kernel) rfl, rfl, t_Teller_ok, n_Teller, by decide +kernel, rfl⟩
theorem fl_Teller_69 : Fl "ShakeHands$Teller" 69 7 10 (.boolean) false := ⟨R_Teller, F_Teller, 15, t_Teller, rfl, by decide, i_Teller, tb_1 132 (by decide +kernel) rfl, rfl, t_Teller_ok, n_Teller, by decide +kernel, rfl⟩
theorem fl_Teller_73 : Fl "ShakeHands$Teller" 73 7 11 (.boolean) false := ⟨R_Teller, F_Teller, 15, t_Teller, rfl, by decide, i_Teller, tb_1 133 (by decide +kernel) rfl, rfl, t_Teller_ok, n_Teller, by decide +kernel, rfl⟩
theorem fl_Teller_76 : Fl "ShakeHands$Teller" 76 7 12 (.int) false := ⟨R_Teller, F_Teller, 15, t_Teller, rfl, by decide, i_Teller, tb_1 134 (by decide +kernel) rfl, rfl, t_Teller_ok, n_Teller, by decide +kernel, rfl⟩
theorem fl_Teller_79 : Fl "ShakeHands$Teller" 79 7 13 (.int) false := ⟨R_Teller, F_Teller, 15, t_Teller, rfl, by decide, i_Teller, tb_1 135 (by decide +kernel) rfl, rfl, t_Teller_ok, n_Teller, by decide +kernel, rfl⟩
theorem fl_Teller_82 : Fl "ShakeHands$Teller" 82 7 14 (.int) false := ⟨R_Teller, F_Teller, 15, t_Teller, rfl, by decide, i_Teller, tb_1 136 (by decide +kernel) rfl, rfl, t_Teller_ok, n_Teller, by decide +kernel, rfl⟩
theorem fl_Teller_85 : Fl "ShakeHands$Teller" 85 0 0 (.int) false := ⟨R_Circle, F_Circle, 9, t_Circle, rfl, by decide, i_Circle, tb_1 73 (by decide +kernel) rfl, rfl, t_Circle_ok, n_Circle, by decide +kernel, rfl⟩
theorem fl_Teller_92 : Fl "ShakeHands$Teller" 92 0 1 (.int) false := ⟨R_Circle, F_Circle, 9, t_Circle, rfl, by decide, i_Circle, tb_1 76 (by decide +kernel) rfl, rfl, t_Circle_ok, n_Circle, by decide +kernel, rfl⟩
theorem fl_Teller_95 : Fl "ShakeHands$Teller" 95 6 0 (.array .byte) true := ⟨R_Tape, F_Tape, 2, t_Tape, rfl, by decide, i_Tape, tb_1 33 (by decide +kernel) rfl, rfl, t_Tape_ok, n_Tape, by decide +kernel, rfl⟩
theorem fl_Teller_103 : Fl "ShakeHands$Teller" 103 7 9 (.int) false := ⟨R_Teller, F_Teller, 15, t_Teller, rfl, by decide, i_Teller, tb_1 131 (by decide +kernel) rfl, rfl, t_Teller_ok, n_Teller, by decide +kernel, rfl⟩
theorem fl_Teller_139 : Fl "ShakeHands$Teller" 139 0 4 (.array .int) true := ⟨R_Circle, F_Circle, 9, t_Circle, rfl, by decide, i_Circle, tb_1 86 (by decide +kernel) rfl, rfl, t_Circle_ok, n_Circle, by decide +kernel, rfl⟩
theorem fl_Teller_143 : Fl "ShakeHands$Teller" 143 0 5 (.int) false := ⟨R_Circle, F_Circle, 9, t_Circle, rfl, by decide, i_Circle, tb_1 89 (by decide +kernel) rfl, rfl, t_Circle_ok, n_Circle, by decide +kernel, rfl⟩
theorem fl_Teller_152 : Fl "ShakeHands$Teller" 152 0 6 (.array .int) true := ⟨R_Circle, F_Circle, 9, t_Circle, rfl, by decide, i_Circle, tb_1 92 (by decide +kernel) rfl, rfl, t_Circle_ok, n_Circle, by decide +kernel, rfl⟩
theorem fl_Teller_154 : Fl "ShakeHands$Teller" 154 0 7 (.int) false := ⟨R_Circle, F_Circle, 9, t_Circle, rfl, by decide, i_Circle, tb_1 95 (by decide +kernel) rfl, rfl, t_Circle_ok, n_Circle, by decide +kernel, rfl⟩
theorem fl_Teller_184 : Fl "ShakeHands$Teller" 184 3 1 (.int) false := ⟨R_Row, F_Row, 2, t_Row, rfl, by decide, i_Row, tb_1 64 (by decide +kernel) rfl, rfl, t_Row_ok, n_Row, by decide +kernel, rfl⟩
theorem fl_Teller_200 : Fl "ShakeHands$Teller" 200 0 3 (.int) false := ⟨R_Circle, F_Circle, 9, t_Circle, rfl, by decide, i_Circle, tb_1 83 (by decide +kernel) rfl, rfl, t_Circle_ok, n_Circle, by decide +kernel, rfl⟩
theorem fl_Teller_203 : Fl "ShakeHands$Teller" 203 0 2 (.array .int) true := ⟨R_Circle, F_Circle, 9, t_Circle, rfl, by decide, i_Circle, tb_1 80 (by decide +kernel) rfl, rfl, t_Circle_ok, n_Circle, by decide +kernel, rfl⟩
theorem fl_Model_7 : Fl "ShakeHandsModel" 7 9 0 (.array .int) true := ⟨R_Model, F_Model, 55, t_Model, rfl, by decide, i_Model, tb_4 177 (by decide +kernel) rfl, rfl, t_Model_ok, n_Model, by decide +kernel, rfl⟩
theorem fl_Model_13 : Fl "ShakeHandsModel" 13 9 1 (.array .boolean) true := ⟨R_Model, F_Model, 55, t_Model, rfl, by decide, i_Model, tb_4 178 (by decide +kernel) rfl, rfl, t_Model_ok, n_Model, by decide +kernel, rfl⟩
theorem fl_Model_17 : Fl "ShakeHandsModel" 17 9 7 (.array .int) true := ⟨R_Model, F_Model, 55, t_Model, rfl, by decide, i_Model, tb_4 184 (by decide +kernel) rfl, rfl, t_Model_ok, n_Model, by decide +kernel, rfl⟩
theorem fl_Model_20 : Fl "ShakeHandsModel" 20 9 8 (.array .int) true := ⟨R_Model, F_Model, 55, t_Model, rfl, by decide, i_Model, tb_4 185 (by decide +kernel) rfl, rfl, t_Model_ok, n_Model, by decide +kernel, rfl⟩
theorem fl_Model_23 : Fl "ShakeHandsModel" 23 9 9 (.array .int) true := ⟨R_Model, F_Model, 55, t_Model, rfl, by decide, i_Model, tb_4 186 (by decide +kernel) rfl, rfl, t_Model_ok, n_Model, by decide +kernel, rfl⟩
theorem fl_Model_26 : Fl "ShakeHandsModel" 26 9 10 (.array .int) true := ⟨R_Model, F_Model, 55, t_Model, rfl, by decide, i_Model, tb_4 187 (by decide +kernel) rfl, rfl, t_Model_ok, n_Model, by decide +kernel, rfl⟩
theorem fl_Model_29 : Fl "ShakeHandsModel" 29 9 11 (.array .int) true := ⟨R_Model, F_Model, 55, t_Model, rfl, by decide, i_Model, tb_4 188 (by decide +kernel) rfl, rfl, t_Model_ok, n_Model, by decide +kernel, rfl⟩
theorem fl_Model_32 : Fl "ShakeHandsModel" 32 9 18 (.array .int) true := ⟨R_Model, F_Model, 55, t_Model, rfl, by decide, i_Model, tb_4 195 (by decide +kernel) rfl, rfl, t_Model_ok, n_Model, by decide +kernel, rfl⟩
theorem fl_Model_35 : Fl "ShakeHandsModel" 35 9 19 (.array .int) true := ⟨R_Model, F_Model, 55, t_Model, rfl, by decide, i_Model, tb_4 196 (by decide +kernel) rfl, rfl, t_Model_ok, n_Model, by decide +kernel, rfl⟩
theorem fl_Model_38 : Fl "ShakeHandsModel" 38 9 20 (.array .int) true := ⟨R_Model, F_Model, 55, t_Model, rfl, by decide, i_Model, tb_4 197 (by decide +kernel) rfl, rfl, t_Model_ok, n_Model, by decide +kernel, rfl⟩
theorem fl_Model_41 : Fl "ShakeHandsModel" 41 9 21 (.array .int) true := ⟨R_Model, F_Model, 55, t_Model, rfl, by decide, i_Model, tb_4 198 (by decide +kernel) rfl, rfl, t_Model_ok, n_Model, by decide +kernel, rfl⟩
theorem fl_Model_44 : Fl "ShakeHandsModel" 44 9 22 (.array .boolean) true := ⟨R_Model, F_Model, 55, t_Model, rfl, by decide, i_Model, tb_4 199 (by decide +kernel) rfl, rfl, t_Model_ok, n_Model, by decide +kernel, rfl⟩
theorem fl_Model_47 : Fl "ShakeHandsModel" 47 9 23 (.array .boolean) true := ⟨R_Model, F_Model, 55, t_Model, rfl, by decide, i_Model, tb_4 200 (by decide +kernel) rfl, rfl, t_Model_ok, n_Model, by decide +kernel, rfl⟩
theorem fl_Model_50 : Fl "ShakeHandsModel" 50 9 25 (.array .int) true := ⟨R_Model, F_Model, 55, t_Model, rfl, by decide, i_Model, tb_4 202 (by decide +kernel) rfl, rfl, t_Model_ok, n_Model, by decide +kernel, rfl⟩
theorem fl_Model_53 : Fl "ShakeHandsModel" 53 9 33 (.array .int) true := ⟨R_Model, F_Model, 55, t_Model, rfl, by decide, i_Model, tb_4 210 (by decide +kernel) rfl, rfl, t_Model_ok, n_Model, by decide +kernel, rfl⟩
theorem fl_Model_56 : Fl "ShakeHandsModel" 56 9 34 (.array .int) true := ⟨R_Model, F_Model, 55, t_Model, rfl, by decide, i_Model, tb_4 211 (by decide +kernel) rfl, rfl, t_Model_ok, n_Model, by decide +kernel, rfl⟩
theorem fl_Model_59 : Fl "ShakeHandsModel" 59 9 36 (.array .int) true := ⟨R_Model, F_Model, 55, t_Model, rfl, by decide, i_Model, tb_4 213 (by decide +kernel) rfl, rfl, t_Model_ok, n_Model, by decide +kernel, rfl⟩
theorem fl_Model_62 : Fl "ShakeHandsModel" 62 9 37 (.array .int) true := ⟨R_Model, F_Model, 55, t_Model, rfl, by decide, i_Model, tb_4 214 (by decide +kernel) rfl, rfl, t_Model_ok, n_Model, by decide +kernel, rfl⟩
theorem fl_Model_65 : Fl "ShakeHandsModel" 65 9 46 (.array .int) true := ⟨R_Model, F_Model, 55, t_Model, rfl, by decide, i_Model, tb_4 223 (by decide +kernel) rfl, rfl, t_Model_ok, n_Model, by decide +kernel, rfl⟩
theorem fl_Model_68 : Fl "ShakeHandsModel" 68 9 48 (.array .long) true := ⟨R_Model, F_Model, 55, t_Model, rfl, by decide, i_Model, tb_4 225 (by decide +kernel) rfl, rfl, t_Model_ok, n_Model, by decide +kernel, rfl⟩
theorem fl_Model_72 : Fl "ShakeHandsModel" 72 9 49 (.array .int) true := ⟨R_Model, F_Model, 55, t_Model, rfl, by decide, i_Model, tb_4 226 (by decide +kernel) rfl, rfl, t_Model_ok, n_Model, by decide +kernel, rfl⟩
theorem fl_Model_75 : Fl "ShakeHandsModel" 75 9 50 (.array .int) true := ⟨R_Model, F_Model, 55, t_Model, rfl, by decide, i_Model, tb_4 227 (by decide +kernel) rfl, rfl, t_Model_ok, n_Model, by decide +kernel, rfl⟩
theorem fl_Model_78 : Fl "ShakeHandsModel" 78 9 51 (.array .int) true := ⟨R_Model, F_Model, 55, t_Model, rfl, by decide, i_Model, tb_4 228 (by decide +kernel) rfl, rfl, t_Model_ok, n_Model, by decide +kernel, rfl⟩
theorem fl_Model_81 : Fl "ShakeHandsModel" 81 9 52 (.array .int) true := ⟨R_Model, F_Model, 55, t_Model, rfl, by decide, i_Model, tb_4 229 (by decide +kernel) rfl, rfl, t_Model_ok, n_Model, by decide +kernel, rfl⟩
theorem fl_Model_84 : Fl "ShakeHandsModel" 84 9 53 (.array .int) true := ⟨R_Model, F_Model, 55, t_Model, rfl, by decide, i_Model, tb_4 230 (by decide +kernel) rfl, rfl, t_Model_ok, n_Model, by decide +kernel, rfl⟩
theorem fl_Model_97 : Fl "ShakeHandsModel" 97 9 12 (.int) false := ⟨R_Model, F_Model, 55, t_Model, rfl, by decide, i_Model, tb_4 189 (by decide +kernel) rfl, rfl, t_Model_ok, n_Model, by decide +kernel, rfl⟩
theorem fl_Model_101 : Fl "ShakeHandsModel" 101 9 13 (.int) false := ⟨R_Model, F_Model, 55, t_Model, rfl, by decide, i_Model, tb_4 190 (by decide +kernel) rfl, rfl, t_Model_ok, n_Model, by decide +kernel, rfl⟩
theorem fl_Model_104 : Fl "ShakeHandsModel" 104 9 14 (.int) false := ⟨R_Model, F_Model, 55, t_Model, rfl, by decide, i_Model, tb_4 191 (by decide +kernel) rfl, rfl, t_Model_ok, n_Model, by decide +kernel, rfl⟩
theorem fl_Model_107 : Fl "ShakeHandsModel" 107 9 15 (.int) false := ⟨R_Model, F_Model, 55, t_Model, rfl, by decide, i_Model, tb_4 192 (by decide +kernel) rfl, rfl, t_Model_ok, n_Model, by decide +kernel, rfl⟩
theorem fl_Model_110 : Fl "ShakeHandsModel" 110 9 16 (.int) false := ⟨R_Model, F_Model, 55, t_Model, rfl, by decide, i_Model, tb_4 193 (by decide +kernel) rfl, rfl, t_Model_ok, n_Model, by decide +kernel, rfl⟩
theorem fl_Model_113 : Fl "ShakeHandsModel" 113 9 17 (.int) false := ⟨R_Model, F_Model, 55, t_Model, rfl, by decide, i_Model, tb_4 194 (by decide +kernel) rfl, rfl, t_Model_ok, n_Model, by decide +kernel, rfl⟩
theorem fl_Model_116 : Fl "ShakeHandsModel" 116 9 24 (.int) false := ⟨R_Model, F_Model, 55, t_Model, rfl, by decide, i_Model, tb_4 201 (by decide +kernel) rfl, rfl, t_Model_ok, n_Model, by decide +kernel, rfl⟩
theorem fl_Model_119 : Fl "ShakeHandsModel" 119 9 2 (.int) false := ⟨R_Model, F_Model, 55, t_Model, rfl, by decide, i_Model, tb_4 179 (by decide +kernel) rfl, rfl, t_Model_ok, n_Model, by decide +kernel, rfl⟩
theorem fl_Model_122 : Fl "ShakeHandsModel" 122 9 3 (.int) false := ⟨R_Model, F_Model, 55, t_Model, rfl, by decide, i_Model, tb_4 180 (by decide +kernel) rfl, rfl, t_Model_ok, n_Model, by decide +kernel, rfl⟩
theorem fl_Model_125 : Fl "ShakeHandsModel" 125 9 4 (.int) false := ⟨R_Model, F_Model, 55, t_Model, rfl, by decide, i_Model, tb_4 181 (by decide +kernel) rfl, rfl, t_Model_ok, n_Model, by decide +kernel, rfl⟩
theorem fl_Model_128 : Fl "ShakeHandsModel" 128 9 5 (.int) false := ⟨R_Model, F_Model, 55, t_Model, rfl, by decide, i_Model, tb_4 182 (by decide +kernel) rfl, rfl, t_Model_ok, n_Model, by decide +kernel, rfl⟩
theorem fl_Model_131 : Fl "ShakeHandsModel" 131 9 6 (.int) false := ⟨R_Model, F_Model, 55, t_Model, rfl, by decide, i_Model, tb_4 183 (by decide +kernel) rfl, rfl, t_Model_ok, n_Model, by decide +kernel, rfl⟩
theorem fl_Model_138 : Fl "ShakeHandsModel" 138 9 26 (.int) false := ⟨R_Model, F_Model, 55, t_Model, rfl, by decide, i_Model, tb_4 203 (by decide +kernel) rfl, rfl, t_Model_ok, n_Model, by decide +kernel, rfl⟩
theorem fl_Model_147 : Fl "ShakeHandsModel" 147 9 31 (.int) false := ⟨R_Model, F_Model, 55, t_Model, rfl, by decide, i_Model, tb_4 208 (by decide +kernel) rfl, rfl, t_Model_ok, n_Model, by decide +kernel, rfl⟩
theorem fl_Model_150 : Fl "ShakeHandsModel" 150 9 28 (.int) false := ⟨R_Model, F_Model, 55, t_Model, rfl, by decide, i_Model, tb_4 205 (by decide +kernel) rfl, rfl, t_Model_ok, n_Model, by decide +kernel, rfl⟩
theorem fl_Model_153 : Fl "ShakeHandsModel" 153 9 32 (.int) false := ⟨R_Model, F_Model, 55, t_Model, rfl, by decide, i_Model, tb_4 209 (by decide +kernel) rfl, rfl, t_Model_ok, n_Model, by decide +kernel, rfl⟩
theorem fl_Model_156 : Fl "ShakeHandsModel" 156 9 27 (.int) false := ⟨R_Model, F_Model, 55, t_Model, rfl, by decide, i_Model, tb_4 204 (by decide +kernel) rfl, rfl, t_Model_ok, n_Model, by decide +kernel, rfl⟩
theorem fl_Model_167 : Fl "ShakeHandsModel" 167 9 29 (.int) false := ⟨R_Model, F_Model, 55, t_Model, rfl, by decide, i_Model, tb_4 206 (by decide +kernel) rfl, rfl, t_Model_ok, n_Model, by decide +kernel, rfl⟩
theorem fl_Model_178 : Fl "ShakeHandsModel" 178 9 30 (.int) false := ⟨R_Model, F_Model, 55, t_Model, rfl, by decide, i_Model, tb_4 207 (by decide +kernel) rfl, rfl, t_Model_ok, n_Model, by decide +kernel, rfl⟩
theorem fl_Model_229 : Fl "ShakeHandsModel" 229 9 35 (.int) false := ⟨R_Model, F_Model, 55, t_Model, rfl, by decide, i_Model, tb_4 212 (by decide +kernel) rfl, rfl, t_Model_ok, n_Model, by decide +kernel, rfl⟩
theorem fl_Model_302 : Fl "ShakeHandsModel" 302 9 38 (.int) false := ⟨R_Model, F_Model, 55, t_Model, rfl, by decide, i_Model, tb_4 215 (by decide +kernel) rfl, rfl, t_Model_ok, n_Model, by decide +kernel, rfl⟩
theorem fl_Model_308 : Fl "ShakeHandsModel" 308 9 39 (.int) false := ⟨R_Model, F_Model, 55, t_Model, rfl, by decide, i_Model, tb_4 216 (by decide +kernel) rfl, rfl, t_Model_ok, n_Model, by decide +kernel, rfl⟩
theorem fl_Model_311 : Fl "ShakeHandsModel" 311 9 40 (.int) false := ⟨R_Model, F_Model, 55, t_Model, rfl, by decide, i_Model, tb_4 217 (by decide +kernel) rfl, rfl, t_Model_ok, n_Model, by decide +kernel, rfl⟩
theorem fl_Model_314 : Fl "ShakeHandsModel" 314 9 42 (.int) false := ⟨R_Model, F_Model, 55, t_Model, rfl, by decide, i_Model, tb_4 219 (by decide +kernel) rfl, rfl, t_Model_ok, n_Model, by decide +kernel, rfl⟩
theorem fl_Model_320 : Fl "ShakeHandsModel" 320 9 41 (.int) false := ⟨R_Model, F_Model, 55, t_Model, rfl, by decide, i_Model, tb_4 218 (by decide +kernel) rfl, rfl, t_Model_ok, n_Model, by decide +kernel, rfl⟩
theorem fl_Model_323 : Fl "ShakeHandsModel" 323 9 43 (.int) false := ⟨R_Model, F_Model, 55, t_Model, rfl, by decide, i_Model, tb_4 220 (by decide +kernel) rfl, rfl, t_Model_ok, n_Model, by decide +kernel, rfl⟩
theorem fl_Model_326 : Fl "ShakeHandsModel" 326 9 44 (.int) false := ⟨R_Model, F_Model, 55, t_Model, rfl, by decide, i_Model, tb_4 221 (by decide +kernel) rfl, rfl, t_Model_ok, n_Model, by decide +kernel, rfl⟩
theorem fl_Model_329 : Fl "ShakeHandsModel" 329 9 45 (.int) false := ⟨R_Model, F_Model, 55, t_Model, rfl, by decide, i_Model, tb_4 222 (by decide +kernel) rfl, rfl, t_Model_ok, n_Model, by decide +kernel, rfl⟩
theorem fl_Model_365 : Fl "ShakeHandsModel" 365 9 47 (.int) false := ⟨R_Model, F_Model, 55, t_Model, rfl, by decide, i_Model, tb_4 224 (by decide +kernel) rfl, rfl, t_Model_ok, n_Model, by decide +kernel, rfl⟩
theorem fl_Model_408 : Fl "ShakeHandsModel" 408 9 54 (.int) false := ⟨R_Model, F_Model, 55, t_Model, rfl, by decide, i_Model, tb_4 231 (by decide +kernel) rfl, rfl, t_Model_ok, n_Model, by decide +kernel, rfl⟩
theorem gs_Circle_50 : ("ShakeHands$Circle", 50, "LESSER") ∈ nestF := by decide +kernel
theorem gs_Circle_53 : ("ShakeHands$Circle", 53, "GREATER") ∈ nestF := by decide +kernel
theorem gs_Search_113 : ("ShakeHands$Search", 113, "LESSER") ∈ nestF := by decide +kernel
theorem gs_Search_116 : ("ShakeHands$Search", 116, "GREATER") ∈ nestF := by decide +kernel
theorem ct_ShakeHands_238 : Cond.constant "ShakeHands" 238 65536 ∈ tbl := tb_4 44 (by decide +kernel) rfl
theorem ct_ShakeHands_313 : Cond.constant "ShakeHands" 313 65535 ∈ tbl := tb_4 156 (by decide +kernel) rfl
theorem ct_Model_368 : Cond.constant "ShakeHandsModel" 368 32768 ∈ tbl := tb_6 150 (by decide +kernel) rfl
theorem ct_Model_411 : Cond.constant "ShakeHandsModel" 411 65535 ∈ tbl := tb_7 16 (by decide +kernel) rfl
theorem ct_Integer_265 : Cond.constant "java/lang/Integer" 265 1431655765 ∈ tbl := tb_2 227 (by decide +kernel) rfl
theorem ct_Integer_266 : Cond.constant "java/lang/Integer" 266 858993459 ∈ tbl := tb_2 228 (by decide +kernel) rfl
theorem ct_Integer_267 : Cond.constant "java/lang/Integer" 267 252645135 ∈ tbl := tb_2 229 (by decide +kernel) rfl
theorem cl_Row_15 : Cond.constantLong "ShakeHands$Row" 15 68719476735 ∈ tbl := tb_2 219 (by decide +kernel) rfl
theorem cl_Row_29 : Cond.constantLong "ShakeHands$Row" 29 15 ∈ tbl := tb_3 111 (by decide +kernel) rfl
theorem cl_Model_141 : Cond.constantLong "ShakeHandsModel" 141 255 ∈ tbl := tb_5 108 (by decide +kernel) rfl
theorem cl_Model_170 : Cond.constantLong "ShakeHandsModel" 170 97 ∈ tbl := tb_5 128 (by decide +kernel) rfl
theorem cl_Model_172 : Cond.constantLong "ShakeHandsModel" 172 122 ∈ tbl := tb_5 129 (by decide +kernel) rfl
theorem cl_Model_174 : Cond.constantLong "ShakeHandsModel" 174 48 ∈ tbl := tb_5 130 (by decide +kernel) rfl
theorem cl_Model_176 : Cond.constantLong "ShakeHandsModel" 176 57 ∈ tbl := tb_5 131 (by decide +kernel) rfl
theorem cl_Model_227 : Cond.constantLong "ShakeHandsModel" 227 2 ∈ tbl := tb_5 203 (by decide +kernel) rfl
theorem cl_Model_254 : Cond.constantLong "ShakeHandsModel" 254 15 ∈ tbl := tb_5 235 (by decide +kernel) rfl
theorem cl_Model_354 : Cond.constantLong "ShakeHandsModel" 354 10 ∈ tbl := tb_6 100 (by decide +kernel) rfl
theorem cl_Model_356 : Cond.constantLong "ShakeHandsModel" 356 13 ∈ tbl := tb_6 101 (by decide +kernel) rfl
theorem cl_Model_381 : Cond.constantLong "ShakeHandsModel" 381 17 ∈ tbl := tb_6 179 (by decide +kernel) rfl
theorem cl_Model_389 : Cond.constantLong "ShakeHandsModel" 389 99 ∈ tbl := tb_6 188 (by decide +kernel) rfl
theorem cl_Model_391 : Cond.constantLong "ShakeHandsModel" 391 65535 ∈ tbl := tb_6 193 (by decide +kernel) rfl
theorem cl_Model_396 : Cond.constantLong "ShakeHandsModel" 396 4 ∈ tbl := tb_6 206 (by decide +kernel) rfl
theorem cl_Model_401 : Cond.constantLong "ShakeHandsModel" 401 3 ∈ tbl := tb_6 238 (by decide +kernel) rfl
theorem cl_Model_406 : Cond.constantLong "ShakeHandsModel" 406 20 ∈ tbl := tb_7 7 (by decide +kernel) rfl
theorem cw_nat : Cond.native arraycopyName ∈ tbl := tb_3 32 (by decide +kernel) rfl
theorem cw_st : Cond.static arraycopyName ∈ tbl := tb_3 31 (by decide +kernel) rfl
theorem cw_ShakeHands_94 : Cond.methodLink "ShakeHands" 94 arraycopyName ∈ tbl := tb_3 33 (by decide +kernel) rfl
theorem cw_Circle_44 : Cond.methodLink "ShakeHands$Circle" 44 arraycopyName ∈ tbl := tb_3 30 (by decide +kernel) rfl
theorem cw_Habit_29 : Cond.methodLink "ShakeHands$Habit" 29 arraycopyName ∈ tbl := tb_4 17 (by decide +kernel) rfl
theorem cw_Minds_19 : Cond.methodLink "ShakeHands$Minds" 19 arraycopyName ∈ tbl := tb_4 100 (by decide +kernel) rfl
theorem cw_Search_46 : Cond.methodLink "ShakeHands$Search" 46 arraycopyName ∈ tbl := tb_3 199 (by decide +kernel) rfl
theorem mw_ShakeHands_305 : Cond.methodLink "ShakeHands" 305 Lib.Math.max.name ∈ tbl := tb_3 12 (by decide +kernel) rfl
theorem mw_ShakeHands_310 : Cond.methodLink "ShakeHands" 310 Lib.Math.min.name ∈ tbl := tb_3 13 (by decide +kernel) rfl
theorem mw_Teller_169 : Cond.methodLink "ShakeHands$Teller" 169 Lib.Math.max.name ∈ tbl := tb_2 212 (by decide +kernel) rfl
theorem ms_max : Cond.static Lib.Math.max.name ∈ tbl := tb_2 213 (by decide +kernel) rfl
theorem mc_max : Cond.code Lib.Math.max.name Lib.Math.max.code 2 (some .int) ∈ tbl := tb_2 214 (by decide +kernel) rfl
theorem ms_min : Cond.static Lib.Math.min.name ∈ tbl := tb_3 14 (by decide +kernel) rfl
theorem mc_min : Cond.code Lib.Math.min.name Lib.Math.min.code 2 (some .int) ∈ tbl := tb_3 15 (by decide +kernel) rfl
theorem cV_ShakeHands_70 : CV "ShakeHands" 70 y_Tape_append := ⟨tb_2 93 (by decide +kernel) rfl, im_Tape_append, se_Tape_append, ini_Tape⟩
theorem cV_ShakeHands_78 : CV "ShakeHands" 78 y_Teller_tell := ⟨tb_2 105 (by decide +kernel) rfl, im_Teller_tell, se_Teller_tell, ini_Teller⟩
theorem cV_ShakeHands_86 : CV "ShakeHands" 86 y_Circle_copy := ⟨tb_3 26 (by decide +kernel) rfl, im_Circle_copy, se_Circle_copy, ini_Circle⟩
theorem cV_ShakeHands_141 : CV "ShakeHands" 141 y_ShakeHands_isOne := ⟨tb_3 55 (by decide +kernel) rfl, im_ShakeHands_isOne, se_ShakeHands_isOne, ini_ShakeHands⟩
theorem cV_ShakeHands_165 : CV "ShakeHands" 165 y_ShakeHands_knowsNow := ⟨tb_3 86 (by decide +kernel) rfl, im_ShakeHands_knowsNow, se_ShakeHands_knowsNow, ini_ShakeHands⟩
theorem cV_ShakeHands_169 : CV "ShakeHands" 169 y_Circle_taught := ⟨tb_3 93 (by decide +kernel) rfl, im_Circle_taught, se_Circle_taught, ini_Circle⟩
theorem cV_ShakeHands_173 : CV "ShakeHands" 173 y_Circle_without := ⟨tb_3 121 (by decide +kernel) rfl, im_Circle_without, se_Circle_without, ini_Circle⟩
theorem cV_ShakeHands_176 : CV "ShakeHands" 176 y_ShakeHands_areTwo := ⟨tb_3 133 (by decide +kernel) rfl, im_ShakeHands_areTwo, se_ShakeHands_areTwo, ini_ShakeHands⟩
theorem cV_ShakeHands_183 : CV "ShakeHands" 183 y_Circle_meet := ⟨tb_3 138 (by decide +kernel) rfl, im_Circle_meet, se_Circle_meet, ini_Circle⟩
theorem cV_ShakeHands_187 : CV "ShakeHands" 187 y_ShakeHands_isFeastPart := ⟨tb_3 155 (by decide +kernel) rfl, im_ShakeHands_isFeastPart, se_ShakeHands_isFeastPart, ini_ShakeHands⟩
theorem cV_ShakeHands_194 : CV "ShakeHands" 194 y_Circle_celebrate := ⟨tb_3 162 (by decide +kernel) rfl, im_Circle_celebrate, se_Circle_celebrate, ini_Circle⟩
theorem cV_ShakeHands_198 : CV "ShakeHands" 198 y_ShakeHands_takeTrial := ⟨tb_3 171 (by decide +kernel) rfl, im_ShakeHands_takeTrial, se_ShakeHands_takeTrial, ini_ShakeHands⟩
theorem cV_ShakeHands_205 : CV "ShakeHands" 205 y_ShakeHands_arePeople := ⟨tb_3 187 (by decide +kernel) rfl, im_ShakeHands_arePeople, se_ShakeHands_arePeople, ini_ShakeHands⟩
theorem cV_ShakeHands_208 : CV "ShakeHands" 208 y_Search_begin := ⟨tb_3 195 (by decide +kernel) rfl, im_Search_begin, se_Search_begin, ini_Search⟩
theorem cV_ShakeHands_211 : CV "ShakeHands" 211 y_Search_aim := ⟨tb_3 200 (by decide +kernel) rfl, im_Search_aim, se_Search_aim, ini_Search⟩
theorem cV_ShakeHands_215 : CV "ShakeHands" 215 y_Search_fewestHands := ⟨tb_3 204 (by decide +kernel) rfl, im_Search_fewestHands, se_Search_fewestHands, ini_Search⟩
theorem cV_ShakeHands_221 : CV "ShakeHands" 221 y_Search_fewestRounds := ⟨tb_3 238 (by decide +kernel) rfl, im_Search_fewestRounds, se_Search_fewestRounds, ini_Search⟩
theorem cV_ShakeHands_224 : CV "ShakeHands" 224 y_ShakeHands_everybody := ⟨tb_3 191 (by decide +kernel) rfl, im_ShakeHands_everybody, se_ShakeHands_everybody, ini_ShakeHands⟩
theorem cV_ShakeHands_227 : CV "ShakeHands" 227 y_Habit_lastDay := ⟨tb_4 13 (by decide +kernel) rfl, im_Habit_lastDay, se_Habit_lastDay, ini_Habit⟩
theorem cV_ShakeHands_230 : CV "ShakeHands" 230 y_Habit_comesBack := ⟨tb_4 27 (by decide +kernel) rfl, im_Habit_comesBack, se_Habit_comesBack, ini_Habit⟩
theorem cV_ShakeHands_234 : CV "ShakeHands" 234 y_Circle_liveDay := ⟨tb_4 39 (by decide +kernel) rfl, im_Circle_liveDay, se_Circle_liveDay, ini_Circle⟩
theorem cV_ShakeHands_242 : CV "ShakeHands" 242 y_Search_countFits := ⟨tb_4 53 (by decide +kernel) rfl, im_Search_countFits, se_Search_countFits, ini_Search⟩
theorem cV_ShakeHands_255 : CV "ShakeHands" 255 y_Search_countSeats := ⟨tb_4 73 (by decide +kernel) rfl, im_Search_countSeats, se_Search_countSeats, ini_Search⟩
theorem cV_ShakeHands_261 : CV "ShakeHands" 261 y_ShakeHands_fewestGloves := ⟨tb_4 85 (by decide +kernel) rfl, im_ShakeHands_fewestGloves, se_ShakeHands_fewestGloves, ini_ShakeHands⟩
theorem cV_ShakeHands_267 : CV "ShakeHands" 267 y_Minds_copy := ⟨tb_4 96 (by decide +kernel) rfl, im_Minds_copy, se_Minds_copy, ini_Minds⟩
theorem cV_ShakeHands_276 : CV "ShakeHands" 276 y_Sheet_renew := ⟨tb_4 115 (by decide +kernel) rfl, im_Sheet_renew, se_Sheet_renew, ini_Sheet⟩
theorem cV_ShakeHands_280 : CV "ShakeHands" 280 y_Sheet_faultAt := ⟨tb_4 123 (by decide +kernel) rfl, im_Sheet_faultAt, se_Sheet_faultAt, ini_Sheet⟩
theorem cV_ShakeHands_283 : CV "ShakeHands" 283 y_Sheet_put := ⟨tb_4 127 (by decide +kernel) rfl, im_Sheet_put, se_Sheet_put, ini_Sheet⟩
theorem cV_ShakeHands_286 : CV "ShakeHands" 286 y_Sheet_faultOfTwo := ⟨tb_4 136 (by decide +kernel) rfl, im_Sheet_faultOfTwo, se_Sheet_faultOfTwo, ini_Sheet⟩
theorem cV_ShakeHands_289 : CV "ShakeHands" 289 y_Sheet_cellAt := ⟨tb_4 140 (by decide +kernel) rfl, im_Sheet_cellAt, se_Sheet_cellAt, ini_Sheet⟩
theorem cV_ShakeHands_295 : CV "ShakeHands" 295 y_ShakeHands_knownToAll := ⟨tb_4 152 (by decide +kernel) rfl, im_ShakeHands_knownToAll, se_ShakeHands_knownToAll, ini_ShakeHands⟩
theorem cV_Circle_56 : CV "ShakeHands$Circle" 56 y_Row_take := ⟨tb_3 97 (by decide +kernel) rfl, im_Row_take, se_Row_take, ini_Row⟩
theorem cV_Circle_60 : CV "ShakeHands$Circle" 60 y_Row_addAll := ⟨tb_3 146 (by decide +kernel) rfl, im_Row_addAll, se_Row_addAll, ini_Row⟩
theorem cV_Circle_63 : CV "ShakeHands$Circle" 63 y_Circle_settle := ⟨tb_3 99 (by decide +kernel) rfl, im_Circle_settle, se_Circle_settle, ini_Circle⟩
theorem cV_Circle_66 : CV "ShakeHands$Circle" 66 y_Row_atRest := ⟨tb_3 116 (by decide +kernel) rfl, im_Row_atRest, se_Row_atRest, ini_Row⟩
theorem cV_Circle_70 : CV "ShakeHands$Circle" 70 y_Row_add := ⟨tb_3 98 (by decide +kernel) rfl, im_Row_add, se_Row_add, ini_Row⟩
theorem cV_Circle_74 : CV "ShakeHands$Circle" 74 y_Row_drop := ⟨tb_3 107 (by decide +kernel) rfl, im_Row_drop, se_Row_drop, ini_Row⟩
theorem cV_Circle_77 : CV "ShakeHands$Circle" 77 y_Circle_meet := ⟨tb_3 166 (by decide +kernel) rfl, im_Circle_meet, se_Circle_meet, ini_Circle⟩
theorem cV_Circle_81 : CV "ShakeHands$Circle" 81 y_Circle_firstJoin := ⟨tb_3 103 (by decide +kernel) rfl, im_Circle_firstJoin, se_Circle_firstJoin, ini_Circle⟩
theorem cV_Circle_85 : CV "ShakeHands$Circle" 85 y_Row_shorten := ⟨tb_3 112 (by decide +kernel) rfl, im_Row_shorten, se_Row_shorten, ini_Row⟩
theorem cV_Habit_43 : CV "ShakeHands$Habit" 43 y_Circle_liveDay := ⟨tb_4 19 (by decide +kernel) rfl, im_Circle_liveDay, se_Circle_liveDay, ini_Circle⟩
theorem cV_Habit_49 : CV "ShakeHands$Habit" 49 y_Habit_sameDay := ⟨tb_4 31 (by decide +kernel) rfl, im_Habit_sameDay, se_Habit_sameDay, ini_Habit⟩
theorem cV_Row_25 : CV "ShakeHands$Row" 25 y_Row_add := ⟨tb_3 150 (by decide +kernel) rfl, im_Row_add, se_Row_add, ini_Row⟩
theorem cV_Search_64 : CV "ShakeHands$Search" 64 y_Search_isBarred := ⟨tb_3 208 (by decide +kernel) rfl, im_Search_isBarred, se_Search_isBarred, ini_Search⟩
theorem cV_Search_72 : CV "ShakeHands$Search" 72 y_Search_amiss := ⟨tb_3 216 (by decide +kernel) rfl, im_Search_amiss, se_Search_amiss, ini_Search⟩
theorem cV_Search_128 : CV "ShakeHands$Search" 128 y_Circle_meet := ⟨tb_3 233 (by decide +kernel) rfl, im_Circle_meet, se_Circle_meet, ini_Circle⟩
theorem cV_Search_139 : CV "ShakeHands$Search" 139 y_Search_step := ⟨tb_3 229 (by decide +kernel) rfl, im_Search_step, se_Search_step, ini_Search⟩
theorem cV_Search_143 : CV "ShakeHands$Search" 143 y_Search_unlikeSeen := ⟨tb_4 60 (by decide +kernel) rfl, im_Search_unlikeSeen, se_Search_unlikeSeen, ini_Search⟩
theorem cV_Sheet_24 : CV "ShakeHands$Sheet" 24 y_Sheet_faultAt := ⟨tb_4 131 (by decide +kernel) rfl, im_Sheet_faultAt, se_Sheet_faultAt, ini_Sheet⟩
theorem cV_Teller_33 : CV "ShakeHands$Teller" 33 y_Teller_begin := ⟨tb_2 109 (by decide +kernel) rfl, im_Teller_begin, se_Teller_begin, ini_Teller⟩
theorem cV_Teller_42 : CV "ShakeHands$Teller" 42 y_Teller_readToken := ⟨tb_2 117 (by decide +kernel) rfl, im_Teller_readToken, se_Teller_readToken, ini_Teller⟩
theorem cV_Teller_51 : CV "ShakeHands$Teller" 51 y_Teller_tellLine := ⟨tb_2 129 (by decide +kernel) rfl, im_Teller_tellLine, se_Teller_tellLine, ini_Teller⟩
theorem cV_Teller_54 : CV "ShakeHands$Teller" 54 y_Teller_lookBack := ⟨tb_3 22 (by decide +kernel) rfl, im_Teller_lookBack, se_Teller_lookBack, ini_Teller⟩
theorem cV_Teller_60 : CV "ShakeHands$Teller" 60 y_Circle_beAsAtFirst := ⟨tb_2 113 (by decide +kernel) rfl, im_Circle_beAsAtFirst, se_Circle_beAsAtFirst, ini_Circle⟩
theorem cV_Teller_88 : CV "ShakeHands$Teller" 88 y_Teller_refuse := ⟨tb_2 125 (by decide +kernel) rfl, im_Teller_refuse, se_Teller_refuse, ini_Teller⟩
theorem cV_Teller_99 : CV "ShakeHands$Teller" 99 y_Teller_isWithin := ⟨tb_2 121 (by decide +kernel) rfl, im_Teller_isWithin, se_Teller_isWithin, ini_Teller⟩
theorem cV_Teller_106 : CV "ShakeHands$Teller" 106 y_String_length := ⟨tb_2 138 (by decide +kernel) rfl, im_String_length, se_String_length, ini_String⟩
theorem cV_Teller_111 : CV "ShakeHands$Teller" 111 y_String_charAt := ⟨tb_2 148 (by decide +kernel) rfl, im_String_charAt, se_String_charAt, ini_String⟩
theorem cV_Teller_116 : CV "ShakeHands$Teller" 116 y_Teller_isCalled := ⟨tb_2 134 (by decide +kernel) rfl, im_Teller_isCalled, se_Teller_isCalled, ini_Teller⟩
theorem cV_Teller_120 : CV "ShakeHands$Teller" 120 y_Teller_tellPeople := ⟨tb_2 186 (by decide +kernel) rfl, im_Teller_tellPeople, se_Teller_tellPeople, ini_Teller⟩
theorem cV_Teller_124 : CV "ShakeHands$Teller" 124 y_Teller_tellHold := ⟨tb_2 203 (by decide +kernel) rfl, im_Teller_tellHold, se_Teller_tellHold, ini_Teller⟩
theorem cV_Teller_129 : CV "ShakeHands$Teller" 129 y_Teller_tellRow := ⟨tb_2 208 (by decide +kernel) rfl, im_Teller_tellRow, se_Teller_tellRow, ini_Teller⟩
theorem cV_Teller_134 : CV "ShakeHands$Teller" 134 y_Teller_tellJoin := ⟨tb_3 0 (by decide +kernel) rfl, im_Teller_tellJoin, se_Teller_tellJoin, ini_Teller⟩
theorem cV_Teller_146 : CV "ShakeHands$Teller" 146 y_Teller_tellPair := ⟨tb_3 5 (by decide +kernel) rfl, im_Teller_tellPair, se_Teller_tellPair, ini_Teller⟩
theorem cV_Teller_159 : CV "ShakeHands$Teller" 159 y_Teller_tellGlove := ⟨tb_3 18 (by decide +kernel) rfl, im_Teller_tellGlove, se_Teller_tellGlove, ini_Teller⟩
theorem cV_Teller_162 : CV "ShakeHands$Teller" 162 y_Teller_takeNumber := ⟨tb_2 190 (by decide +kernel) rfl, im_Teller_takeNumber, se_Teller_takeNumber, ini_Teller⟩
theorem cV_Teller_166 : CV "ShakeHands$Teller" 166 y_Teller_takeSign := ⟨tb_2 198 (by decide +kernel) rfl, im_Teller_takeSign, se_Teller_takeSign, ini_Teller⟩
theorem cV_Teller_174 : CV "ShakeHands$Teller" 174 y_Row_take := ⟨tb_2 215 (by decide +kernel) rfl, im_Row_take, se_Row_take, ini_Row⟩
theorem cV_Teller_178 : CV "ShakeHands$Teller" 178 y_Teller_tellThing := ⟨tb_2 220 (by decide +kernel) rfl, im_Teller_tellThing, se_Teller_tellThing, ini_Teller⟩
theorem cV_Teller_181 : CV "ShakeHands$Teller" 181 y_Teller_boundedValue := ⟨tb_2 194 (by decide +kernel) rfl, im_Teller_boundedValue, se_Teller_boundedValue, ini_Teller⟩
theorem cV_Teller_193 : CV "ShakeHands$Teller" 193 y_Row_atRest := ⟨tb_2 235 (by decide +kernel) rfl, im_Row_atRest, se_Row_atRest, ini_Row⟩
theorem cV_Teller_197 : CV "ShakeHands$Teller" 197 y_Row_add := ⟨tb_2 230 (by decide +kernel) rfl, im_Row_add, se_Row_add, ini_Row⟩
theorem cV_Model_91 : CV "ShakeHandsModel" 91 y_Model_firstDraft := ⟨tb_4 166 (by decide +kernel) rfl, im_Model_firstDraft, se_Model_firstDraft, ini_Model⟩
theorem cV_Model_94 : CV "ShakeHandsModel" 94 y_Model_keepDraft := ⟨tb_4 170 (by decide +kernel) rfl, im_Model_keepDraft, se_Model_keepDraft, ini_Model⟩
theorem cV_Model_159 : CV "ShakeHandsModel" 159 y_Model_look := ⟨tb_5 124 (by decide +kernel) rfl, im_Model_look, se_Model_look, ini_Model⟩
theorem cV_Model_163 : CV "ShakeHandsModel" 163 y_Model_is := ⟨tb_5 144 (by decide +kernel) rfl, im_Model_is, se_Model_is, ini_Model⟩
theorem cV_Model_181 : CV "ShakeHandsModel" 181 y_Model_needs := ⟨tb_5 132 (by decide +kernel) rfl, im_Model_needs, se_Model_needs, ini_Model⟩
theorem cV_Model_185 : CV "ShakeHandsModel" 185 y_Model_looked := ⟨tb_5 152 (by decide +kernel) rfl, im_Model_looked, se_Model_looked, ini_Model⟩
theorem cV_Model_188 : CV "ShakeHandsModel" 188 y_Model_next := ⟨tb_5 120 (by decide +kernel) rfl, im_Model_next, se_Model_next, ini_Model⟩
theorem cV_Model_191 : CV "ShakeHandsModel" 191 y_Model_tells := ⟨tb_5 160 (by decide +kernel) rfl, im_Model_tells, se_Model_tells, ini_Model⟩
theorem cV_Model_195 : CV "ShakeHandsModel" 195 y_Model_readNumber := ⟨tb_5 148 (by decide +kernel) rfl, im_Model_readNumber, se_Model_readNumber, ini_Model⟩
theorem cV_Model_198 : CV "ShakeHandsModel" 198 y_Model_nameNow := ⟨tb_5 140 (by decide +kernel) rfl, im_Model_nameNow, se_Model_nameNow, ini_Model⟩
theorem cV_Model_202 : CV "ShakeHandsModel" 202 y_Model_readKnows := ⟨tb_5 156 (by decide +kernel) rfl, im_Model_readKnows, se_Model_readKnows, ini_Model⟩
theorem cV_Model_205 : CV "ShakeHandsModel" 205 y_Model_readJoin := ⟨tb_5 164 (by decide +kernel) rfl, im_Model_readJoin, se_Model_readJoin, ini_Model⟩
theorem cV_Model_208 : CV "ShakeHandsModel" 208 y_Model_readHand := ⟨tb_5 168 (by decide +kernel) rfl, im_Model_readHand, se_Model_readHand, ini_Model⟩
theorem cV_Model_211 : CV "ShakeHandsModel" 211 y_Model_readGlove := ⟨tb_5 172 (by decide +kernel) rfl, im_Model_readGlove, se_Model_readGlove, ini_Model⟩
theorem cV_Model_214 : CV "ShakeHandsModel" 214 y_Model_readLine := ⟨tb_5 136 (by decide +kernel) rfl, im_Model_readLine, se_Model_readLine, ini_Model⟩
theorem cV_Model_217 : CV "ShakeHandsModel" 217 y_Model_isHeld := ⟨tb_5 176 (by decide +kernel) rfl, im_Model_isHeld, se_Model_isHeld, ini_Model⟩
theorem cV_Model_221 : CV "ShakeHandsModel" 221 y_Model_worn := ⟨tb_5 188 (by decide +kernel) rfl, im_Model_worn, se_Model_worn, ini_Model⟩
theorem cV_Model_232 : CV "ShakeHandsModel" 232 y_Model_place := ⟨tb_6 20 (by decide +kernel) rfl, im_Model_place, se_Model_place, ini_Model⟩
theorem cV_Model_235 : CV "ShakeHandsModel" 235 y_Model_drops := ⟨tb_6 28 (by decide +kernel) rfl, im_Model_drops, se_Model_drops, ini_Model⟩
theorem cV_Model_238 : CV "ShakeHandsModel" 238 y_Model_adds := ⟨tb_6 16 (by decide +kernel) rfl, im_Model_adds, se_Model_adds, ini_Model⟩
theorem cV_Model_241 : CV "ShakeHandsModel" 241 y_Model_takes := ⟨tb_6 12 (by decide +kernel) rfl, im_Model_takes, se_Model_takes, ini_Model⟩
theorem cV_Model_245 : CV "ShakeHandsModel" 245 y_Model_settles := ⟨tb_6 24 (by decide +kernel) rfl, im_Model_settles, se_Model_settles, ini_Model⟩
theorem cV_Model_248 : CV "ShakeHandsModel" 248 y_Model_puts := ⟨tb_6 32 (by decide +kernel) rfl, im_Model_puts, se_Model_puts, ini_Model⟩
theorem cV_Model_251 : CV "ShakeHandsModel" 251 y_Model_knowsIn := ⟨tb_5 220 (by decide +kernel) rfl, im_Model_knowsIn, se_Model_knowsIn, ini_Model⟩
theorem cV_Model_256 : CV "ShakeHandsModel" 256 y_Model_begins := ⟨tb_5 216 (by decide +kernel) rfl, im_Model_begins, se_Model_begins, ini_Model⟩
theorem cV_Model_259 : CV "ShakeHandsModel" 259 y_Model_anyIn := ⟨tb_6 72 (by decide +kernel) rfl, im_Model_anyIn, se_Model_anyIn, ini_Model⟩
theorem cV_Model_262 : CV "ShakeHandsModel" 262 y_Model_whoIn := ⟨tb_6 0 (by decide +kernel) rfl, im_Model_whoIn, se_Model_whoIn, ini_Model⟩
theorem cV_Model_265 : CV "ShakeHandsModel" 265 y_Model_knowsNow := ⟨tb_5 212 (by decide +kernel) rfl, im_Model_knowsNow, se_Model_knowsNow, ini_Model⟩
theorem cV_Model_268 : CV "ShakeHandsModel" 268 y_Model_isOne := ⟨tb_5 208 (by decide +kernel) rfl, im_Model_isOne, se_Model_isOne, ini_Model⟩
theorem cV_Model_275 : CV "ShakeHandsModel" 275 y_Model_whoNow := ⟨tb_5 236 (by decide +kernel) rfl, im_Model_whoNow, se_Model_whoNow, ini_Model⟩
theorem cV_Model_278 : CV "ShakeHandsModel" 278 y_Model_knowsIt := ⟨tb_6 8 (by decide +kernel) rfl, im_Model_knowsIt, se_Model_knowsIt, ini_Model⟩
theorem cV_Model_282 : CV "ShakeHandsModel" 282 y_Model_shakes := ⟨tb_6 56 (by decide +kernel) rfl, im_Model_shakes, se_Model_shakes, ini_Model⟩
theorem cV_Model_286 : CV "ShakeHandsModel" 286 y_Model_becomes := ⟨tb_6 60 (by decide +kernel) rfl, im_Model_becomes, se_Model_becomes, ini_Model⟩
theorem cV_Model_289 : CV "ShakeHandsModel" 289 y_Model_areTwo := ⟨tb_6 48 (by decide +kernel) rfl, im_Model_areTwo, se_Model_areTwo, ini_Model⟩
theorem cV_Model_292 : CV "ShakeHandsModel" 292 y_Model_shakesNow := ⟨tb_6 52 (by decide +kernel) rfl, im_Model_shakesNow, se_Model_shakesNow, ini_Model⟩
theorem cV_Model_295 : CV "ShakeHandsModel" 295 y_Model_anyNow := ⟨tb_6 68 (by decide +kernel) rfl, im_Model_anyNow, se_Model_anyNow, ini_Model⟩
theorem cV_Model_298 : CV "ShakeHandsModel" 298 y_Model_feasts := ⟨tb_6 76 (by decide +kernel) rfl, im_Model_feasts, se_Model_feasts, ini_Model⟩
theorem cV_Model_305 : CV "ShakeHandsModel" 305 y_Model_isFreePair := ⟨tb_6 134 (by decide +kernel) rfl, im_Model_isFreePair, se_Model_isFreePair, ini_Model⟩
theorem cV_Model_317 : CV "ShakeHandsModel" 317 y_Model_isSeen := ⟨tb_6 122 (by decide +kernel) rfl, im_Model_isSeen, se_Model_isSeen, ini_Model⟩
theorem cV_Model_332 : CV "ShakeHandsModel" 332 y_Model_isStill := ⟨tb_6 114 (by decide +kernel) rfl, im_Model_isStill, se_Model_isStill, ini_Model⟩
theorem cV_Model_335 : CV "ShakeHandsModel" 335 y_Model_isGood := ⟨tb_6 118 (by decide +kernel) rfl, im_Model_isGood, se_Model_isGood, ini_Model⟩
theorem cV_Model_338 : CV "ShakeHandsModel" 338 y_Model_aRow := ⟨tb_6 126 (by decide +kernel) rfl, im_Model_aRow, se_Model_aRow, ini_Model⟩
theorem cV_Model_341 : CV "ShakeHandsModel" 341 y_Model_freeFrom := ⟨tb_6 130 (by decide +kernel) rfl, im_Model_freeFrom, se_Model_freeFrom, ini_Model⟩
theorem cV_Model_344 : CV "ShakeHandsModel" 344 y_Model_copies := ⟨tb_6 138 (by decide +kernel) rfl, im_Model_copies, se_Model_copies, ini_Model⟩
theorem cV_Model_347 : CV "ShakeHandsModel" 347 y_Model_layRows := ⟨tb_6 110 (by decide +kernel) rfl, im_Model_layRows, se_Model_layRows, ini_Model⟩
theorem cV_Model_351 : CV "ShakeHandsModel" 351 y_Model_areOnes := ⟨tb_6 96 (by decide +kernel) rfl, im_Model_areOnes, se_Model_areOnes, ini_Model⟩
theorem cV_Model_358 : CV "ShakeHandsModel" 358 y_Model_asks := ⟨tb_6 102 (by decide +kernel) rfl, im_Model_asks, se_Model_asks, ini_Model⟩
theorem cV_Model_362 : CV "ShakeHandsModel" 362 y_Model_fewestHands := ⟨tb_6 106 (by decide +kernel) rfl, im_Model_fewestHands, se_Model_fewestHands, ini_Model⟩
theorem cV_Model_369 : CV "ShakeHandsModel" 369 y_Model_isRound := ⟨tb_6 151 (by decide +kernel) rfl, im_Model_isRound, se_Model_isRound, ini_Model⟩
theorem cV_Model_372 : CV "ShakeHandsModel" 372 y_Model_layRounds := ⟨tb_6 146 (by decide +kernel) rfl, im_Model_layRounds, se_Model_layRounds, ini_Model⟩
theorem cV_Model_375 : CV "ShakeHandsModel" 375 y_Model_goesRound := ⟨tb_6 155 (by decide +kernel) rfl, im_Model_goesRound, se_Model_goesRound, ini_Model⟩
theorem cV_Model_378 : CV "ShakeHandsModel" 378 y_Model_aDay := ⟨tb_6 167 (by decide +kernel) rfl, im_Model_aDay, se_Model_aDay, ini_Model⟩
theorem cV_Model_383 : CV "ShakeHandsModel" 383 y_Model_notes := ⟨tb_6 175 (by decide +kernel) rfl, im_Model_notes, se_Model_notes, ini_Model⟩
theorem cV_Model_386 : CV "ShakeHandsModel" 386 y_Model_isAs := ⟨tb_6 180 (by decide +kernel) rfl, im_Model_isAs, se_Model_isAs, ini_Model⟩
theorem cV_Model_393 : CV "ShakeHandsModel" 393 y_Model_seen := ⟨tb_6 194 (by decide +kernel) rfl, im_Model_seen, se_Model_seen, ini_Model⟩
theorem cV_Model_398 : CV "ShakeHandsModel" 398 y_Model_sits := ⟨tb_6 215 (by decide +kernel) rfl, im_Model_sits, se_Model_sits, ini_Model⟩
theorem cS_ShakeHands_125 : CS "ShakeHands" 125 y_Integer_bitCount := ⟨tb_3 42 (by decide +kernel) rfl, st_Integer_bitCount, ini_Integer⟩
theorem cS_ShakeHands_145 : CS "ShakeHands" 145 y_Row_knownOf := ⟨tb_3 59 (by decide +kernel) rfl, st_Row_knownOf, ini_Row⟩
theorem cS_ShakeHands_151 : CS "ShakeHands" 151 y_Row_sizeOf := ⟨tb_3 66 (by decide +kernel) rfl, st_Row_sizeOf, ini_Row⟩
theorem cS_ShakeHands_154 : CS "ShakeHands" 154 y_Row_thingOf := ⟨tb_3 69 (by decide +kernel) rfl, st_Row_thingOf, ini_Row⟩
theorem cS_ShakeHands_158 : CS "ShakeHands" 158 y_ShakeHands_isThing := ⟨tb_3 76 (by decide +kernel) rfl, st_ShakeHands_isThing, ini_ShakeHands⟩
theorem cS_ShakeHands_161 : CS "ShakeHands" 161 y_Minds_knowers := ⟨tb_3 79 (by decide +kernel) rfl, st_Minds_knowers, ini_Minds⟩
theorem cS_ShakeHands_179 : CS "ShakeHands" 179 y_ShakeHands_pairOf := ⟨tb_3 137 (by decide +kernel) rfl, st_ShakeHands_pairOf, ini_ShakeHands⟩
theorem cS_ShakeHands_190 : CS "ShakeHands" 190 y_Minds_known := ⟨tb_3 159 (by decide +kernel) rfl, st_Minds_known, ini_Minds⟩
theorem cS_ShakeHands_201 : CS "ShakeHands" 201 y_Row_knowsIt := ⟨tb_3 90 (by decide +kernel) rfl, st_Row_knowsIt, ini_Row⟩
theorem cS_ShakeHands_264 : CS "ShakeHands" 264 y_ShakeHands_isImage := ⟨tb_4 93 (by decide +kernel) rfl, st_ShakeHands_isImage, ini_ShakeHands⟩
theorem cS_ShakeHands_270 : CS "ShakeHands" 270 y_ShakeHands_isSheet := ⟨tb_4 109 (by decide +kernel) rfl, st_ShakeHands_isSheet, ini_ShakeHands⟩
theorem cS_ShakeHands_273 : CS "ShakeHands" 273 y_ShakeHands_isLane := ⟨tb_4 112 (by decide +kernel) rfl, st_ShakeHands_isLane, ini_ShakeHands⟩
theorem cS_Habit_35 : CS "ShakeHands$Habit" 35 y_Minds_knowers := ⟨tb_4 18 (by decide +kernel) rfl, st_Minds_knowers, ini_Minds⟩
theorem cS_Row_9 : CS "ShakeHands$Row" 9 y_Integer_bitCount := ⟨tb_2 234 (by decide +kernel) rfl, st_Integer_bitCount, ini_Integer⟩
theorem cS_Search_68 : CS "ShakeHands$Search" 68 y_Search_reaches := ⟨tb_3 213 (by decide +kernel) rfl, st_Search_reaches, ini_Search⟩
theorem cS_Search_76 : CS "ShakeHands$Search" 76 y_Search_turns := ⟨tb_4 2 (by decide +kernel) rfl, st_Search_turns, ini_Search⟩
theorem cS_Search_89 : CS "ShakeHands$Search" 89 y_Search_fit := ⟨tb_4 57 (by decide +kernel) rfl, st_Search_fit, ini_Search⟩
theorem cS_Search_93 : CS "ShakeHands$Search" 93 y_Search_sit := ⟨tb_4 77 (by decide +kernel) rfl, st_Search_sit, ini_Search⟩
theorem cS_Search_97 : CS "ShakeHands$Search" 97 y_Minds_knowers := ⟨tb_3 212 (by decide +kernel) rfl, st_Minds_knowers, ini_Minds⟩
theorem cS_Search_104 : CS "ShakeHands$Search" 104 y_Row_knownOf := ⟨tb_4 64 (by decide +kernel) rfl, st_Row_knownOf, ini_Row⟩
theorem cS_Search_119 : CS "ShakeHands$Search" 119 y_Integer_bitCount := ⟨tb_3 228 (by decide +kernel) rfl, st_Integer_bitCount, ini_Integer⟩
theorem cS_Search_132 : CS "ShakeHands$Search" 132 y_Search_bitsOf := ⟨tb_3 220 (by decide +kernel) rfl, st_Search_bitsOf, ini_Search⟩
theorem cS_Search_135 : CS "ShakeHands$Search" 135 y_Search_canMend := ⟨tb_3 225 (by decide +kernel) rfl, st_Search_canMend, ini_Search⟩
theorem cS_Teller_187 : CS "ShakeHands$Teller" 187 y_Integer_bitCount := ⟨tb_2 224 (by decide +kernel) rfl, st_Integer_bitCount, ini_Integer⟩
theorem cS_Model_87 : CS "ShakeHandsModel" 87 y_Model_pairOf := ⟨tb_4 163 (by decide +kernel) rfl, st_Model_pairOf, ini_Model⟩
theorem cS_Model_134 : CS "ShakeHandsModel" 134 y_Model_flag := ⟨tb_4 174 (by decide +kernel) rfl, st_Model_flag, ini_Model⟩
theorem cS_Model_143 : CS "ShakeHandsModel" 143 y_Model_in := ⟨tb_5 113 (by decide +kernel) rfl, st_Model_in, ini_Model⟩
theorem cS_Model_224 : CS "ShakeHandsModel" 224 y_Model_bitsOf := ⟨tb_5 192 (by decide +kernel) rfl, st_Model_bitsOf, ini_Model⟩
theorem cS_Model_272 : CS "ShakeHandsModel" 272 y_Model_isThing := ⟨tb_5 232 (by decide +kernel) rfl, st_Model_isThing, ini_Model⟩
theorem cS_Model_403 : CS "ShakeHandsModel" 403 y_Model_isSheet := ⟨tb_6 235 (by decide +kernel) rfl, st_Model_isSheet, ini_Model⟩
theorem cSN_Search_146 : CSN "ShakeHands$Search" 146 y_ShakeHands_pairOf := ⟨by decide +kernel, st_ShakeHands_pairOf, ini_ShakeHands⟩
theorem cSN_Teller_206 : CSN "ShakeHands$Teller" 206 y_ShakeHands_pairOf := ⟨by decide +kernel, st_ShakeHands_pairOf, ini_ShakeHands⟩
theorem dn_Circle_beAsAtFirst : Dn y_Circle_beAsAtFirst 0 := ⟨by decide +kernel, by decide +kernel, by decide +kernel⟩
theorem dn_Circle_celebrate : Dn y_Circle_celebrate 3 := ⟨by decide +kernel, by decide +kernel, by decide +kernel⟩
theorem dn_Circle_copy : Dn y_Circle_copy 1 := ⟨by decide +kernel, by decide +kernel, by decide +kernel⟩
theorem dn_Circle_firstJoin : Dn y_Circle_firstJoin 0 := ⟨by decide +kernel, by decide +kernel, by decide +kernel⟩
theorem dn_Circle_liveDay : Dn y_Circle_liveDay 2 := ⟨by decide +kernel, by decide +kernel, by decide +kernel⟩
theorem dn_Circle_meet : Dn y_Circle_meet 3 := ⟨by decide +kernel, by decide +kernel, by decide +kernel⟩
theorem dn_Circle_settle : Dn y_Circle_settle 0 := ⟨by decide +kernel, by decide +kernel, by decide +kernel⟩
theorem dn_Circle_taught : Dn y_Circle_taught 2 := ⟨by decide +kernel, by decide +kernel, by decide +kernel⟩
theorem dn_Circle_without : Dn y_Circle_without 2 := ⟨by decide +kernel, by decide +kernel, by decide +kernel⟩
theorem dn_Habit_comesBack : Dn y_Habit_comesBack 1 := ⟨by decide +kernel, by decide +kernel, by decide +kernel⟩
theorem dn_Habit_lastDay : Dn y_Habit_lastDay 1 := ⟨by decide +kernel, by decide +kernel, by decide +kernel⟩
theorem dn_Habit_sameDay : Dn y_Habit_sameDay 1 := ⟨by decide +kernel, by decide +kernel, by decide +kernel⟩
theorem dn_Integer_bitCount : Dn y_Integer_bitCount 1 := ⟨by decide +kernel, by decide +kernel, by decide +kernel⟩
theorem dn_Minds_copy : Dn y_Minds_copy 1 := ⟨by decide +kernel, by decide +kernel, by decide +kernel⟩
theorem dn_Minds_knowers : Dn y_Minds_knowers 2 := ⟨by decide +kernel, by decide +kernel, by decide +kernel⟩
theorem dn_Minds_known : Dn y_Minds_known 1 := ⟨by decide +kernel, by decide +kernel, by decide +kernel⟩
theorem dn_Model_aDay : Dn y_Model_aDay 1 := ⟨by decide +kernel, by decide +kernel, by decide +kernel⟩
theorem dn_Model_aRow : Dn y_Model_aRow 1 := ⟨by decide +kernel, by decide +kernel, by decide +kernel⟩
theorem dn_Model_adds : Dn y_Model_adds 1 := ⟨by decide +kernel, by decide +kernel, by decide +kernel⟩
theorem dn_Model_anyIn : Dn y_Model_anyIn 1 := ⟨by decide +kernel, by decide +kernel, by decide +kernel⟩
theorem dn_Model_anyNow : Dn y_Model_anyNow 0 := ⟨by decide +kernel, by decide +kernel, by decide +kernel⟩
theorem dn_Model_areOnes : Dn y_Model_areOnes 1 := ⟨by decide +kernel, by decide +kernel, by decide +kernel⟩
theorem dn_Model_areTwo : Dn y_Model_areTwo 2 := ⟨by decide +kernel, by decide +kernel, by decide +kernel⟩
theorem dn_Model_asks : Dn y_Model_asks 4 := ⟨by decide +kernel, by decide +kernel, by decide +kernel⟩
theorem dn_Model_becomes : Dn y_Model_becomes 1 := ⟨by decide +kernel, by decide +kernel, by decide +kernel⟩
theorem dn_Model_begins : Dn y_Model_begins 1 := ⟨by decide +kernel, by decide +kernel, by decide +kernel⟩
theorem dn_Model_bitsOf : Dn y_Model_bitsOf 1 := ⟨by decide +kernel, by decide +kernel, by decide +kernel⟩
theorem dn_Model_copies : Dn y_Model_copies 2 := ⟨by decide +kernel, by decide +kernel, by decide +kernel⟩
theorem dn_Model_drops : Dn y_Model_drops 1 := ⟨by decide +kernel, by decide +kernel, by decide +kernel⟩
theorem dn_Model_feasts : Dn y_Model_feasts 2 := ⟨by decide +kernel, by decide +kernel, by decide +kernel⟩
theorem dn_Model_fewestHands : Dn y_Model_fewestHands 0 := ⟨by decide +kernel, by decide +kernel, by decide +kernel⟩
theorem dn_Model_firstDraft : Dn y_Model_firstDraft 0 := ⟨by decide +kernel, by decide +kernel, by decide +kernel⟩
theorem dn_Model_flag : Dn y_Model_flag 1 := ⟨by decide +kernel, by decide +kernel, by decide +kernel⟩
theorem dn_Model_freeFrom : Dn y_Model_freeFrom 1 := ⟨by decide +kernel, by decide +kernel, by decide +kernel⟩
theorem dn_Model_goesRound : Dn y_Model_goesRound 2 := ⟨by decide +kernel, by decide +kernel, by decide +kernel⟩
theorem dn_Model_in : Dn y_Model_in 3 := ⟨by decide +kernel, by decide +kernel, by decide +kernel⟩
theorem dn_Model_is : Dn y_Model_is 5 := ⟨by decide +kernel, by decide +kernel, by decide +kernel⟩
theorem dn_Model_isAs : Dn y_Model_isAs 2 := ⟨by decide +kernel, by decide +kernel, by decide +kernel⟩
theorem dn_Model_isFreePair : Dn y_Model_isFreePair 1 := ⟨by decide +kernel, by decide +kernel, by decide +kernel⟩
theorem dn_Model_isGood : Dn y_Model_isGood 1 := ⟨by decide +kernel, by decide +kernel, by decide +kernel⟩
theorem dn_Model_isHeld : Dn y_Model_isHeld 0 := ⟨by decide +kernel, by decide +kernel, by decide +kernel⟩
theorem dn_Model_isOne : Dn y_Model_isOne 1 := ⟨by decide +kernel, by decide +kernel, by decide +kernel⟩
theorem dn_Model_isRound : Dn y_Model_isRound 1 := ⟨by decide +kernel, by decide +kernel, by decide +kernel⟩
theorem dn_Model_isSeen : Dn y_Model_isSeen 1 := ⟨by decide +kernel, by decide +kernel, by decide +kernel⟩
theorem dn_Model_isSheet : Dn y_Model_isSheet 2 := ⟨by decide +kernel, by decide +kernel, by decide +kernel⟩
theorem dn_Model_isStill : Dn y_Model_isStill 1 := ⟨by decide +kernel, by decide +kernel, by decide +kernel⟩
theorem dn_Model_isThing : Dn y_Model_isThing 1 := ⟨by decide +kernel, by decide +kernel, by decide +kernel⟩
theorem dn_Model_keepDraft : Dn y_Model_keepDraft 0 := ⟨by decide +kernel, by decide +kernel, by decide +kernel⟩
theorem dn_Model_knowsIn : Dn y_Model_knowsIn 2 := ⟨by decide +kernel, by decide +kernel, by decide +kernel⟩
theorem dn_Model_knowsIt : Dn y_Model_knowsIt 2 := ⟨by decide +kernel, by decide +kernel, by decide +kernel⟩
theorem dn_Model_knowsNow : Dn y_Model_knowsNow 1 := ⟨by decide +kernel, by decide +kernel, by decide +kernel⟩
theorem dn_Model_layRounds : Dn y_Model_layRounds 0 := ⟨by decide +kernel, by decide +kernel, by decide +kernel⟩
theorem dn_Model_layRows : Dn y_Model_layRows 2 := ⟨by decide +kernel, by decide +kernel, by decide +kernel⟩
theorem dn_Model_look : Dn y_Model_look 1 := ⟨by decide +kernel, by decide +kernel, by decide +kernel⟩
theorem dn_Model_looked : Dn y_Model_looked 2 := ⟨by decide +kernel, by decide +kernel, by decide +kernel⟩
theorem dn_Model_nameNow : Dn y_Model_nameNow 0 := ⟨by decide +kernel, by decide +kernel, by decide +kernel⟩
theorem dn_Model_needs : Dn y_Model_needs 2 := ⟨by decide +kernel, by decide +kernel, by decide +kernel⟩
theorem dn_Model_next : Dn y_Model_next 0 := ⟨by decide +kernel, by decide +kernel, by decide +kernel⟩
theorem dn_Model_notes : Dn y_Model_notes 1 := ⟨by decide +kernel, by decide +kernel, by decide +kernel⟩
theorem dn_Model_pairOf : Dn y_Model_pairOf 2 := ⟨by decide +kernel, by decide +kernel, by decide +kernel⟩
theorem dn_Model_place : Dn y_Model_place 1 := ⟨by decide +kernel, by decide +kernel, by decide +kernel⟩
theorem dn_Model_puts : Dn y_Model_puts 2 := ⟨by decide +kernel, by decide +kernel, by decide +kernel⟩
theorem dn_Model_readGlove : Dn y_Model_readGlove 0 := ⟨by decide +kernel, by decide +kernel, by decide +kernel⟩
theorem dn_Model_readHand : Dn y_Model_readHand 0 := ⟨by decide +kernel, by decide +kernel, by decide +kernel⟩
theorem dn_Model_readJoin : Dn y_Model_readJoin 0 := ⟨by decide +kernel, by decide +kernel, by decide +kernel⟩
theorem dn_Model_readKnows : Dn y_Model_readKnows 0 := ⟨by decide +kernel, by decide +kernel, by decide +kernel⟩
theorem dn_Model_readLine : Dn y_Model_readLine 0 := ⟨by decide +kernel, by decide +kernel, by decide +kernel⟩
theorem dn_Model_readNumber : Dn y_Model_readNumber 2 := ⟨by decide +kernel, by decide +kernel, by decide +kernel⟩
theorem dn_Model_seen : Dn y_Model_seen 0 := ⟨by decide +kernel, by decide +kernel, by decide +kernel⟩
theorem dn_Model_settles : Dn y_Model_settles 0 := ⟨by decide +kernel, by decide +kernel, by decide +kernel⟩
theorem dn_Model_shakes : Dn y_Model_shakes 3 := ⟨by decide +kernel, by decide +kernel, by decide +kernel⟩
theorem dn_Model_shakesNow : Dn y_Model_shakesNow 1 := ⟨by decide +kernel, by decide +kernel, by decide +kernel⟩
theorem dn_Model_sits : Dn y_Model_sits 1 := ⟨by decide +kernel, by decide +kernel, by decide +kernel⟩
theorem dn_Model_takes : Dn y_Model_takes 2 := ⟨by decide +kernel, by decide +kernel, by decide +kernel⟩
theorem dn_Model_tells : Dn y_Model_tells 1 := ⟨by decide +kernel, by decide +kernel, by decide +kernel⟩
theorem dn_Model_whoIn : Dn y_Model_whoIn 2 := ⟨by decide +kernel, by decide +kernel, by decide +kernel⟩
theorem dn_Model_whoNow : Dn y_Model_whoNow 1 := ⟨by decide +kernel, by decide +kernel, by decide +kernel⟩
theorem dn_Model_worn : Dn y_Model_worn 0 := ⟨by decide +kernel, by decide +kernel, by decide +kernel⟩
theorem dn_Row_add : Dn y_Row_add 1 := ⟨by decide +kernel, by decide +kernel, by decide +kernel⟩
theorem dn_Row_addAll : Dn y_Row_addAll 1 := ⟨by decide +kernel, by decide +kernel, by decide +kernel⟩
theorem dn_Row_atRest : Dn y_Row_atRest 0 := ⟨by decide +kernel, by decide +kernel, by decide +kernel⟩
theorem dn_Row_drop : Dn y_Row_drop 1 := ⟨by decide +kernel, by decide +kernel, by decide +kernel⟩
theorem dn_Row_knownOf : Dn y_Row_knownOf 1 := ⟨by decide +kernel, by decide +kernel, by decide +kernel⟩
theorem dn_Row_knowsIt : Dn y_Row_knowsIt 2 := ⟨by decide +kernel, by decide +kernel, by decide +kernel⟩
theorem dn_Row_shorten : Dn y_Row_shorten 1 := ⟨by decide +kernel, by decide +kernel, by decide +kernel⟩
theorem dn_Row_sizeOf : Dn y_Row_sizeOf 1 := ⟨by decide +kernel, by decide +kernel, by decide +kernel⟩
theorem dn_Row_take : Dn y_Row_take 1 := ⟨by decide +kernel, by decide +kernel, by decide +kernel⟩
theorem dn_Row_thingOf : Dn y_Row_thingOf 2 := ⟨by decide +kernel, by decide +kernel, by decide +kernel⟩
theorem dn_Search_aim : Dn y_Search_aim 4 := ⟨by decide +kernel, by decide +kernel, by decide +kernel⟩
theorem dn_Search_amiss : Dn y_Search_amiss 1 := ⟨by decide +kernel, by decide +kernel, by decide +kernel⟩
theorem dn_Search_begin : Dn y_Search_begin 0 := ⟨by decide +kernel, by decide +kernel, by decide +kernel⟩
theorem dn_Search_bitsOf : Dn y_Search_bitsOf 1 := ⟨by decide +kernel, by decide +kernel, by decide +kernel⟩
theorem dn_Search_canMend : Dn y_Search_canMend 3 := ⟨by decide +kernel, by decide +kernel, by decide +kernel⟩
theorem dn_Search_countFits : Dn y_Search_countFits 1 := ⟨by decide +kernel, by decide +kernel, by decide +kernel⟩
theorem dn_Search_countSeats : Dn y_Search_countSeats 0 := ⟨by decide +kernel, by decide +kernel, by decide +kernel⟩
theorem dn_Search_fewestHands : Dn y_Search_fewestHands 0 := ⟨by decide +kernel, by decide +kernel, by decide +kernel⟩
theorem dn_Search_fewestRounds : Dn y_Search_fewestRounds 0 := ⟨by decide +kernel, by decide +kernel, by decide +kernel⟩
theorem dn_Search_fit : Dn y_Search_fit 4 := ⟨by decide +kernel, by decide +kernel, by decide +kernel⟩
theorem dn_Search_isBarred : Dn y_Search_isBarred 1 := ⟨by decide +kernel, by decide +kernel, by decide +kernel⟩
theorem dn_Search_reaches : Dn y_Search_reaches 3 := ⟨by decide +kernel, by decide +kernel, by decide +kernel⟩
theorem dn_Search_sit : Dn y_Search_sit 3 := ⟨by decide +kernel, by decide +kernel, by decide +kernel⟩
theorem dn_Search_step : Dn y_Search_step 2 := ⟨by decide +kernel, by decide +kernel, by decide +kernel⟩
theorem dn_Search_turns : Dn y_Search_turns 5 := ⟨by decide +kernel, by decide +kernel, by decide +kernel⟩
theorem dn_Search_unlikeSeen : Dn y_Search_unlikeSeen 1 := ⟨by decide +kernel, by decide +kernel, by decide +kernel⟩
theorem dn_ShakeHands_arePeople : Dn y_ShakeHands_arePeople 1 := ⟨by decide +kernel, by decide +kernel, by decide +kernel⟩
theorem dn_ShakeHands_areTwo : Dn y_ShakeHands_areTwo 2 := ⟨by decide +kernel, by decide +kernel, by decide +kernel⟩
theorem dn_ShakeHands_everybody : Dn y_ShakeHands_everybody 0 := ⟨by decide +kernel, by decide +kernel, by decide +kernel⟩
theorem dn_ShakeHands_fewestGloves : Dn y_ShakeHands_fewestGloves 2 := ⟨by decide +kernel, by decide +kernel, by decide +kernel⟩
theorem dn_ShakeHands_isFeastPart : Dn y_ShakeHands_isFeastPart 1 := ⟨by decide +kernel, by decide +kernel, by decide +kernel⟩
theorem dn_ShakeHands_isImage : Dn y_ShakeHands_isImage 1 := ⟨by decide +kernel, by decide +kernel, by decide +kernel⟩
theorem dn_ShakeHands_isLane : Dn y_ShakeHands_isLane 1 := ⟨by decide +kernel, by decide +kernel, by decide +kernel⟩
theorem dn_ShakeHands_isOne : Dn y_ShakeHands_isOne 1 := ⟨by decide +kernel, by decide +kernel, by decide +kernel⟩
theorem dn_ShakeHands_isSheet : Dn y_ShakeHands_isSheet 1 := ⟨by decide +kernel, by decide +kernel, by decide +kernel⟩
theorem dn_ShakeHands_isThing : Dn y_ShakeHands_isThing 1 := ⟨by decide +kernel, by decide +kernel, by decide +kernel⟩
theorem dn_ShakeHands_knownToAll : Dn y_ShakeHands_knownToAll 0 := ⟨by decide +kernel, by decide +kernel, by decide +kernel⟩
theorem dn_ShakeHands_knowsNow : Dn y_ShakeHands_knowsNow 2 := ⟨by decide +kernel, by decide +kernel, by decide +kernel⟩
theorem dn_ShakeHands_pairOf : Dn y_ShakeHands_pairOf 2 := ⟨by decide +kernel, by decide +kernel, by decide +kernel⟩
theorem dn_ShakeHands_takeTrial : Dn y_ShakeHands_takeTrial 0 := ⟨by decide +kernel, by decide +kernel, by decide +kernel⟩
theorem dn_Sheet_cellAt : Dn y_Sheet_cellAt 1 := ⟨by decide +kernel, by decide +kernel, by decide +kernel⟩
theorem dn_Sheet_faultAt : Dn y_Sheet_faultAt 1 := ⟨by decide +kernel, by decide +kernel, by decide +kernel⟩
theorem dn_Sheet_faultOfTwo : Dn y_Sheet_faultOfTwo 2 := ⟨by decide +kernel, by decide +kernel, by decide +kernel⟩
theorem dn_Sheet_put : Dn y_Sheet_put 2 := ⟨by decide +kernel, by decide +kernel, by decide +kernel⟩
theorem dn_Sheet_renew : Dn y_Sheet_renew 2 := ⟨by decide +kernel, by decide +kernel, by decide +kernel⟩
theorem dn_String_charAt : Dn y_String_charAt 1 := ⟨by decide +kernel, by decide +kernel, by decide +kernel⟩
theorem dn_String_length : Dn y_String_length 0 := ⟨by decide +kernel, by decide +kernel, by decide +kernel⟩
theorem dn_Tape_append : Dn y_Tape_append 1 := ⟨by decide +kernel, by decide +kernel, by decide +kernel⟩
theorem dn_Teller_begin : Dn y_Teller_begin 0 := ⟨by decide +kernel, by decide +kernel, by decide +kernel⟩
theorem dn_Teller_boundedValue : Dn y_Teller_boundedValue 2 := ⟨by decide +kernel, by decide +kernel, by decide +kernel⟩
theorem dn_Teller_isCalled : Dn y_Teller_isCalled 1 := ⟨by decide +kernel, by decide +kernel, by decide +kernel⟩
theorem dn_Teller_isWithin : Dn y_Teller_isWithin 2 := ⟨by decide +kernel, by decide +kernel, by decide +kernel⟩
theorem dn_Teller_lookBack : Dn y_Teller_lookBack 0 := ⟨by decide +kernel, by decide +kernel, by decide +kernel⟩
theorem dn_Teller_readToken : Dn y_Teller_readToken 0 := ⟨by decide +kernel, by decide +kernel, by decide +kernel⟩
theorem dn_Teller_refuse : Dn y_Teller_refuse 1 := ⟨by decide +kernel, by decide +kernel, by decide +kernel⟩
theorem dn_Teller_takeNumber : Dn y_Teller_takeNumber 2 := ⟨by decide +kernel, by decide +kernel, by decide +kernel⟩
theorem dn_Teller_takeSign : Dn y_Teller_takeSign 0 := ⟨by decide +kernel, by decide +kernel, by decide +kernel⟩
theorem dn_Teller_tell : Dn y_Teller_tell 0 := ⟨by decide +kernel, by decide +kernel, by decide +kernel⟩
theorem dn_Teller_tellGlove : Dn y_Teller_tellGlove 0 := ⟨by decide +kernel, by decide +kernel, by decide +kernel⟩
theorem dn_Teller_tellHold : Dn y_Teller_tellHold 0 := ⟨by decide +kernel, by decide +kernel, by decide +kernel⟩
theorem dn_Teller_tellJoin : Dn y_Teller_tellJoin 0 := ⟨by decide +kernel, by decide +kernel, by decide +kernel⟩
theorem dn_Teller_tellLine : Dn y_Teller_tellLine 0 := ⟨by decide +kernel, by decide +kernel, by decide +kernel⟩
theorem dn_Teller_tellPair : Dn y_Teller_tellPair 2 := ⟨by decide +kernel, by decide +kernel, by decide +kernel⟩
theorem dn_Teller_tellPeople : Dn y_Teller_tellPeople 0 := ⟨by decide +kernel, by decide +kernel, by decide +kernel⟩
theorem dn_Teller_tellRow : Dn y_Teller_tellRow 0 := ⟨by decide +kernel, by decide +kernel, by decide +kernel⟩
theorem dn_Teller_tellThing : Dn y_Teller_tellThing 1 := ⟨by decide +kernel, by decide +kernel, by decide +kernel⟩
theorem in_nat {i : Int32} {n : Nat} (h : vp_in i n) : i.toNatClampNeg < n := Nat.not_le.mp fun q => h (Or.inr q)
theorem sh_images {i : Int32} (h : vp_in i 2) : SHx[([20, 23] : List Nat).getD i.toNatClampNeg 0]? = some (2, [([20, 23] : List Nat).getD i.toNatClampNeg 0 + 1 + 2, 0, 0, ([20, 23] : List Nat).getD i.toNatClampNeg 0 + 2 + 2]) ∧ SHx[([20, 23] : List Nat).getD i.toNatClampNeg 0 + 1]? = some (103, [6]) ∧ SHx[([20, 23] : List Nat).getD i.toNatClampNeg 0 + 2]? = some (100, [6]) := by
  have h := in_nat h
  generalize i.toNatClampNeg = j at h ⊢
  match j, h with
  | 0, _ => exact ⟨rfl, rfl, rfl⟩
  | 1, _ => exact ⟨rfl, rfl, rfl⟩
theorem sh_sheets {i : Int32} (h : vp_in i 4) : SHx[([41, 43, 45, 47] : List Nat).getD i.toNatClampNeg 0]? = some (5, [0, 0, 0, ([41, 43, 45, 47] : List Nat).getD i.toNatClampNeg 0 + 1 + 2]) ∧ SHx[([41, 43, 45, 47] : List Nat).getD i.toNatClampNeg 0 + 1]? = some (100, [40]) := by
  have h := in_nat h
  generalize i.toNatClampNeg = j at h ⊢
  match j, h with
  | 0, _ => exact ⟨rfl, rfl⟩
  | 1, _ => exact ⟨rfl, rfl⟩
  | 2, _ => exact ⟨rfl, rfl⟩
  | 3, _ => exact ⟨rfl, rfl⟩
theorem sh_level {i : Int32} (h : vp_in i 7) : SHx[([30, 31, 32, 33, 34, 35, 36] : List Nat).getD i.toNatClampNeg 0]? = some (103, [6]) := by
  have h := in_nat h
  generalize i.toNatClampNeg = j at h ⊢
  match j, h with
  | 0, _ => exact rfl
  | 1, _ => exact rfl
  | 2, _ => exact rfl
  | 3, _ => exact rfl
  | 4, _ => exact rfl
  | 5, _ => exact rfl
  | 6, _ => exact rfl
theorem sw_ne {x v : Int32} (h : ¬ x = v) : ¬ x.toInt = v.toInt := fun e => h (Int32.toInt_inj.mp e)
theorem sw_out5 {x : Int32} (h0 : ¬ x = 0) (h1 : ¬ x = 1) (h2 : ¬ x = 2) (h3 : ¬ x = 3) (h4 : ¬ x = 4) (h5 : ¬ x = 5) : x.toInt < 0 ∨ 5 < x.toInt := by
  have e0 : ¬ x.toInt = 0 := sw_ne h0
  have e1 : ¬ x.toInt = 1 := sw_ne h1
  have e2 : ¬ x.toInt = 2 := sw_ne h2
  have e3 : ¬ x.toInt = 3 := sw_ne h3
  have e4 : ¬ x.toInt = 4 := sw_ne h4
  have e5 : ¬ x.toInt = 5 := sw_ne h5
  omega
theorem sw_out6 {x : Int32} (h0 : ¬ x = 0) (h1 : ¬ x = 1) (h2 : ¬ x = 2) (h3 : ¬ x = 3) (h4 : ¬ x = 4) (h5 : ¬ x = 5) (h6 : ¬ x = 6) : x.toInt < 0 ∨ 6 < x.toInt := by
  have e0 : ¬ x.toInt = 0 := sw_ne h0
  have e1 : ¬ x.toInt = 1 := sw_ne h1
  have e2 : ¬ x.toInt = 2 := sw_ne h2
  have e3 : ¬ x.toInt = 3 := sw_ne h3
  have e4 : ¬ x.toInt = 4 := sw_ne h4
  have e5 : ¬ x.toInt = 5 := sw_ne h5
  have e6 : ¬ x.toInt = 6 := sw_ne h6
  omega
def zr (x : Int32) (M : Mem) : Option (Int32 × Mem) := if x = 0 ∨ x = 1 then some (x, M) else none
theorem j_zr {mt : Mt} {pc : Nat} {lv : List (Nat × Value)} {M : Mem} {x : Int32} (hd : decode mt.2.1 pc = .ok (.ireturn, 1)) (hrt : mt.2.2.2.1 = some .boolean) : J mt wI pc lv [.int x] M (zr x M) := by
  unfold zr
  by_cases h : x = 0 ∨ x = 1
  · rw [if_pos h]
    refine j_zreturn hd hrt ?_
    rcases h with rfl | rfl <;> rfl
  · rw [if_neg h]; exact j_none
theorem j_split {R : Type} {mt : Mt} {wr : R → Option Value} {pc : Nat} {lv : List (Nat × Value)} {st : List Value} {M : Mem} {F G : Option (R × Mem)} {c : Prop} [Decidable c] (K : c → J mt wr pc lv st M F) (L : ¬ c → J mt wr pc lv st M G) : J mt wr pc lv st M (if c then F else G) := by
  by_cases h : c
  · rw [if_pos h]; exact K h
  · rw [if_neg h]; exact L h
theorem j_nmk {R σ : Type} {mt : Mt} {wr : R → Option Value} {pc : Nat} {lv : List (Nat × Value)} {st : List Value} {M : Mem} {e : σ} {f : σ → Option (R × Mem)} (P : σ → Prop) (he : P e) (K : ∀ k : σ, P k → J mt wr pc lv st M (f k)) : J mt wr pc lv st M (nm e f) := K e he

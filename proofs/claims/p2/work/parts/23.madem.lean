/-! THE REFERENCE IS MADE (written by wip/gen/ctorgen.py) -/
theorem k_b_18 : (Int8.ofInt 18).toInt32 = 18 := by decide
theorem k_b_80 : (Int8.ofInt 80).toInt32 = 80 := by decide
theorem k_s_160 : (Int16.ofInt 160).toInt32 = 160 := by decide
theorem k_s_234 : (Int16.ofInt 234).toInt32 = 234 := by decide
theorem k_s_600 : (Int16.ofInt 600).toInt32 = 600 := by decide
def mtC_Model : Mc := ("ShakeHandsModel", b_Model_init, 3, 60)
theorem d_Model_init_0 : decode b_Model_init 0 = .ok (.aload_n 0, 1) := by decide +kernel
theorem d_Model_init_1 : decode b_Model_init 1 = .ok (.invokespecial 1, 3) := by decide +kernel
theorem d_Model_init_4 : decode b_Model_init 4 = .ok (.aload_n 0, 1) := by decide +kernel
theorem d_Model_init_5 : decode b_Model_init 5 = .ok (.sipush 234, 3) := by decide +kernel
theorem d_Model_init_8 : decode b_Model_init 8 = .ok (.newarray .int, 2) := by decide +kernel
theorem d_Model_init_10 : decode b_Model_init 10 = .ok (.putfield 7, 3) := by decide +kernel
theorem d_Model_init_13 : decode b_Model_init 13 = .ok (.aload_n 0, 1) := by decide +kernel
theorem d_Model_init_14 : decode b_Model_init 14 = .ok (.iconst 2, 1) := by decide +kernel
theorem d_Model_init_15 : decode b_Model_init 15 = .ok (.newarray .boolean, 2) := by decide +kernel
theorem d_Model_init_17 : decode b_Model_init 17 = .ok (.putfield 13, 3) := by decide +kernel
theorem d_Model_init_20 : decode b_Model_init 20 = .ok (.aload_n 0, 1) := by decide +kernel
theorem d_Model_init_21 : decode b_Model_init 21 = .ok (.bipush 12, 2) := by decide +kernel
theorem d_Model_init_23 : decode b_Model_init 23 = .ok (.newarray .int, 2) := by decide +kernel
theorem d_Model_init_25 : decode b_Model_init 25 = .ok (.putfield 17, 3) := by decide +kernel
theorem d_Model_init_28 : decode b_Model_init 28 = .ok (.aload_n 0, 1) := by decide +kernel
theorem d_Model_init_29 : decode b_Model_init 29 = .ok (.bipush 16, 2) := by decide +kernel
theorem d_Model_init_31 : decode b_Model_init 31 = .ok (.newarray .int, 2) := by decide +kernel
theorem d_Model_init_33 : decode b_Model_init 33 = .ok (.putfield 20, 3) := by decide +kernel
theorem d_Model_init_36 : decode b_Model_init 36 = .ok (.aload_n 0, 1) := by decide +kernel
theorem d_Model_init_37 : decode b_Model_init 37 = .ok (.bipush 8, 2) := by decide +kernel
theorem d_Model_init_39 : decode b_Model_init 39 = .ok (.newarray .int, 2) := by decide +kernel
theorem d_Model_init_41 : decode b_Model_init 41 = .ok (.putfield 23, 3) := by decide +kernel
theorem d_Model_init_44 : decode b_Model_init 44 = .ok (.aload_n 0, 1) := by decide +kernel
theorem d_Model_init_45 : decode b_Model_init 45 = .ok (.bipush 15, 2) := by decide +kernel
theorem d_Model_init_47 : decode b_Model_init 47 = .ok (.newarray .int, 2) := by decide +kernel
theorem d_Model_init_49 : decode b_Model_init 49 = .ok (.putfield 26, 3) := by decide +kernel
theorem d_Model_init_52 : decode b_Model_init 52 = .ok (.aload_n 0, 1) := by decide +kernel
theorem d_Model_init_53 : decode b_Model_init 53 = .ok (.bipush 15, 2) := by decide +kernel
theorem d_Model_init_55 : decode b_Model_init 55 = .ok (.newarray .int, 2) := by decide +kernel
theorem d_Model_init_57 : decode b_Model_init 57 = .ok (.putfield 29, 3) := by decide +kernel
theorem d_Model_init_60 : decode b_Model_init 60 = .ok (.aload_n 0, 1) := by decide +kernel
theorem d_Model_init_61 : decode b_Model_init 61 = .ok (.bipush 12, 2) := by decide +kernel
theorem d_Model_init_63 : decode b_Model_init 63 = .ok (.newarray .int, 2) := by decide +kernel
theorem d_Model_init_65 : decode b_Model_init 65 = .ok (.putfield 32, 3) := by decide +kernel
theorem d_Model_init_68 : decode b_Model_init 68 = .ok (.aload_n 0, 1) := by decide +kernel
theorem d_Model_init_69 : decode b_Model_init 69 = .ok (.bipush 16, 2) := by decide +kernel
theorem d_Model_init_71 : decode b_Model_init 71 = .ok (.newarray .int, 2) := by decide +kernel
theorem d_Model_init_73 : decode b_Model_init 73 = .ok (.putfield 35, 3) := by decide +kernel
theorem d_Model_init_76 : decode b_Model_init 76 = .ok (.aload_n 0, 1) := by decide +kernel
theorem d_Model_init_77 : decode b_Model_init 77 = .ok (.bipush 8, 2) := by decide +kernel
theorem d_Model_init_79 : decode b_Model_init 79 = .ok (.newarray .int, 2) := by decide +kernel
theorem d_Model_init_81 : decode b_Model_init 81 = .ok (.putfield 38, 3) := by decide +kernel
theorem d_Model_init_84 : decode b_Model_init 84 = .ok (.aload_n 0, 1) := by decide +kernel
theorem d_Model_init_85 : decode b_Model_init 85 = .ok (.bipush 60, 2) := by decide +kernel
theorem d_Model_init_87 : decode b_Model_init 87 = .ok (.newarray .int, 2) := by decide +kernel
theorem d_Model_init_89 : decode b_Model_init 89 = .ok (.putfield 41, 3) := by decide +kernel
theorem d_Model_init_92 : decode b_Model_init 92 = .ok (.aload_n 0, 1) := by decide +kernel
theorem d_Model_init_93 : decode b_Model_init 93 = .ok (.bipush 6, 2) := by decide +kernel
theorem d_Model_init_95 : decode b_Model_init 95 = .ok (.newarray .boolean, 2) := by decide +kernel
theorem d_Model_init_97 : decode b_Model_init 97 = .ok (.putfield 44, 3) := by decide +kernel
theorem d_Model_init_100 : decode b_Model_init 100 = .ok (.aload_n 0, 1) := by decide +kernel
theorem d_Model_init_101 : decode b_Model_init 101 = .ok (.bipush 6, 2) := by decide +kernel
theorem d_Model_init_103 : decode b_Model_init 103 = .ok (.newarray .boolean, 2) := by decide +kernel
theorem d_Model_init_105 : decode b_Model_init 105 = .ok (.putfield 47, 3) := by decide +kernel
theorem d_Model_init_108 : decode b_Model_init 108 = .ok (.aload_n 0, 1) := by decide +kernel
theorem d_Model_init_109 : decode b_Model_init 109 = .ok (.sipush 320, 3) := by decide +kernel
theorem d_Model_init_112 : decode b_Model_init 112 = .ok (.newarray .int, 2) := by decide +kernel
theorem d_Model_init_114 : decode b_Model_init 114 = .ok (.putfield 50, 3) := by decide +kernel
theorem d_Model_init_117 : decode b_Model_init 117 = .ok (.aload_n 0, 1) := by decide +kernel
theorem d_Model_init_118 : decode b_Model_init 118 = .ok (.sipush 600, 3) := by decide +kernel
theorem d_Model_init_121 : decode b_Model_init 121 = .ok (.newarray .int, 2) := by decide +kernel
theorem d_Model_init_123 : decode b_Model_init 123 = .ok (.putfield 53, 3) := by decide +kernel
theorem d_Model_init_126 : decode b_Model_init 126 = .ok (.aload_n 0, 1) := by decide +kernel
theorem d_Model_init_127 : decode b_Model_init 127 = .ok (.bipush 18, 2) := by decide +kernel
theorem d_Model_init_129 : decode b_Model_init 129 = .ok (.newarray .int, 2) := by decide +kernel
theorem d_Model_init_131 : decode b_Model_init 131 = .ok (.putfield 56, 3) := by decide +kernel
theorem d_Model_init_134 : decode b_Model_init 134 = .ok (.aload_n 0, 1) := by decide +kernel
theorem d_Model_init_135 : decode b_Model_init 135 = .ok (.iconst 4, 1) := by decide +kernel
theorem d_Model_init_136 : decode b_Model_init 136 = .ok (.newarray .int, 2) := by decide +kernel
theorem d_Model_init_138 : decode b_Model_init 138 = .ok (.putfield 59, 3) := by decide +kernel
theorem d_Model_init_141 : decode b_Model_init 141 = .ok (.aload_n 0, 1) := by decide +kernel
theorem d_Model_init_142 : decode b_Model_init 142 = .ok (.iconst 4, 1) := by decide +kernel
theorem d_Model_init_143 : decode b_Model_init 143 = .ok (.newarray .int, 2) := by decide +kernel
theorem d_Model_init_145 : decode b_Model_init 145 = .ok (.putfield 62, 3) := by decide +kernel
theorem d_Model_init_148 : decode b_Model_init 148 = .ok (.aload_n 0, 1) := by decide +kernel
theorem d_Model_init_149 : decode b_Model_init 149 = .ok (.bipush 80, 2) := by decide +kernel
theorem d_Model_init_151 : decode b_Model_init 151 = .ok (.newarray .int, 2) := by decide +kernel
theorem d_Model_init_153 : decode b_Model_init 153 = .ok (.putfield 65, 3) := by decide +kernel
theorem d_Model_init_156 : decode b_Model_init 156 = .ok (.aload_n 0, 1) := by decide +kernel
theorem d_Model_init_157 : decode b_Model_init 157 = .ok (.sipush 1206, 3) := by decide +kernel
theorem d_Model_init_160 : decode b_Model_init 160 = .ok (.newarray .long, 2) := by decide +kernel
theorem d_Model_init_162 : decode b_Model_init 162 = .ok (.putfield 68, 3) := by decide +kernel
theorem d_Model_init_165 : decode b_Model_init 165 = .ok (.aload_n 0, 1) := by decide +kernel
theorem d_Model_init_166 : decode b_Model_init 166 = .ok (.bipush 6, 2) := by decide +kernel
theorem d_Model_init_168 : decode b_Model_init 168 = .ok (.newarray .int, 2) := by decide +kernel
theorem d_Model_init_170 : decode b_Model_init 170 = .ok (.putfield 72, 3) := by decide +kernel
theorem d_Model_init_173 : decode b_Model_init 173 = .ok (.aload_n 0, 1) := by decide +kernel
theorem d_Model_init_174 : decode b_Model_init 174 = .ok (.bipush 6, 2) := by decide +kernel
theorem d_Model_init_176 : decode b_Model_init 176 = .ok (.newarray .int, 2) := by decide +kernel
theorem d_Model_init_178 : decode b_Model_init 178 = .ok (.putfield 75, 3) := by decide +kernel
theorem d_Model_init_181 : decode b_Model_init 181 = .ok (.aload_n 0, 1) := by decide +kernel
theorem d_Model_init_182 : decode b_Model_init 182 = .ok (.iconst 4, 1) := by decide +kernel
theorem d_Model_init_183 : decode b_Model_init 183 = .ok (.newarray .int, 2) := by decide +kernel
theorem d_Model_init_185 : decode b_Model_init 185 = .ok (.putfield 78, 3) := by decide +kernel
theorem d_Model_init_188 : decode b_Model_init 188 = .ok (.aload_n 0, 1) := by decide +kernel
theorem d_Model_init_189 : decode b_Model_init 189 = .ok (.iconst 4, 1) := by decide +kernel
theorem d_Model_init_190 : decode b_Model_init 190 = .ok (.newarray .int, 2) := by decide +kernel
theorem d_Model_init_192 : decode b_Model_init 192 = .ok (.putfield 81, 3) := by decide +kernel
theorem d_Model_init_195 : decode b_Model_init 195 = .ok (.aload_n 0, 1) := by decide +kernel
theorem d_Model_init_196 : decode b_Model_init 196 = .ok (.sipush 160, 3) := by decide +kernel
theorem d_Model_init_199 : decode b_Model_init 199 = .ok (.newarray .int, 2) := by decide +kernel
theorem d_Model_init_201 : decode b_Model_init 201 = .ok (.putfield 84, 3) := by decide +kernel
theorem d_Model_init_204 : decode b_Model_init 204 = .ok (.iconst 0, 1) := by decide +kernel
theorem d_Model_init_205 : decode b_Model_init 205 = .ok (.istore_n 1, 1) := by decide +kernel
theorem d_Model_init_206 : decode b_Model_init 206 = .ok (.iload_n 1, 1) := by decide +kernel
theorem d_Model_init_207 : decode b_Model_init 207 = .ok (.iconst 4, 1) := by decide +kernel
theorem d_Model_init_208 : decode b_Model_init 208 = .ok (.if_icmp .ge 17, 3) := by decide +kernel
theorem d_Model_init_211 : decode b_Model_init 211 = .ok (.aload_n 0, 1) := by decide +kernel
theorem d_Model_init_212 : decode b_Model_init 212 = .ok (.getfield 78, 3) := by decide +kernel
theorem d_Model_init_215 : decode b_Model_init 215 = .ok (.iload_n 1, 1) := by decide +kernel
theorem d_Model_init_216 : decode b_Model_init 216 = .ok (.bipush (-4), 2) := by decide +kernel
theorem d_Model_init_218 : decode b_Model_init 218 = .ok (.iastore, 1) := by decide +kernel
theorem d_Model_init_219 : decode b_Model_init 219 = .ok (.iinc 1 1, 3) := by decide +kernel
theorem d_Model_init_222 : decode b_Model_init 222 = .ok (.goto (-16), 3) := by decide +kernel
theorem d_Model_init_225 : decode b_Model_init 225 = .ok (.iconst 1, 1) := by decide +kernel
theorem d_Model_init_226 : decode b_Model_init 226 = .ok (.istore_n 1, 1) := by decide +kernel
theorem d_Model_init_227 : decode b_Model_init 227 = .ok (.iload_n 1, 1) := by decide +kernel
theorem d_Model_init_228 : decode b_Model_init 228 = .ok (.bipush 6, 2) := by decide +kernel
theorem d_Model_init_230 : decode b_Model_init 230 = .ok (.if_icmp .ge 44, 3) := by decide +kernel
theorem d_Model_init_233 : decode b_Model_init 233 = .ok (.iconst 0, 1) := by decide +kernel
theorem d_Model_init_234 : decode b_Model_init 234 = .ok (.istore_n 2, 1) := by decide +kernel
theorem d_Model_init_235 : decode b_Model_init 235 = .ok (.iload_n 2, 1) := by decide +kernel
theorem d_Model_init_236 : decode b_Model_init 236 = .ok (.iload_n 1, 1) := by decide +kernel
theorem d_Model_init_237 : decode b_Model_init 237 = .ok (.if_icmp .ge 31, 3) := by decide +kernel
theorem d_Model_init_240 : decode b_Model_init 240 = .ok (.aload_n 0, 1) := by decide +kernel
theorem d_Model_init_241 : decode b_Model_init 241 = .ok (.getfield 26, 3) := by decide +kernel
theorem d_Model_init_244 : decode b_Model_init 244 = .ok (.iload_n 2, 1) := by decide +kernel
theorem d_Model_init_245 : decode b_Model_init 245 = .ok (.iload_n 1, 1) := by decide +kernel
theorem d_Model_init_246 : decode b_Model_init 246 = .ok (.invokestatic 87, 3) := by decide +kernel
theorem d_Model_init_249 : decode b_Model_init 249 = .ok (.iload_n 2, 1) := by decide +kernel
theorem d_Model_init_250 : decode b_Model_init 250 = .ok (.iastore, 1) := by decide +kernel
theorem d_Model_init_251 : decode b_Model_init 251 = .ok (.aload_n 0, 1) := by decide +kernel
theorem d_Model_init_252 : decode b_Model_init 252 = .ok (.getfield 29, 3) := by decide +kernel
theorem d_Model_init_255 : decode b_Model_init 255 = .ok (.iload_n 2, 1) := by decide +kernel
theorem d_Model_init_256 : decode b_Model_init 256 = .ok (.iload_n 1, 1) := by decide +kernel
theorem d_Model_init_257 : decode b_Model_init 257 = .ok (.invokestatic 87, 3) := by decide +kernel
theorem d_Model_init_260 : decode b_Model_init 260 = .ok (.iload_n 1, 1) := by decide +kernel
theorem d_Model_init_261 : decode b_Model_init 261 = .ok (.iastore, 1) := by decide +kernel
theorem d_Model_init_262 : decode b_Model_init 262 = .ok (.iinc 2 1, 3) := by decide +kernel
theorem d_Model_init_265 : decode b_Model_init 265 = .ok (.goto (-30), 3) := by decide +kernel
theorem d_Model_init_268 : decode b_Model_init 268 = .ok (.iinc 1 1, 3) := by decide +kernel
theorem d_Model_init_271 : decode b_Model_init 271 = .ok (.goto (-44), 3) := by decide +kernel
theorem d_Model_init_274 : decode b_Model_init 274 = .ok (.aload_n 0, 1) := by decide +kernel
theorem d_Model_init_275 : decode b_Model_init 275 = .ok (.invokevirtual 91, 3) := by decide +kernel
theorem d_Model_init_278 : decode b_Model_init 278 = .ok (.aload_n 0, 1) := by decide +kernel
theorem d_Model_init_279 : decode b_Model_init 279 = .ok (.invokevirtual 94, 3) := by decide +kernel
theorem d_Model_init_282 : decode b_Model_init 282 = .ok (.return_, 1) := by decide +kernel
theorem nu_Model (ad : Nat → Nat) : ∀ j, j < 55 → defaultValue (t_Model j) = vp_V (([2, 2, 0, 0, 0, 0, 0, 2, 2, 2, 2, 2, 0, 0, 0, 0, 0, 0, 2, 2, 2, 2, 2, 2, 0, 2, 0, 0, 0, 0, 0, 0, 0, 2, 2, 0, 2, 2, 0, 0, 0, 0, 0, 0, 0, 0, 2, 0, 2, 2, 2, 2, 2, 2, 0] : List Nat).mapIdx (fun i kd => fldC ad zM 0 i kd)) j := by
  intro j hj
  match j, hj with
  | 0, _ => exact (vpV_fld (ad := ad) (M := zM) (a := 0) (ds := [2, 2, 0, 0, 0, 0, 0, 2, 2, 2, 2, 2, 0, 0, 0, 0, 0, 0, 2, 2, 2, 2, 2, 2, 0, 2, 0, 0, 0, 0, 0, 0, 0, 2, 2, 0, 2, 2, 0, 0, 0, 0, 0, 0, 0, 0, 2, 0, 2, 2, 2, 2, 2, 2, 0]) (j := 0) (kd := 2) rfl).symm
  | 1, _ => exact (vpV_fld (ad := ad) (M := zM) (a := 0) (ds := [2, 2, 0, 0, 0, 0, 0, 2, 2, 2, 2, 2, 0, 0, 0, 0, 0, 0, 2, 2, 2, 2, 2, 2, 0, 2, 0, 0, 0, 0, 0, 0, 0, 2, 2, 0, 2, 2, 0, 0, 0, 0, 0, 0, 0, 0, 2, 0, 2, 2, 2, 2, 2, 2, 0]) (j := 1) (kd := 2) rfl).symm
  | 2, _ => exact (vpV_fld (ad := ad) (M := zM) (a := 0) (ds := [2, 2, 0, 0, 0, 0, 0, 2, 2, 2, 2, 2, 0, 0, 0, 0, 0, 0, 2, 2, 2, 2, 2, 2, 0, 2, 0, 0, 0, 0, 0, 0, 0, 2, 2, 0, 2, 2, 0, 0, 0, 0, 0, 0, 0, 0, 2, 0, 2, 2, 2, 2, 2, 2, 0]) (j := 2) (kd := 0) rfl).symm
  | 3, _ => exact (vpV_fld (ad := ad) (M := zM) (a := 0) (ds := [2, 2, 0, 0, 0, 0, 0, 2, 2, 2, 2, 2, 0, 0, 0, 0, 0, 0, 2, 2, 2, 2, 2, 2, 0, 2, 0, 0, 0, 0, 0, 0, 0, 2, 2, 0, 2, 2, 0, 0, 0, 0, 0, 0, 0, 0, 2, 0, 2, 2, 2, 2, 2, 2, 0]) (j := 3) (kd := 0) rfl).symm
  | 4, _ => exact (vpV_fld (ad := ad) (M := zM) (a := 0) (ds := [2, 2, 0, 0, 0, 0, 0, 2, 2, 2, 2, 2, 0, 0, 0, 0, 0, 0, 2, 2, 2, 2, 2, 2, 0, 2, 0, 0, 0, 0, 0, 0, 0, 2, 2, 0, 2, 2, 0, 0, 0, 0, 0, 0, 0, 0, 2, 0, 2, 2, 2, 2, 2, 2, 0]) (j := 4) (kd := 0) rfl).symm
  | 5, _ => exact (vpV_fld (ad := ad) (M := zM) (a := 0) (ds := [2, 2, 0, 0, 0, 0, 0, 2, 2, 2, 2, 2, 0, 0, 0, 0, 0, 0, 2, 2, 2, 2, 2, 2, 0, 2, 0, 0, 0, 0, 0, 0, 0, 2, 2, 0, 2, 2, 0, 0, 0, 0, 0, 0, 0, 0, 2, 0, 2, 2, 2, 2, 2, 2, 0]) (j := 5) (kd := 0) rfl).symm
  | 6, _ => exact (vpV_fld (ad := ad) (M := zM) (a := 0) (ds := [2, 2, 0, 0, 0, 0, 0, 2, 2, 2, 2, 2, 0, 0, 0, 0, 0, 0, 2, 2, 2, 2, 2, 2, 0, 2, 0, 0, 0, 0, 0, 0, 0, 2, 2, 0, 2, 2, 0, 0, 0, 0, 0, 0, 0, 0, 2, 0, 2, 2, 2, 2, 2, 2, 0]) (j := 6) (kd := 0) rfl).symm
  | 7, _ => exact (vpV_fld (ad := ad) (M := zM) (a := 0) (ds := [2, 2, 0, 0, 0, 0, 0, 2, 2, 2, 2, 2, 0, 0, 0, 0, 0, 0, 2, 2, 2, 2, 2, 2, 0, 2, 0, 0, 0, 0, 0, 0, 0, 2, 2, 0, 2, 2, 0, 0, 0, 0, 0, 0, 0, 0, 2, 0, 2, 2, 2, 2, 2, 2, 0]) (j := 7) (kd := 2) rfl).symm
  | 8, _ => exact (vpV_fld (ad := ad) (M := zM) (a := 0) (ds := [2, 2, 0, 0, 0, 0, 0, 2, 2, 2, 2, 2, 0, 0, 0, 0, 0, 0, 2, 2, 2, 2, 2, 2, 0, 2, 0, 0, 0, 0, 0, 0, 0, 2, 2, 0, 2, 2, 0, 0, 0, 0, 0, 0, 0, 0, 2, 0, 2, 2, 2, 2, 2, 2, 0]) (j := 8) (kd := 2) rfl).symm
  | 9, _ => exact (vpV_fld (ad := ad) (M := zM) (a := 0) (ds := [2, 2, 0, 0, 0, 0, 0, 2, 2, 2, 2, 2, 0, 0, 0, 0, 0, 0, 2, 2, 2, 2, 2, 2, 0, 2, 0, 0, 0, 0, 0, 0, 0, 2, 2, 0, 2, 2, 0, 0, 0, 0, 0, 0, 0, 0, 2, 0, 2, 2, 2, 2, 2, 2, 0]) (j := 9) (kd := 2) rfl).symm
  | 10, _ => exact (vpV_fld (ad := ad) (M := zM) (a := 0) (ds := [2, 2, 0, 0, 0, 0, 0, 2, 2, 2, 2, 2, 0, 0, 0, 0, 0, 0, 2, 2, 2, 2, 2, 2, 0, 2, 0, 0, 0, 0, 0, 0, 0, 2, 2, 0, 2, 2, 0, 0, 0, 0, 0, 0, 0, 0, 2, 0, 2, 2, 2, 2, 2, 2, 0]) (j := 10) (kd := 2) rfl).symm
  | 11, _ => exact (vpV_fld (ad := ad) (M := zM) (a := 0) (ds := [2, 2, 0, 0, 0, 0, 0, 2, 2, 2, 2, 2, 0, 0, 0, 0, 0, 0, 2, 2, 2, 2, 2, 2, 0, 2, 0, 0, 0, 0, 0, 0, 0, 2, 2, 0, 2, 2, 0, 0, 0, 0, 0, 0, 0, 0, 2, 0, 2, 2, 2, 2, 2, 2, 0]) (j := 11) (kd := 2) rfl).symm
  | 12, _ => exact (vpV_fld (ad := ad) (M := zM) (a := 0) (ds := [2, 2, 0, 0, 0, 0, 0, 2, 2, 2, 2, 2, 0, 0, 0, 0, 0, 0, 2, 2, 2, 2, 2, 2, 0, 2, 0, 0, 0, 0, 0, 0, 0, 2, 2, 0, 2, 2, 0, 0, 0, 0, 0, 0, 0, 0, 2, 0, 2, 2, 2, 2, 2, 2, 0]) (j := 12) (kd := 0) rfl).symm
  | 13, _ => exact (vpV_fld (ad := ad) (M := zM) (a := 0) (ds := [2, 2, 0, 0, 0, 0, 0, 2, 2, 2, 2, 2, 0, 0, 0, 0, 0, 0, 2, 2, 2, 2, 2, 2, 0, 2, 0, 0, 0, 0, 0, 0, 0, 2, 2, 0, 2, 2, 0, 0, 0, 0, 0, 0, 0, 0, 2, 0, 2, 2, 2, 2, 2, 2, 0]) (j := 13) (kd := 0) rfl).symm
  | 14, _ => exact (vpV_fld (ad := ad) (M := zM) (a := 0) (ds := [2, 2, 0, 0, 0, 0, 0, 2, 2, 2, 2, 2, 0, 0, 0, 0, 0, 0, 2, 2, 2, 2, 2, 2, 0, 2, 0, 0, 0, 0, 0, 0, 0, 2, 2, 0, 2, 2, 0, 0, 0, 0, 0, 0, 0, 0, 2, 0, 2, 2, 2, 2, 2, 2, 0]) (j := 14) (kd := 0) rfl).symm
  | 15, _ => exact (vpV_fld (ad := ad) (M := zM) (a := 0) (ds := [2, 2, 0, 0, 0, 0, 0, 2, 2, 2, 2, 2, 0, 0, 0, 0, 0, 0, 2, 2, 2, 2, 2, 2, 0, 2, 0, 0, 0, 0, 0, 0, 0, 2, 2, 0, 2, 2, 0, 0, 0, 0, 0, 0, 0, 0, 2, 0, 2, 2, 2, 2, 2, 2, 0]) (j := 15) (kd := 0) rfl).symm
  | 16, _ => exact (vpV_fld (ad := ad) (M := zM) (a := 0) (ds := [2, 2, 0, 0, 0, 0, 0, 2, 2, 2, 2, 2, 0, 0, 0, 0, 0, 0, 2, 2, 2, 2, 2, 2, 0, 2, 0, 0, 0, 0, 0, 0, 0, 2, 2, 0, 2, 2, 0, 0, 0, 0, 0, 0, 0, 0, 2, 0, 2, 2, 2, 2, 2, 2, 0]) (j := 16) (kd := 0) rfl).symm
  | 17, _ => exact (vpV_fld (ad := ad) (M := zM) (a := 0) (ds := [2, 2, 0, 0, 0, 0, 0, 2, 2, 2, 2, 2, 0, 0, 0, 0, 0, 0, 2, 2, 2, 2, 2, 2, 0, 2, 0, 0, 0, 0, 0, 0, 0, 2, 2, 0, 2, 2, 0, 0, 0, 0, 0, 0, 0, 0, 2, 0, 2, 2, 2, 2, 2, 2, 0]) (j := 17) (kd := 0) rfl).symm
  | 18, _ => exact (vpV_fld (ad := ad) (M := zM) (a := 0) (ds := [2, 2, 0, 0, 0, 0, 0, 2, 2, 2, 2, 2, 0, 0, 0, 0, 0, 0, 2, 2, 2, 2, 2, 2, 0, 2, 0, 0, 0, 0, 0, 0, 0, 2, 2, 0, 2, 2, 0, 0, 0, 0, 0, 0, 0, 0, 2, 0, 2, 2, 2, 2, 2, 2, 0]) (j := 18) (kd := 2) rfl).symm
  | 19, _ => exact (vpV_fld (ad := ad) (M := zM) (a := 0) (ds := [2, 2, 0, 0, 0, 0, 0, 2, 2, 2, 2, 2, 0, 0, 0, 0, 0, 0, 2, 2, 2, 2, 2, 2, 0, 2, 0, 0, 0, 0, 0, 0, 0, 2, 2, 0, 2, 2, 0, 0, 0, 0, 0, 0, 0, 0, 2, 0, 2, 2, 2, 2, 2, 2, 0]) (j := 19) (kd := 2) rfl).symm
  | 20, _ => exact (vpV_fld (ad := ad) (M := zM) (a := 0) (ds := [2, 2, 0, 0, 0, 0, 0, 2, 2, 2, 2, 2, 0, 0, 0, 0, 0, 0, 2, 2, 2, 2, 2, 2, 0, 2, 0, 0, 0, 0, 0, 0, 0, 2, 2, 0, 2, 2, 0, 0, 0, 0, 0, 0, 0, 0, 2, 0, 2, 2, 2, 2, 2, 2, 0]) (j := 20) (kd := 2) rfl).symm
  | 21, _ => exact (vpV_fld (ad := ad) (M := zM) (a := 0) (ds := [2, 2, 0, 0, 0, 0, 0, 2, 2, 2, 2, 2, 0, 0, 0, 0, 0, 0, 2, 2, 2, 2, 2, 2, 0, 2, 0, 0, 0, 0, 0, 0, 0, 2, 2, 0, 2, 2, 0, 0, 0, 0, 0, 0, 0, 0, 2, 0, 2, 2, 2, 2, 2, 2, 0]) (j := 21) (kd := 2) rfl).symm
  | 22, _ => exact (vpV_fld (ad := ad) (M := zM) (a := 0) (ds := [2, 2, 0, 0, 0, 0, 0, 2, 2, 2, 2, 2, 0, 0, 0, 0, 0, 0, 2, 2, 2, 2, 2, 2, 0, 2, 0, 0, 0, 0, 0, 0, 0, 2, 2, 0, 2, 2, 0, 0, 0, 0, 0, 0, 0, 0, 2, 0, 2, 2, 2, 2, 2, 2, 0]) (j := 22) (kd := 2) rfl).symm
  | 23, _ => exact (vpV_fld (ad := ad) (M := zM) (a := 0) (ds := [2, 2, 0, 0, 0, 0, 0, 2, 2, 2, 2, 2, 0, 0, 0, 0, 0, 0, 2, 2, 2, 2, 2, 2, 0, 2, 0, 0, 0, 0, 0, 0, 0, 2, 2, 0, 2, 2, 0, 0, 0, 0, 0, 0, 0, 0, 2, 0, 2, 2, 2, 2, 2, 2, 0]) (j := 23) (kd := 2) rfl).symm
  | 24, _ => exact (vpV_fld (ad := ad) (M := zM) (a := 0) (ds := [2, 2, 0, 0, 0, 0, 0, 2, 2, 2, 2, 2, 0, 0, 0, 0, 0, 0, 2, 2, 2, 2, 2, 2, 0, 2, 0, 0, 0, 0, 0, 0, 0, 2, 2, 0, 2, 2, 0, 0, 0, 0, 0, 0, 0, 0, 2, 0, 2, 2, 2, 2, 2, 2, 0]) (j := 24) (kd := 0) rfl).symm
  | 25, _ => exact (vpV_fld (ad := ad) (M := zM) (a := 0) (ds := [2, 2, 0, 0, 0, 0, 0, 2, 2, 2, 2, 2, 0, 0, 0, 0, 0, 0, 2, 2, 2, 2, 2, 2, 0, 2, 0, 0, 0, 0, 0, 0, 0, 2, 2, 0, 2, 2, 0, 0, 0, 0, 0, 0, 0, 0, 2, 0, 2, 2, 2, 2, 2, 2, 0]) (j := 25) (kd := 2) rfl).symm
  | 26, _ => exact (vpV_fld (ad := ad) (M := zM) (a := 0) (ds := [2, 2, 0, 0, 0, 0, 0, 2, 2, 2, 2, 2, 0, 0, 0, 0, 0, 0, 2, 2, 2, 2, 2, 2, 0, 2, 0, 0, 0, 0, 0, 0, 0, 2, 2, 0, 2, 2, 0, 0, 0, 0, 0, 0, 0, 0, 2, 0, 2, 2, 2, 2, 2, 2, 0]) (j := 26) (kd := 0) rfl).symm
  | 27, _ => exact (vpV_fld (ad := ad) (M := zM) (a := 0) (ds := [2, 2, 0, 0, 0, 0, 0, 2, 2, 2, 2, 2, 0, 0, 0, 0, 0, 0, 2, 2, 2, 2, 2, 2, 0, 2, 0, 0, 0, 0, 0, 0, 0, 2, 2, 0, 2, 2, 0, 0, 0, 0, 0, 0, 0, 0, 2, 0, 2, 2, 2, 2, 2, 2, 0]) (j := 27) (kd := 0) rfl).symm
  | 28, _ => exact (vpV_fld (ad := ad) (M := zM) (a := 0) (ds := [2, 2, 0, 0, 0, 0, 0, 2, 2, 2, 2, 2, 0, 0, 0, 0, 0, 0, 2, 2, 2, 2, 2, 2, 0, 2, 0, 0, 0, 0, 0, 0, 0, 2, 2, 0, 2, 2, 0, 0, 0, 0, 0, 0, 0, 0, 2, 0, 2, 2, 2, 2, 2, 2, 0]) (j := 28) (kd := 0) rfl).symm
  | 29, _ => exact (vpV_fld (ad := ad) (M := zM) (a := 0) (ds := [2, 2, 0, 0, 0, 0, 0, 2, 2, 2, 2, 2, 0, 0, 0, 0, 0, 0, 2, 2, 2, 2, 2, 2, 0, 2, 0, 0, 0, 0, 0, 0, 0, 2, 2, 0, 2, 2, 0, 0, 0, 0, 0, 0, 0, 0, 2, 0, 2, 2, 2, 2, 2, 2, 0]) (j := 29) (kd := 0) rfl).symm
  | 30, _ => exact (vpV_fld (ad := ad) (M := zM) (a := 0) (ds := [2, 2, 0, 0, 0, 0, 0, 2, 2, 2, 2, 2, 0, 0, 0, 0, 0, 0, 2, 2, 2, 2, 2, 2, 0, 2, 0, 0, 0, 0, 0, 0, 0, 2, 2, 0, 2, 2, 0, 0, 0, 0, 0, 0, 0, 0, 2, 0, 2, 2, 2, 2, 2, 2, 0]) (j := 30) (kd := 0) rfl).symm
  | 31, _ => exact (vpV_fld (ad := ad) (M := zM) (a := 0) (ds := [2, 2, 0, 0, 0, 0, 0, 2, 2, 2, 2, 2, 0, 0, 0, 0, 0, 0, 2, 2, 2, 2, 2, 2, 0, 2, 0, 0, 0, 0, 0, 0, 0, 2, 2, 0, 2, 2, 0, 0, 0, 0, 0, 0, 0, 0, 2, 0, 2, 2, 2, 2, 2, 2, 0]) (j := 31) (kd := 0) rfl).symm
  | 32, _ => exact (vpV_fld (ad := ad) (M := zM) (a := 0) (ds := [2, 2, 0, 0, 0, 0, 0, 2, 2, 2, 2, 2, 0, 0, 0, 0, 0, 0, 2, 2, 2, 2, 2, 2, 0, 2, 0, 0, 0, 0, 0, 0, 0, 2, 2, 0, 2, 2, 0, 0, 0, 0, 0, 0, 0, 0, 2, 0, 2, 2, 2, 2, 2, 2, 0]) (j := 32) (kd := 0) rfl).symm
  | 33, _ => exact (vpV_fld (ad := ad) (M := zM) (a := 0) (ds := [2, 2, 0, 0, 0, 0, 0, 2, 2, 2, 2, 2, 0, 0, 0, 0, 0, 0, 2, 2, 2, 2, 2, 2, 0, 2, 0, 0, 0, 0, 0, 0, 0, 2, 2, 0, 2, 2, 0, 0, 0, 0, 0, 0, 0, 0, 2, 0, 2, 2, 2, 2, 2, 2, 0]) (j := 33) (kd := 2) rfl).symm
  | 34, _ => exact (vpV_fld (ad := ad) (M := zM) (a := 0) (ds := [2, 2, 0, 0, 0, 0, 0, 2, 2, 2, 2, 2, 0, 0, 0, 0, 0, 0, 2, 2, 2, 2, 2, 2, 0, 2, 0, 0, 0, 0, 0, 0, 0, 2, 2, 0, 2, 2, 0, 0, 0, 0, 0, 0, 0, 0, 2, 0, 2, 2, 2, 2, 2, 2, 0]) (j := 34) (kd := 2) rfl).symm
  | 35, _ => exact (vpV_fld (ad := ad) (M := zM) (a := 0) (ds := [2, 2, 0, 0, 0, 0, 0, 2, 2, 2, 2, 2, 0, 0, 0, 0, 0, 0, 2, 2, 2, 2, 2, 2, 0, 2, 0, 0, 0, 0, 0, 0, 0, 2, 2, 0, 2, 2, 0, 0, 0, 0, 0, 0, 0, 0, 2, 0, 2, 2, 2, 2, 2, 2, 0]) (j := 35) (kd := 0) rfl).symm
  | 36, _ => exact (vpV_fld (ad := ad) (M := zM) (a := 0) (ds := [2, 2, 0, 0, 0, 0, 0, 2, 2, 2, 2, 2, 0, 0, 0, 0, 0, 0, 2, 2, 2, 2, 2, 2, 0, 2, 0, 0, 0, 0, 0, 0, 0, 2, 2, 0, 2, 2, 0, 0, 0, 0, 0, 0, 0, 0, 2, 0, 2, 2, 2, 2, 2, 2, 0]) (j := 36) (kd := 2) rfl).symm
  | 37, _ => exact (vpV_fld (ad := ad) (M := zM) (a := 0) (ds := [2, 2, 0, 0, 0, 0, 0, 2, 2, 2, 2, 2, 0, 0, 0, 0, 0, 0, 2, 2, 2, 2, 2, 2, 0, 2, 0, 0, 0, 0, 0, 0, 0, 2, 2, 0, 2, 2, 0, 0, 0, 0, 0, 0, 0, 0, 2, 0, 2, 2, 2, 2, 2, 2, 0]) (j := 37) (kd := 2) rfl).symm
  | 38, _ => exact (vpV_fld (ad := ad) (M := zM) (a := 0) (ds := [2, 2, 0, 0, 0, 0, 0, 2, 2, 2, 2, 2, 0, 0, 0, 0, 0, 0, 2, 2, 2, 2, 2, 2, 0, 2, 0, 0, 0, 0, 0, 0, 0, 2, 2, 0, 2, 2, 0, 0, 0, 0, 0, 0, 0, 0, 2, 0, 2, 2, 2, 2, 2, 2, 0]) (j := 38) (kd := 0) rfl).symm
  | 39, _ => exact (vpV_fld (ad := ad) (M := zM) (a := 0) (ds := [2, 2, 0, 0, 0, 0, 0, 2, 2, 2, 2, 2, 0, 0, 0, 0, 0, 0, 2, 2, 2, 2, 2, 2, 0, 2, 0, 0, 0, 0, 0, 0, 0, 2, 2, 0, 2, 2, 0, 0, 0, 0, 0, 0, 0, 0, 2, 0, 2, 2, 2, 2, 2, 2, 0]) (j := 39) (kd := 0) rfl).symm
  | 40, _ => exact (vpV_fld (ad := ad) (M := zM) (a := 0) (ds := [2, 2, 0, 0, 0, 0, 0, 2, 2, 2, 2, 2, 0, 0, 0, 0, 0, 0, 2, 2, 2, 2, 2, 2, 0, 2, 0, 0, 0, 0, 0, 0, 0, 2, 2, 0, 2, 2, 0, 0, 0, 0, 0, 0, 0, 0, 2, 0, 2, 2, 2, 2, 2, 2, 0]) (j := 40) (kd := 0) rfl).symm
  | 41, _ => exact (vpV_fld (ad := ad) (M := zM) (a := 0) (ds := [2, 2, 0, 0, 0, 0, 0, 2, 2, 2, 2, 2, 0, 0, 0, 0, 0, 0, 2, 2, 2, 2, 2, 2, 0, 2, 0, 0, 0, 0, 0, 0, 0, 2, 2, 0, 2, 2, 0, 0, 0, 0, 0, 0, 0, 0, 2, 0, 2, 2, 2, 2, 2, 2, 0]) (j := 41) (kd := 0) rfl).symm
  | 42, _ => exact (vpV_fld (ad := ad) (M := zM) (a := 0) (ds := [2, 2, 0, 0, 0, 0, 0, 2, 2, 2, 2, 2, 0, 0, 0, 0, 0, 0, 2, 2, 2, 2, 2, 2, 0, 2, 0, 0, 0, 0, 0, 0, 0, 2, 2, 0, 2, 2, 0, 0, 0, 0, 0, 0, 0, 0, 2, 0, 2, 2, 2, 2, 2, 2, 0]) (j := 42) (kd := 0) rfl).symm
  | 43, _ => exact (vpV_fld (ad := ad) (M := zM) (a := 0) (ds := [2, 2, 0, 0, 0, 0, 0, 2, 2, 2, 2, 2, 0, 0, 0, 0, 0, 0, 2, 2, 2, 2, 2, 2, 0, 2, 0, 0, 0, 0, 0, 0, 0, 2, 2, 0, 2, 2, 0, 0, 0, 0, 0, 0, 0, 0, 2, 0, 2, 2, 2, 2, 2, 2, 0]) (j := 43) (kd := 0) rfl).symm
  | 44, _ => exact (vpV_fld (ad := ad) (M := zM) (a := 0) (ds := [2, 2, 0, 0, 0, 0, 0, 2, 2, 2, 2, 2, 0, 0, 0, 0, 0, 0, 2, 2, 2, 2, 2, 2, 0, 2, 0, 0, 0, 0, 0, 0, 0, 2, 2, 0, 2, 2, 0, 0, 0, 0, 0, 0, 0, 0, 2, 0, 2, 2, 2, 2, 2, 2, 0]) (j := 44) (kd := 0) rfl).symm
  | 45, _ => exact (vpV_fld (ad := ad) (M := zM) (a := 0) (ds := [2, 2, 0, 0, 0, 0, 0, 2, 2, 2, 2, 2, 0, 0, 0, 0, 0, 0, 2, 2, 2, 2, 2, 2, 0, 2, 0, 0, 0, 0, 0, 0, 0, 2, 2, 0, 2, 2, 0, 0, 0, 0, 0, 0, 0, 0, 2, 0, 2, 2, 2, 2, 2, 2, 0]) (j := 45) (kd := 0) rfl).symm
  | 46, _ => exact (vpV_fld (ad := ad) (M := zM) (a := 0) (ds := [2, 2, 0, 0, 0, 0, 0, 2, 2, 2, 2, 2, 0, 0, 0, 0, 0, 0, 2, 2, 2, 2, 2, 2, 0, 2, 0, 0, 0, 0, 0, 0, 0, 2, 2, 0, 2, 2, 0, 0, 0, 0, 0, 0, 0, 0, 2, 0, 2, 2, 2, 2, 2, 2, 0]) (j := 46) (kd := 2) rfl).symm
  | 47, _ => exact (vpV_fld (ad := ad) (M := zM) (a := 0) (ds := [2, 2, 0, 0, 0, 0, 0, 2, 2, 2, 2, 2, 0, 0, 0, 0, 0, 0, 2, 2, 2, 2, 2, 2, 0, 2, 0, 0, 0, 0, 0, 0, 0, 2, 2, 0, 2, 2, 0, 0, 0, 0, 0, 0, 0, 0, 2, 0, 2, 2, 2, 2, 2, 2, 0]) (j := 47) (kd := 0) rfl).symm
  | 48, _ => exact (vpV_fld (ad := ad) (M := zM) (a := 0) (ds := [2, 2, 0, 0, 0, 0, 0, 2, 2, 2, 2, 2, 0, 0, 0, 0, 0, 0, 2, 2, 2, 2, 2, 2, 0, 2, 0, 0, 0, 0, 0, 0, 0, 2, 2, 0, 2, 2, 0, 0, 0, 0, 0, 0, 0, 0, 2, 0, 2, 2, 2, 2, 2, 2, 0]) (j := 48) (kd := 2) rfl).symm
  | 49, _ => exact (vpV_fld (ad := ad) (M := zM) (a := 0) (ds := [2, 2, 0, 0, 0, 0, 0, 2, 2, 2, 2, 2, 0, 0, 0, 0, 0, 0, 2, 2, 2, 2, 2, 2, 0, 2, 0, 0, 0, 0, 0, 0, 0, 2, 2, 0, 2, 2, 0, 0, 0, 0, 0, 0, 0, 0, 2, 0, 2, 2, 2, 2, 2, 2, 0]) (j := 49) (kd := 2) rfl).symm
  | 50, _ => exact (vpV_fld (ad := ad) (M := zM) (a := 0) (ds := [2, 2, 0, 0, 0, 0, 0, 2, 2, 2, 2, 2, 0, 0, 0, 0, 0, 0, 2, 2, 2, 2, 2, 2, 0, 2, 0, 0, 0, 0, 0, 0, 0, 2, 2, 0, 2, 2, 0, 0, 0, 0, 0, 0, 0, 0, 2, 0, 2, 2, 2, 2, 2, 2, 0]) (j := 50) (kd := 2) rfl).symm
  | 51, _ => exact (vpV_fld (ad := ad) (M := zM) (a := 0) (ds := [2, 2, 0, 0, 0, 0, 0, 2, 2, 2, 2, 2, 0, 0, 0, 0, 0, 0, 2, 2, 2, 2, 2, 2, 0, 2, 0, 0, 0, 0, 0, 0, 0, 2, 2, 0, 2, 2, 0, 0, 0, 0, 0, 0, 0, 0, 2, 0, 2, 2, 2, 2, 2, 2, 0]) (j := 51) (kd := 2) rfl).symm
  | 52, _ => exact (vpV_fld (ad := ad) (M := zM) (a := 0) (ds := [2, 2, 0, 0, 0, 0, 0, 2, 2, 2, 2, 2, 0, 0, 0, 0, 0, 0, 2, 2, 2, 2, 2, 2, 0, 2, 0, 0, 0, 0, 0, 0, 0, 2, 2, 0, 2, 2, 0, 0, 0, 0, 0, 0, 0, 0, 2, 0, 2, 2, 2, 2, 2, 2, 0]) (j := 52) (kd := 2) rfl).symm
  | 53, _ => exact (vpV_fld (ad := ad) (M := zM) (a := 0) (ds := [2, 2, 0, 0, 0, 0, 0, 2, 2, 2, 2, 2, 0, 0, 0, 0, 0, 0, 2, 2, 2, 2, 2, 2, 0, 2, 0, 0, 0, 0, 0, 0, 0, 2, 2, 0, 2, 2, 0, 0, 0, 0, 0, 0, 0, 0, 2, 0, 2, 2, 2, 2, 2, 2, 0]) (j := 53) (kd := 2) rfl).symm
  | 54, _ => exact (vpV_fld (ad := ad) (M := zM) (a := 0) (ds := [2, 2, 0, 0, 0, 0, 0, 2, 2, 2, 2, 2, 0, 0, 0, 0, 0, 0, 2, 2, 2, 2, 2, 2, 0, 2, 0, 0, 0, 0, 0, 0, 0, 2, 2, 0, 2, 2, 0, 0, 0, 0, 0, 0, 0, 0, 2, 0, 2, 2, 2, 2, 2, 2, 0]) (j := 54) (kd := 0) rfl).symm
  | j + 55, h => exact absurd h (by omega)
theorem oi_Model_1 : Cond.methodLink "ShakeHandsModel" 1 objectInit ∈ tbl := tb_4 162 (by decide +kernel) rfl
theorem ac_boolean : Cond.arrayClass .boolean ∈ tbl := tb_5 103 (by decide +kernel) rfl
def mt_Model_init : Mt := ("ShakeHandsModel", b_Model_init, 3, none, 60, SHm)
def X_Model_init_L206 (n : Nat) (kx225 : Mem → Option (Unit × Mem)) : Nat → Int32 → Mem → Option (Unit × Mem)
    | 0, _, _ => none
    | m + 1, v1, M => (if 4 ≤ v1 then
    kx225 M
    else
    gd v1 4 (
      X_Model_init_L206 n kx225 m (v1 + 1) (si M 23 (v1.toNatClampNeg) (-4))))
def X_Model_init_L235 (n : Nat) (a1 : Int32) (kx268 : Mem → Option (Unit × Mem)) : Nat → Int32 → Mem → Option (Unit × Mem)
    | 0, _, _ => none
    | m + 1, v2, M => (if a1 ≤ v2 then
    kx268 M
    else
    bd (X_Model_pairOf n v2 a1 M) fun r2 M3 =>
    gd r2 15 (
      nm (si M3 6 (r2.toNatClampNeg) v2) fun N4 =>
      bd (X_Model_pairOf n v2 a1 N4) fun r5 M6 =>
      gd r5 15 (
        X_Model_init_L235 n a1 kx268 m (v2 + 1) (si M6 7 (r5.toNatClampNeg) a1))))
def X_Model_init_L227 (n : Nat) (kx274 : Mem → Option (Unit × Mem)) : Nat → Int32 → Mem → Option (Unit × Mem)
    | 0, _, _ => none
    | m + 1, v1, M => (if 6 ≤ v1 then
    kx274 M
    else
    X_Model_init_L235 n v1 (fun M7 => X_Model_init_L227 n kx274 m (v1 + 1) M7) n 0 M)
def X_Model_init (n : Nat) (M : Mem) : Option (Unit × Mem) :=
  X_Model_init_L206 n (fun M1 => X_Model_init_L227 n (fun M8 => bd (X_Model_firstDraft n M8) fun _ M10 =>
      bd (X_Model_keepDraft n M10) fun _ M12 =>
      some ((), M12)) n 1 M1) n 0 M
set_option maxRecDepth 20000 in
set_option maxHeartbeats 4000000 in
theorem X_Model_init_L206_ok {n : Nat} {kx225 : Mem → Option (Unit × Mem)} (hkx225 : ∀ (M : Mem), J (mt_Model_init) wU 225 [(0, Value.ref 0)] [] M (kx225 M)) : ∀ (m : Nat) (v1 : Int32) (M : Mem), J (mt_Model_init) wU 206 [(0, Value.ref 0), (1, Value.int v1)] [] M (X_Model_init_L206 n kx225 m v1 M) := by
  intro m
  induction m with
  | zero => intro _ _; exact j_none
  | succ m ih =>
    intro v1 M
    show J _ _ _ _ _ _ ((if 4 ≤ v1 then
kx225 M
else
gd v1 4 (
X_Model_init_L206 n kx225 m (v1 + 1) (si M 23 (v1.toNatClampNeg) (-4)))))
    refine j_iload_n (pc := 206) (q := 1) d_Model_init_206 rfl rfl ?_
    refine j_iconst (pc := 207) d_Model_init_207 k_i_4 ?_
    refine j_icmp_ge (pc := 208) (tgt := 225) d_Model_init_208 (by decide) (fun _ => ?_) (fun _ => ?_)
    · refine j_lv [0] rfl ?_
      exact hkx225 M
    · refine j_aload_n (pc := 211) (q := 0) d_Model_init_211 rfl rfl ?_
      refine j_getA (pc := 212) d_Model_init_212 fl_Model_78 sm_0 (by decide) rfl ?_
      refine j_iload_n (pc := 215) (q := 1) d_Model_init_215 rfl rfl ?_
      refine j_bipush (pc := 216) d_Model_init_216 k_b_m4 ?_
      refine j_iast (pc := 218) d_Model_init_218 sm_23 (fun _ => ?_)
      refine j_iinc (pc := 219) (q := 1) d_Model_init_219 rfl (congrArg (v1 + ·) k_i_1) (by decide) rfl ?_
      refine j_goto (pc := 222) (tgt := 206) d_Model_init_222 (by decide) ?_
      refine j_lv [1, 0] rfl ?_
      exact ih (v1 + 1) (si M 23 (v1.toNatClampNeg) (-4))
set_option maxRecDepth 20000 in
set_option maxHeartbeats 4000000 in
theorem X_Model_init_L235_ok {n : Nat} {a1 : Int32} {kx268 : Mem → Option (Unit × Mem)} (hkx268 : ∀ (M : Mem), J (mt_Model_init) wU 268 [(0, Value.ref 0), (1, Value.int a1)] [] M (kx268 M)) : ∀ (m : Nat) (v2 : Int32) (M : Mem), J (mt_Model_init) wU 235 [(0, Value.ref 0), (1, Value.int a1), (2, Value.int v2)] [] M (X_Model_init_L235 n a1 kx268 m v2 M) := by
  intro m
  induction m with
  | zero => intro _ _; exact j_none
  | succ m ih =>
    intro v2 M
    show J _ _ _ _ _ _ ((if a1 ≤ v2 then
kx268 M
else
bd (X_Model_pairOf n v2 a1 M) fun r2 M3 =>
gd r2 15 (
nm (si M3 6 (r2.toNatClampNeg) v2) fun N4 =>
bd (X_Model_pairOf n v2 a1 N4) fun r5 M6 =>
gd r5 15 (
X_Model_init_L235 n a1 kx268 m (v2 + 1) (si M6 7 (r5.toNatClampNeg) a1)))))
    refine j_iload_n (pc := 235) (q := 2) d_Model_init_235 rfl rfl ?_
    refine j_iload_n (pc := 236) (q := 1) d_Model_init_236 rfl rfl ?_
    refine j_icmp_ge (pc := 237) (tgt := 268) d_Model_init_237 (by decide) (fun _ => ?_) (fun _ => ?_)
    · refine j_lv [0, 1] rfl ?_
      exact hkx268 M
    · refine j_aload_n (pc := 240) (q := 0) d_Model_init_240 rfl rfl ?_
      refine j_getA (pc := 241) d_Model_init_241 fl_Model_26 sm_0 (by decide) rfl ?_
      refine j_iload_n (pc := 244) (q := 2) d_Model_init_244 rfl rfl ?_
      refine j_iload_n (pc := 245) (q := 1) d_Model_init_245 rfl rfl ?_
      refine j_callS2 (pc := 246) d_Model_init_246 (C_Model_pairOf n v2 a1 M) cS_Model_87 cd_Model_pairOf dn_Model_pairOf rfl (by decide) (Nat.le_of_ble_eq_true rfl) (Nat.le_of_ble_eq_true rfl) nr_I (fun r2 M3 => ?_)
      refine j_iload_n (pc := 249) (q := 2) d_Model_init_249 rfl rfl ?_
      refine j_iast (pc := 250) d_Model_init_250 sm_6 (fun _ => ?_)
      refine j_aload_n (pc := 251) (q := 0) d_Model_init_251 rfl rfl ?_
      refine j_getA (pc := 252) d_Model_init_252 fl_Model_29 sm_0 (by decide) rfl ?_
      refine j_iload_n (pc := 255) (q := 2) d_Model_init_255 rfl rfl ?_
      refine j_iload_n (pc := 256) (q := 1) d_Model_init_256 rfl rfl ?_
      refine j_nmM (fun N4 => ?_)
      refine j_callS2 (pc := 257) d_Model_init_257 (C_Model_pairOf n v2 a1 N4) cS_Model_87 cd_Model_pairOf dn_Model_pairOf rfl (by decide) (Nat.le_of_ble_eq_true rfl) (Nat.le_of_ble_eq_true rfl) nr_I (fun r5 M6 => ?_)
      refine j_iload_n (pc := 260) (q := 1) d_Model_init_260 rfl rfl ?_
      refine j_iast (pc := 261) d_Model_init_261 sm_7 (fun _ => ?_)
      refine j_iinc (pc := 262) (q := 2) d_Model_init_262 rfl (congrArg (v2 + ·) k_i_1) (by decide) rfl ?_
      refine j_goto (pc := 265) (tgt := 235) d_Model_init_265 (by decide) ?_
      refine j_lv [1, 2, 0] rfl ?_
      exact ih (v2 + 1) (si M6 7 (r5.toNatClampNeg) a1)
set_option maxRecDepth 20000 in
set_option maxHeartbeats 4000000 in
theorem X_Model_init_L227_ok {n : Nat} {kx274 : Mem → Option (Unit × Mem)} (hkx274 : ∀ (M : Mem), J (mt_Model_init) wU 274 [(0, Value.ref 0)] [] M (kx274 M)) : ∀ (m : Nat) (v1 : Int32) (M : Mem), J (mt_Model_init) wU 227 [(0, Value.ref 0), (1, Value.int v1)] [] M (X_Model_init_L227 n kx274 m v1 M) := by
  intro m
  induction m with
  | zero => intro _ _; exact j_none
  | succ m ih =>
    intro v1 M
    show J _ _ _ _ _ _ ((if 6 ≤ v1 then
kx274 M
else
X_Model_init_L235 n v1 (fun M7 => X_Model_init_L227 n kx274 m (v1 + 1) M7) n 0 M))
    refine j_iload_n (pc := 227) (q := 1) d_Model_init_227 rfl rfl ?_
    refine j_bipush (pc := 228) d_Model_init_228 k_b_6 ?_
    refine j_icmp_ge (pc := 230) (tgt := 274) d_Model_init_230 (by decide) (fun _ => ?_) (fun _ => ?_)
    · refine j_lv [0] rfl ?_
      exact hkx274 M
    · refine j_iconst (pc := 233) d_Model_init_233 k_i_0 ?_
      refine j_istore_n (pc := 234) d_Model_init_234 rfl (by decide) rfl ?_
      refine j_lv [1, 2, 0] rfl ?_
      refine X_Model_init_L235_ok  (fun M7 => ?_) n 0 M
      refine j_iinc (pc := 268) (q := 1) d_Model_init_268 rfl (congrArg (v1 + ·) k_i_1) (by decide) rfl ?_
      refine j_goto (pc := 271) (tgt := 227) d_Model_init_271 (by decide) ?_
      refine j_lv [1, 0] rfl ?_
      exact ih (v1 + 1) M7
theorem conv_m (M : Mem) (ad : Nat → Nat) (dA : Nat → ClassId) : layC ad dA [(9, [4, 5, 0, 0, 0, 0, 0, 6, 7, 8, 9, 10, 0, 0, 0, 0, 0, 0, 11, 12, 13, 14, 15, 16, 0, 17, 0, 0, 0, 0, 0, 0, 0, 18, 19, 0, 20, 21, 0, 0, 0, 0, 0, 0, 0, 0, 22, 0, 23, 24, 25, 26, 27, 28, 0]), (100, [234]), (102, [2]), (100, [12]), (100, [16]), (100, [8]), (100, [15]), (100, [15]), (100, [12]), (100, [16]), (100, [8]), (100, [60]), (102, [6]), (102, [6]), (100, [320]), (100, [600]), (100, [18]), (100, [4]), (100, [4]), (100, [80]), (103, [1206]), (100, [6]), (100, [6]), (100, [4]), (100, [4]), (100, [160])] M = lay ad dA SHm M := rfl
set_option maxRecDepth 20000 in
set_option maxHeartbeats 4000000 in
theorem CC_Model (n : Nat) (M9 : Mem) (hF : X_Model_init n zM = some ((), M9)) : CtC y_Model_init mtC_Model [Value.ref 0] [(9, [2, 2, 0, 0, 0, 0, 0, 2, 2, 2, 2, 2, 0, 0, 0, 0, 0, 0, 2, 2, 2, 2, 2, 2, 0, 2, 0, 0, 0, 0, 0, 0, 0, 2, 2, 0, 2, 2, 0, 0, 0, 0, 0, 0, 0, 0, 2, 0, 2, 2, 2, 2, 2, 2, 0])] zM (PJ SHm M9) 25 2822 := by
  refine ctc_of (by decide +kernel) rfl rfl (Nat.le_of_ble_eq_true rfl) ?_
  refine c_aload_n (pc := 0) (q := 0) d_Model_init_0 rfl rfl ?_
  refine c_objInit (pc := 1) d_Model_init_1 oi_Model_1 (Nat.le_of_ble_eq_true rfl) (Nat.le_of_ble_eq_true rfl) ?_
  refine c_aload_n (pc := 4) (q := 0) d_Model_init_4 rfl rfl ?_
  refine c_sipush (pc := 5) d_Model_init_5 k_s_234 ?_
  refine c_newaI (pc := 8) (N := 234) (sh8 := [(9, [2, 2, 0, 0, 0, 0, 0, 2, 2, 2, 2, 2, 0, 0, 0, 0, 0, 0, 2, 2, 2, 2, 2, 2, 0, 2, 0, 0, 0, 0, 0, 0, 0, 2, 2, 0, 2, 2, 0, 0, 0, 0, 0, 0, 0, 0, 2, 0, 2, 2, 2, 2, 2, 2, 0]), (100, [234])]) (a9 := 1) d_Model_init_8 (by decide) (by decide) ac_int (Nat.le_of_ble_eq_true rfl) ⟨by funext y; simp [si, zM], by funext y; simp [si, zM]⟩ (Nat.le_of_ble_eq_true rfl) (Nat.le_of_ble_eq_true rfl) (Nat.le_of_ble_eq_true rfl) rfl rfl ?_
  refine c_putR (pc := 10) (sh8 := [(9, [4, 2, 0, 0, 0, 0, 0, 2, 2, 2, 2, 2, 0, 0, 0, 0, 0, 0, 2, 2, 2, 2, 2, 2, 0, 2, 0, 0, 0, 0, 0, 0, 0, 2, 2, 0, 2, 2, 0, 0, 0, 0, 0, 0, 0, 0, 2, 0, 2, 2, 2, 2, 2, 2, 0]), (100, [234])]) d_Model_init_10 fl_Model_7 rfl rfl (by decide) (by decide) (Nat.le_of_ble_eq_true rfl) (fun C T N h => by cases h; rfl) rfl ?_
  refine c_aload_n (pc := 13) (q := 0) d_Model_init_13 rfl rfl ?_
  refine c_iconst (pc := 14) d_Model_init_14 k_i_2 ?_
  refine c_newaZ (pc := 15) (N := 2) (sh8 := [(9, [4, 2, 0, 0, 0, 0, 0, 2, 2, 2, 2, 2, 0, 0, 0, 0, 0, 0, 2, 2, 2, 2, 2, 2, 0, 2, 0, 0, 0, 0, 0, 0, 0, 2, 2, 0, 2, 2, 0, 0, 0, 0, 0, 0, 0, 0, 2, 0, 2, 2, 2, 2, 2, 2, 0]), (100, [234]), (102, [2])]) (a9 := 2) d_Model_init_15 (by decide) (by decide) ac_boolean (Nat.le_of_ble_eq_true rfl) ⟨by funext y; simp [si, zM], by funext y; simp [si, zM]⟩ (Nat.le_of_ble_eq_true rfl) (Nat.le_of_ble_eq_true rfl) (Nat.le_of_ble_eq_true rfl) rfl rfl ?_
  refine c_putR (pc := 17) (sh8 := [(9, [4, 5, 0, 0, 0, 0, 0, 2, 2, 2, 2, 2, 0, 0, 0, 0, 0, 0, 2, 2, 2, 2, 2, 2, 0, 2, 0, 0, 0, 0, 0, 0, 0, 2, 2, 0, 2, 2, 0, 0, 0, 0, 0, 0, 0, 0, 2, 0, 2, 2, 2, 2, 2, 2, 0]), (100, [234]), (102, [2])]) d_Model_init_17 fl_Model_13 rfl rfl (by decide) (by decide) (Nat.le_of_ble_eq_true rfl) (fun C T N h => by cases h; rfl) rfl ?_
  refine c_aload_n (pc := 20) (q := 0) d_Model_init_20 rfl rfl ?_
  refine c_bipush (pc := 21) d_Model_init_21 k_b_12 ?_
  refine c_newaI (pc := 23) (N := 12) (sh8 := [(9, [4, 5, 0, 0, 0, 0, 0, 2, 2, 2, 2, 2, 0, 0, 0, 0, 0, 0, 2, 2, 2, 2, 2, 2, 0, 2, 0, 0, 0, 0, 0, 0, 0, 2, 2, 0, 2, 2, 0, 0, 0, 0, 0, 0, 0, 0, 2, 0, 2, 2, 2, 2, 2, 2, 0]), (100, [234]), (102, [2]), (100, [12])]) (a9 := 3) d_Model_init_23 (by decide) (by decide) ac_int (Nat.le_of_ble_eq_true rfl) ⟨by funext y; simp [si, zM], by funext y; simp [si, zM]⟩ (Nat.le_of_ble_eq_true rfl) (Nat.le_of_ble_eq_true rfl) (Nat.le_of_ble_eq_true rfl) rfl rfl ?_
  refine c_putR (pc := 25) (sh8 := [(9, [4, 5, 0, 0, 0, 0, 0, 6, 2, 2, 2, 2, 0, 0, 0, 0, 0, 0, 2, 2, 2, 2, 2, 2, 0, 2, 0, 0, 0, 0, 0, 0, 0, 2, 2, 0, 2, 2, 0, 0, 0, 0, 0, 0, 0, 0, 2, 0, 2, 2, 2, 2, 2, 2, 0]), (100, [234]), (102, [2]), (100, [12])]) d_Model_init_25 fl_Model_17 rfl rfl (by decide) (by decide) (Nat.le_of_ble_eq_true rfl) (fun C T N h => by cases h; rfl) rfl ?_
  refine c_aload_n (pc := 28) (q := 0) d_Model_init_28 rfl rfl ?_
  refine c_bipush (pc := 29) d_Model_init_29 k_b_16 ?_
  refine c_newaI (pc := 31) (N := 16) (sh8 := [(9, [4, 5, 0, 0, 0, 0, 0, 6, 2, 2, 2, 2, 0, 0, 0, 0, 0, 0, 2, 2, 2, 2, 2, 2, 0, 2, 0, 0, 0, 0, 0, 0, 0, 2, 2, 0, 2, 2, 0, 0, 0, 0, 0, 0, 0, 0, 2, 0, 2, 2, 2, 2, 2, 2, 0]), (100, [234]), (102, [2]), (100, [12]), (100, [16])]) (a9 := 4) d_Model_init_31 (by decide) (by decide) ac_int (Nat.le_of_ble_eq_true rfl) ⟨by funext y; simp [si, zM], by funext y; simp [si, zM]⟩ (Nat.le_of_ble_eq_true rfl) (Nat.le_of_ble_eq_true rfl) (Nat.le_of_ble_eq_true rfl) rfl rfl ?_
  refine c_putR (pc := 33) (sh8 := [(9, [4, 5, 0, 0, 0, 0, 0, 6, 7, 2, 2, 2, 0, 0, 0, 0, 0, 0, 2, 2, 2, 2, 2, 2, 0, 2, 0, 0, 0, 0, 0, 0, 0, 2, 2, 0, 2, 2, 0, 0, 0, 0, 0, 0, 0, 0, 2, 0, 2, 2, 2, 2, 2, 2, 0]), (100, [234]), (102, [2]), (100, [12]), (100, [16])]) d_Model_init_33 fl_Model_20 rfl rfl (by decide) (by decide) (Nat.le_of_ble_eq_true rfl) (fun C T N h => by cases h; rfl) rfl ?_
  refine c_aload_n (pc := 36) (q := 0) d_Model_init_36 rfl rfl ?_
  refine c_bipush (pc := 37) d_Model_init_37 k_b_8 ?_
  refine c_newaI (pc := 39) (N := 8) (sh8 := [(9, [4, 5, 0, 0, 0, 0, 0, 6, 7, 2, 2, 2, 0, 0, 0, 0, 0, 0, 2, 2, 2, 2, 2, 2, 0, 2, 0, 0, 0, 0, 0, 0, 0, 2, 2, 0, 2, 2, 0, 0, 0, 0, 0, 0, 0, 0, 2, 0, 2, 2, 2, 2, 2, 2, 0]), (100, [234]), (102, [2]), (100, [12]), (100, [16]), (100, [8])]) (a9 := 5) d_Model_init_39 (by decide) (by decide) ac_int (Nat.le_of_ble_eq_true rfl) ⟨by funext y; simp [si, zM], by funext y; simp [si, zM]⟩ (Nat.le_of_ble_eq_true rfl) (Nat.le_of_ble_eq_true rfl) (Nat.le_of_ble_eq_true rfl) rfl rfl ?_
  refine c_putR (pc := 41) (sh8 := [(9, [4, 5, 0, 0, 0, 0, 0, 6, 7, 8, 2, 2, 0, 0, 0, 0, 0, 0, 2, 2, 2, 2, 2, 2, 0, 2, 0, 0, 0, 0, 0, 0, 0, 2, 2, 0, 2, 2, 0, 0, 0, 0, 0, 0, 0, 0, 2, 0, 2, 2, 2, 2, 2, 2, 0]), (100, [234]), (102, [2]), (100, [12]), (100, [16]), (100, [8])]) d_Model_init_41 fl_Model_23 rfl rfl (by decide) (by decide) (Nat.le_of_ble_eq_true rfl) (fun C T N h => by cases h; rfl) rfl ?_
  refine c_aload_n (pc := 44) (q := 0) d_Model_init_44 rfl rfl ?_
  refine c_bipush (pc := 45) d_Model_init_45 k_b_15 ?_
  refine c_newaI (pc := 47) (N := 15) (sh8 := [(9, [4, 5, 0, 0, 0, 0, 0, 6, 7, 8, 2, 2, 0, 0, 0, 0, 0, 0, 2, 2, 2, 2, 2, 2, 0, 2, 0, 0, 0, 0, 0, 0, 0, 2, 2, 0, 2, 2, 0, 0, 0, 0, 0, 0, 0, 0, 2, 0, 2, 2, 2, 2, 2, 2, 0]), (100, [234]), (102, [2]), (100, [12]), (100, [16]), (100, [8]), (100, [15])]) (a9 := 6) d_Model_init_47 (by decide) (by decide) ac_int (Nat.le_of_ble_eq_true rfl) ⟨by funext y; simp [si, zM], by funext y; simp [si, zM]⟩ (Nat.le_of_ble_eq_true rfl) (Nat.le_of_ble_eq_true rfl) (Nat.le_of_ble_eq_true rfl) rfl rfl ?_
  refine c_putR (pc := 49) (sh8 := [(9, [4, 5, 0, 0, 0, 0, 0, 6, 7, 8, 9, 2, 0, 0, 0, 0, 0, 0, 2, 2, 2, 2, 2, 2, 0, 2, 0, 0, 0, 0, 0, 0, 0, 2, 2, 0, 2, 2, 0, 0, 0, 0, 0, 0, 0, 0, 2, 0, 2, 2, 2, 2, 2, 2, 0]), (100, [234]), (102, [2]), (100, [12]), (100, [16]), (100, [8]), (100, [15])]) d_Model_init_49 fl_Model_26 rfl rfl (by decide) (by decide) (Nat.le_of_ble_eq_true rfl) (fun C T N h => by cases h; rfl) rfl ?_
  refine c_aload_n (pc := 52) (q := 0) d_Model_init_52 rfl rfl ?_
  refine c_bipush (pc := 53) d_Model_init_53 k_b_15 ?_
  refine c_newaI (pc := 55) (N := 15) (sh8 := [(9, [4, 5, 0, 0, 0, 0, 0, 6, 7, 8, 9, 2, 0, 0, 0, 0, 0, 0, 2, 2, 2, 2, 2, 2, 0, 2, 0, 0, 0, 0, 0, 0, 0, 2, 2, 0, 2, 2, 0, 0, 0, 0, 0, 0, 0, 0, 2, 0, 2, 2, 2, 2, 2, 2, 0]), (100, [234]), (102, [2]), (100, [12]), (100, [16]), (100, [8]), (100, [15]), (100, [15])]) (a9 := 7) d_Model_init_55 (by decide) (by decide) ac_int (Nat.le_of_ble_eq_true rfl) ⟨by funext y; simp [si, zM], by funext y; simp [si, zM]⟩ (Nat.le_of_ble_eq_true rfl) (Nat.le_of_ble_eq_true rfl) (Nat.le_of_ble_eq_true rfl) rfl rfl ?_
  refine c_putR (pc := 57) (sh8 := [(9, [4, 5, 0, 0, 0, 0, 0, 6, 7, 8, 9, 10, 0, 0, 0, 0, 0, 0, 2, 2, 2, 2, 2, 2, 0, 2, 0, 0, 0, 0, 0, 0, 0, 2, 2, 0, 2, 2, 0, 0, 0, 0, 0, 0, 0, 0, 2, 0, 2, 2, 2, 2, 2, 2, 0]), (100, [234]), (102, [2]), (100, [12]), (100, [16]), (100, [8]), (100, [15]), (100, [15])]) d_Model_init_57 fl_Model_29 rfl rfl (by decide) (by decide) (Nat.le_of_ble_eq_true rfl) (fun C T N h => by cases h; rfl) rfl ?_
  refine c_aload_n (pc := 60) (q := 0) d_Model_init_60 rfl rfl ?_
  refine c_bipush (pc := 61) d_Model_init_61 k_b_12 ?_
  refine c_newaI (pc := 63) (N := 12) (sh8 := [(9, [4, 5, 0, 0, 0, 0, 0, 6, 7, 8, 9, 10, 0, 0, 0, 0, 0, 0, 2, 2, 2, 2, 2, 2, 0, 2, 0, 0, 0, 0, 0, 0, 0, 2, 2, 0, 2, 2, 0, 0, 0, 0, 0, 0, 0, 0, 2, 0, 2, 2, 2, 2, 2, 2, 0]), (100, [234]), (102, [2]), (100, [12]), (100, [16]), (100, [8]), (100, [15]), (100, [15]), (100, [12])]) (a9 := 8) d_Model_init_63 (by decide) (by decide) ac_int (Nat.le_of_ble_eq_true rfl) ⟨by funext y; simp [si, zM], by funext y; simp [si, zM]⟩ (Nat.le_of_ble_eq_true rfl) (Nat.le_of_ble_eq_true rfl) (Nat.le_of_ble_eq_true rfl) rfl rfl ?_
  refine c_putR (pc := 65) (sh8 := [(9, [4, 5, 0, 0, 0, 0, 0, 6, 7, 8, 9, 10, 0, 0, 0, 0, 0, 0, 11, 2, 2, 2, 2, 2, 0, 2, 0, 0, 0, 0, 0, 0, 0, 2, 2, 0, 2, 2, 0, 0, 0, 0, 0, 0, 0, 0, 2, 0, 2, 2, 2, 2, 2, 2, 0]), (100, [234]), (102, [2]), (100, [12]), (100, [16]), (100, [8]), (100, [15]), (100, [15]), (100, [12])]) d_Model_init_65 fl_Model_32 rfl rfl (by decide) (by decide) (Nat.le_of_ble_eq_true rfl) (fun C T N h => by cases h; rfl) rfl ?_
  refine c_aload_n (pc := 68) (q := 0) d_Model_init_68 rfl rfl ?_
  refine c_bipush (pc := 69) d_Model_init_69 k_b_16 ?_
  refine c_newaI (pc := 71) (N := 16) (sh8 := [(9, [4, 5, 0, 0, 0, 0, 0, 6, 7, 8, 9, 10, 0, 0, 0, 0, 0, 0, 11, 2, 2, 2, 2, 2, 0, 2, 0, 0, 0, 0, 0, 0, 0, 2, 2, 0, 2, 2, 0, 0, 0, 0, 0, 0, 0, 0, 2, 0, 2, 2, 2, 2, 2, 2, 0]), (100, [234]), (102, [2]), (100, [12]), (100, [16]), (100, [8]), (100, [15]), (100, [15]), (100, [12]), (100, [16])]) (a9 := 9) d_Model_init_71 (by decide) (by decide) ac_int (Nat.le_of_ble_eq_true rfl) ⟨by funext y; simp [si, zM], by funext y; simp [si, zM]⟩ (Nat.le_of_ble_eq_true rfl) (Nat.le_of_ble_eq_true rfl) (Nat.le_of_ble_eq_true rfl) rfl rfl ?_
  refine c_putR (pc := 73) (sh8 := [(9, [4, 5, 0, 0, 0, 0, 0, 6, 7, 8, 9, 10, 0, 0, 0, 0, 0, 0, 11, 12, 2, 2, 2, 2, 0, 2, 0, 0, 0, 0, 0, 0, 0, 2, 2, 0, 2, 2, 0, 0, 0, 0, 0, 0, 0, 0, 2, 0, 2, 2, 2, 2, 2, 2, 0]), (100, [234]), (102, [2]), (100, [12]), (100, [16]), (100, [8]), (100, [15]), (100, [15]), (100, [12]), (100, [16])]) d_Model_init_73 fl_Model_35 rfl rfl (by decide) (by decide) (Nat.le_of_ble_eq_true rfl) (fun C T N h => by cases h; rfl) rfl ?_
  refine c_aload_n (pc := 76) (q := 0) d_Model_init_76 rfl rfl ?_
  refine c_bipush (pc := 77) d_Model_init_77 k_b_8 ?_
  refine c_newaI (pc := 79) (N := 8) (sh8 := [(9, [4, 5, 0, 0, 0, 0, 0, 6, 7, 8, 9, 10, 0, 0, 0, 0, 0, 0, 11, 12, 2, 2, 2, 2, 0, 2, 0, 0, 0, 0, 0, 0, 0, 2, 2, 0, 2, 2, 0, 0, 0, 0, 0, 0, 0, 0, 2, 0, 2, 2, 2, 2, 2, 2, 0]), (100, [234]), (102, [2]), (100, [12]), (100, [16]), (100, [8]), (100, [15]), (100, [15]), (100, [12]), (100, [16]), (100, [8])]) (a9 := 10) d_Model_init_79 (by decide) (by decide) ac_int (Nat.le_of_ble_eq_true rfl) ⟨by funext y; simp [si, zM], by funext y; simp [si, zM]⟩ (Nat.le_of_ble_eq_true rfl) (Nat.le_of_ble_eq_true rfl) (Nat.le_of_ble_eq_true rfl) rfl rfl ?_
  refine c_putR (pc := 81) (sh8 := [(9, [4, 5, 0, 0, 0, 0, 0, 6, 7, 8, 9, 10, 0, 0, 0, 0, 0, 0, 11, 12, 13, 2, 2, 2, 0, 2, 0, 0, 0, 0, 0, 0, 0, 2, 2, 0, 2, 2, 0, 0, 0, 0, 0, 0, 0, 0, 2, 0, 2, 2, 2, 2, 2, 2, 0]), (100, [234]), (102, [2]), (100, [12]), (100, [16]), (100, [8]), (100, [15]), (100, [15]), (100, [12]), (100, [16]), (100, [8])]) d_Model_init_81 fl_Model_38 rfl rfl (by decide) (by decide) (Nat.le_of_ble_eq_true rfl) (fun C T N h => by cases h; rfl) rfl ?_
  refine c_aload_n (pc := 84) (q := 0) d_Model_init_84 rfl rfl ?_
  refine c_bipush (pc := 85) d_Model_init_85 k_b_60 ?_
  refine c_newaI (pc := 87) (N := 60) (sh8 := [(9, [4, 5, 0, 0, 0, 0, 0, 6, 7, 8, 9, 10, 0, 0, 0, 0, 0, 0, 11, 12, 13, 2, 2, 2, 0, 2, 0, 0, 0, 0, 0, 0, 0, 2, 2, 0, 2, 2, 0, 0, 0, 0, 0, 0, 0, 0, 2, 0, 2, 2, 2, 2, 2, 2, 0]), (100, [234]), (102, [2]), (100, [12]), (100, [16]), (100, [8]), (100, [15]), (100, [15]), (100, [12]), (100, [16]), (100, [8]), (100, [60])]) (a9 := 11) d_Model_init_87 (by decide) (by decide) ac_int (Nat.le_of_ble_eq_true rfl) ⟨by funext y; simp [si, zM], by funext y; simp [si, zM]⟩ (Nat.le_of_ble_eq_true rfl) (Nat.le_of_ble_eq_true rfl) (Nat.le_of_ble_eq_true rfl) rfl rfl ?_
  refine c_putR (pc := 89) (sh8 := [(9, [4, 5, 0, 0, 0, 0, 0, 6, 7, 8, 9, 10, 0, 0, 0, 0, 0, 0, 11, 12, 13, 14, 2, 2, 0, 2, 0, 0, 0, 0, 0, 0, 0, 2, 2, 0, 2, 2, 0, 0, 0, 0, 0, 0, 0, 0, 2, 0, 2, 2, 2, 2, 2, 2, 0]), (100, [234]), (102, [2]), (100, [12]), (100, [16]), (100, [8]), (100, [15]), (100, [15]), (100, [12]), (100, [16]), (100, [8]), (100, [60])]) d_Model_init_89 fl_Model_41 rfl rfl (by decide) (by decide) (Nat.le_of_ble_eq_true rfl) (fun C T N h => by cases h; rfl) rfl ?_
  refine c_aload_n (pc := 92) (q := 0) d_Model_init_92 rfl rfl ?_
  refine c_bipush (pc := 93) d_Model_init_93 k_b_6 ?_
  refine c_newaZ (pc := 95) (N := 6) (sh8 := [(9, [4, 5, 0, 0, 0, 0, 0, 6, 7, 8, 9, 10, 0, 0, 0, 0, 0, 0, 11, 12, 13, 14, 2, 2, 0, 2, 0, 0, 0, 0, 0, 0, 0, 2, 2, 0, 2, 2, 0, 0, 0, 0, 0, 0, 0, 0, 2, 0, 2, 2, 2, 2, 2, 2, 0]), (100, [234]), (102, [2]), (100, [12]), (100, [16]), (100, [8]), (100, [15]), (100, [15]), (100, [12]), (100, [16]), (100, [8]), (100, [60]), (102, [6])]) (a9 := 12) d_Model_init_95 (by decide) (by decide) ac_boolean (Nat.le_of_ble_eq_true rfl) ⟨by funext y; simp [si, zM], by funext y; simp [si, zM]⟩ (Nat.le_of_ble_eq_true rfl) (Nat.le_of_ble_eq_true rfl) (Nat.le_of_ble_eq_true rfl) rfl rfl ?_
  refine c_putR (pc := 97) (sh8 := [(9, [4, 5, 0, 0, 0, 0, 0, 6, 7, 8, 9, 10, 0, 0, 0, 0, 0, 0, 11, 12, 13, 14, 15, 2, 0, 2, 0, 0, 0, 0, 0, 0, 0, 2, 2, 0, 2, 2, 0, 0, 0, 0, 0, 0, 0, 0, 2, 0, 2, 2, 2, 2, 2, 2, 0]), (100, [234]), (102, [2]), (100, [12]), (100, [16]), (100, [8]), (100, [15]), (100, [15]), (100, [12]), (100, [16]), (100, [8]), (100, [60]), (102, [6])]) d_Model_init_97 fl_Model_44 rfl rfl (by decide) (by decide) (Nat.le_of_ble_eq_true rfl) (fun C T N h => by cases h; rfl) rfl ?_
  refine c_aload_n (pc := 100) (q := 0) d_Model_init_100 rfl rfl ?_
  refine c_bipush (pc := 101) d_Model_init_101 k_b_6 ?_
  refine c_newaZ (pc := 103) (N := 6) (sh8 := [(9, [4, 5, 0, 0, 0, 0, 0, 6, 7, 8, 9, 10, 0, 0, 0, 0, 0, 0, 11, 12, 13, 14, 15, 2, 0, 2, 0, 0, 0, 0, 0, 0, 0, 2, 2, 0, 2, 2, 0, 0, 0, 0, 0, 0, 0, 0, 2, 0, 2, 2, 2, 2, 2, 2, 0]), (100, [234]), (102, [2]), (100, [12]), (100, [16]), (100, [8]), (100, [15]), (100, [15]), (100, [12]), (100, [16]), (100, [8]), (100, [60]), (102, [6]), (102, [6])]) (a9 := 13) d_Model_init_103 (by decide) (by decide) ac_boolean (Nat.le_of_ble_eq_true rfl) ⟨by funext y; simp [si, zM], by funext y; simp [si, zM]⟩ (Nat.le_of_ble_eq_true rfl) (Nat.le_of_ble_eq_true rfl) (Nat.le_of_ble_eq_true rfl) rfl rfl ?_
  refine c_putR (pc := 105) (sh8 := [(9, [4, 5, 0, 0, 0, 0, 0, 6, 7, 8, 9, 10, 0, 0, 0, 0, 0, 0, 11, 12, 13, 14, 15, 16, 0, 2, 0, 0, 0, 0, 0, 0, 0, 2, 2, 0, 2, 2, 0, 0, 0, 0, 0, 0, 0, 0, 2, 0, 2, 2, 2, 2, 2, 2, 0]), (100, [234]), (102, [2]), (100, [12]), (100, [16]), (100, [8]), (100, [15]), (100, [15]), (100, [12]), (100, [16]), (100, [8]), (100, [60]), (102, [6]), (102, [6])]) d_Model_init_105 fl_Model_47 rfl rfl (by decide) (by decide) (Nat.le_of_ble_eq_true rfl) (fun C T N h => by cases h; rfl) rfl ?_
  refine c_aload_n (pc := 108) (q := 0) d_Model_init_108 rfl rfl ?_
  refine c_sipush (pc := 109) d_Model_init_109 k_s_320 ?_
  refine c_newaI (pc := 112) (N := 320) (sh8 := [(9, [4, 5, 0, 0, 0, 0, 0, 6, 7, 8, 9, 10, 0, 0, 0, 0, 0, 0, 11, 12, 13, 14, 15, 16, 0, 2, 0, 0, 0, 0, 0, 0, 0, 2, 2, 0, 2, 2, 0, 0, 0, 0, 0, 0, 0, 0, 2, 0, 2, 2, 2, 2, 2, 2, 0]), (100, [234]), (102, [2]), (100, [12]), (100, [16]), (100, [8]), (100, [15]), (100, [15]), (100, [12]), (100, [16]), (100, [8]), (100, [60]), (102, [6]), (102, [6]), (100, [320])]) (a9 := 14) d_Model_init_112 (by decide) (by decide) ac_int (Nat.le_of_ble_eq_true rfl) ⟨by funext y; simp [si, zM], by funext y; simp [si, zM]⟩ (Nat.le_of_ble_eq_true rfl) (Nat.le_of_ble_eq_true rfl) (Nat.le_of_ble_eq_true rfl) rfl rfl ?_
  refine c_putR (pc := 114) (sh8 := [(9, [4, 5, 0, 0, 0, 0, 0, 6, 7, 8, 9, 10, 0, 0, 0, 0, 0, 0, 11, 12, 13, 14, 15, 16, 0, 17, 0, 0, 0, 0, 0, 0, 0, 2, 2, 0, 2, 2, 0, 0, 0, 0, 0, 0, 0, 0, 2, 0, 2, 2, 2, 2, 2, 2, 0]), (100, [234]), (102, [2]), (100, [12]), (100, [16]), (100, [8]), (100, [15]), (100, [15]), (100, [12]), (100, [16]), (100, [8]), (100, [60]), (102, [6]), (102, [6]), (100, [320])]) d_Model_init_114 fl_Model_50 rfl rfl (by decide) (by decide) (Nat.le_of_ble_eq_true rfl) (fun C T N h => by cases h; rfl) rfl ?_
  refine c_aload_n (pc := 117) (q := 0) d_Model_init_117 rfl rfl ?_
  refine c_sipush (pc := 118) d_Model_init_118 k_s_600 ?_
  refine c_newaI (pc := 121) (N := 600) (sh8 := [(9, [4, 5, 0, 0, 0, 0, 0, 6, 7, 8, 9, 10, 0, 0, 0, 0, 0, 0, 11, 12, 13, 14, 15, 16, 0, 17, 0, 0, 0, 0, 0, 0, 0, 2, 2, 0, 2, 2, 0, 0, 0, 0, 0, 0, 0, 0, 2, 0, 2, 2, 2, 2, 2, 2, 0]), (100, [234]), (102, [2]), (100, [12]), (100, [16]), (100, [8]), (100, [15]), (100, [15]), (100, [12]), (100, [16]), (100, [8]), (100, [60]), (102, [6]), (102, [6]), (100, [320]), (100, [600])]) (a9 := 15) d_Model_init_121 (by decide) (by decide) ac_int (Nat.le_of_ble_eq_true rfl) ⟨by funext y; simp [si, zM], by funext y; simp [si, zM]⟩ (Nat.le_of_ble_eq_true rfl) (Nat.le_of_ble_eq_true rfl) (Nat.le_of_ble_eq_true rfl) rfl rfl ?_
  refine c_putR (pc := 123) (sh8 := [(9, [4, 5, 0, 0, 0, 0, 0, 6, 7, 8, 9, 10, 0, 0, 0, 0, 0, 0, 11, 12, 13, 14, 15, 16, 0, 17, 0, 0, 0, 0, 0, 0, 0, 18, 2, 0, 2, 2, 0, 0, 0, 0, 0, 0, 0, 0, 2, 0, 2, 2, 2, 2, 2, 2, 0]), (100, [234]), (102, [2]), (100, [12]), (100, [16]), (100, [8]), (100, [15]), (100, [15]), (100, [12]), (100, [16]), (100, [8]), (100, [60]), (102, [6]), (102, [6]), (100, [320]), (100, [600])]) d_Model_init_123 fl_Model_53 rfl rfl (by decide) (by decide) (Nat.le_of_ble_eq_true rfl) (fun C T N h => by cases h; rfl) rfl ?_
  refine c_aload_n (pc := 126) (q := 0) d_Model_init_126 rfl rfl ?_
  refine c_bipush (pc := 127) d_Model_init_127 k_b_18 ?_
  refine c_newaI (pc := 129) (N := 18) (sh8 := [(9, [4, 5, 0, 0, 0, 0, 0, 6, 7, 8, 9, 10, 0, 0, 0, 0, 0, 0, 11, 12, 13, 14, 15, 16, 0, 17, 0, 0, 0, 0, 0, 0, 0, 18, 2, 0, 2, 2, 0, 0, 0, 0, 0, 0, 0, 0, 2, 0, 2, 2, 2, 2, 2, 2, 0]), (100, [234]), (102, [2]), (100, [12]), (100, [16]), (100, [8]), (100, [15]), (100, [15]), (100, [12]), (100, [16]), (100, [8]), (100, [60]), (102, [6]), (102, [6]), (100, [320]), (100, [600]), (100, [18])]) (a9 := 16) d_Model_init_129 (by decide) (by decide) ac_int (Nat.le_of_ble_eq_true rfl) ⟨by funext y; simp [si, zM], by funext y; simp [si, zM]⟩ (Nat.le_of_ble_eq_true rfl) (Nat.le_of_ble_eq_true rfl) (Nat.le_of_ble_eq_true rfl) rfl rfl ?_
  refine c_putR (pc := 131) (sh8 := [(9, [4, 5, 0, 0, 0, 0, 0, 6, 7, 8, 9, 10, 0, 0, 0, 0, 0, 0, 11, 12, 13, 14, 15, 16, 0, 17, 0, 0, 0, 0, 0, 0, 0, 18, 19, 0, 2, 2, 0, 0, 0, 0, 0, 0, 0, 0, 2, 0, 2, 2, 2, 2, 2, 2, 0]), (100, [234]), (102, [2]), (100, [12]), (100, [16]), (100, [8]), (100, [15]), (100, [15]), (100, [12]), (100, [16]), (100, [8]), (100, [60]), (102, [6]), (102, [6]), (100, [320]), (100, [600]), (100, [18])]) d_Model_init_131 fl_Model_56 rfl rfl (by decide) (by decide) (Nat.le_of_ble_eq_true rfl) (fun C T N h => by cases h; rfl) rfl ?_
  refine c_aload_n (pc := 134) (q := 0) d_Model_init_134 rfl rfl ?_
  refine c_iconst (pc := 135) d_Model_init_135 k_i_4 ?_
  refine c_newaI (pc := 136) (N := 4) (sh8 := [(9, [4, 5, 0, 0, 0, 0, 0, 6, 7, 8, 9, 10, 0, 0, 0, 0, 0, 0, 11, 12, 13, 14, 15, 16, 0, 17, 0, 0, 0, 0, 0, 0, 0, 18, 19, 0, 2, 2, 0, 0, 0, 0, 0, 0, 0, 0, 2, 0, 2, 2, 2, 2, 2, 2, 0]), (100, [234]), (102, [2]), (100, [12]), (100, [16]), (100, [8]), (100, [15]), (100, [15]), (100, [12]), (100, [16]), (100, [8]), (100, [60]), (102, [6]), (102, [6]), (100, [320]), (100, [600]), (100, [18]), (100, [4])]) (a9 := 17) d_Model_init_136 (by decide) (by decide) ac_int (Nat.le_of_ble_eq_true rfl) ⟨by funext y; simp [si, zM], by funext y; simp [si, zM]⟩ (Nat.le_of_ble_eq_true rfl) (Nat.le_of_ble_eq_true rfl) (Nat.le_of_ble_eq_true rfl) rfl rfl ?_
  refine c_putR (pc := 138) (sh8 := [(9, [4, 5, 0, 0, 0, 0, 0, 6, 7, 8, 9, 10, 0, 0, 0, 0, 0, 0, 11, 12, 13, 14, 15, 16, 0, 17, 0, 0, 0, 0, 0, 0, 0, 18, 19, 0, 20, 2, 0, 0, 0, 0, 0, 0, 0, 0, 2, 0, 2, 2, 2, 2, 2, 2, 0]), (100, [234]), (102, [2]), (100, [12]), (100, [16]), (100, [8]), (100, [15]), (100, [15]), (100, [12]), (100, [16]), (100, [8]), (100, [60]), (102, [6]), (102, [6]), (100, [320]), (100, [600]), (100, [18]), (100, [4])]) d_Model_init_138 fl_Model_59 rfl rfl (by decide) (by decide) (Nat.le_of_ble_eq_true rfl) (fun C T N h => by cases h; rfl) rfl ?_
  refine c_aload_n (pc := 141) (q := 0) d_Model_init_141 rfl rfl ?_
  refine c_iconst (pc := 142) d_Model_init_142 k_i_4 ?_
  refine c_newaI (pc := 143) (N := 4) (sh8 := [(9, [4, 5, 0, 0, 0, 0, 0, 6, 7, 8, 9, 10, 0, 0, 0, 0, 0, 0, 11, 12, 13, 14, 15, 16, 0, 17, 0, 0, 0, 0, 0, 0, 0, 18, 19, 0, 20, 2, 0, 0, 0, 0, 0, 0, 0, 0, 2, 0, 2, 2, 2, 2, 2, 2, 0]), (100, [234]), (102, [2]), (100, [12]), (100, [16]), (100, [8]), (100, [15]), (100, [15]), (100, [12]), (100, [16]), (100, [8]), (100, [60]), (102, [6]), (102, [6]), (100, [320]), (100, [600]), (100, [18]), (100, [4]), (100, [4])]) (a9 := 18) d_Model_init_143 (by decide) (by decide) ac_int (Nat.le_of_ble_eq_true rfl) ⟨by funext y; simp [si, zM], by funext y; simp [si, zM]⟩ (Nat.le_of_ble_eq_true rfl) (Nat.le_of_ble_eq_true rfl) (Nat.le_of_ble_eq_true rfl) rfl rfl ?_
  refine c_putR (pc := 145) (sh8 := [(9, [4, 5, 0, 0, 0, 0, 0, 6, 7, 8, 9, 10, 0, 0, 0, 0, 0, 0, 11, 12, 13, 14, 15, 16, 0, 17, 0, 0, 0, 0, 0, 0, 0, 18, 19, 0, 20, 21, 0, 0, 0, 0, 0, 0, 0, 0, 2, 0, 2, 2, 2, 2, 2, 2, 0]), (100, [234]), (102, [2]), (100, [12]), (100, [16]), (100, [8]), (100, [15]), (100, [15]), (100, [12]), (100, [16]), (100, [8]), (100, [60]), (102, [6]), (102, [6]), (100, [320]), (100, [600]), (100, [18]), (100, [4]), (100, [4])]) d_Model_init_145 fl_Model_62 rfl rfl (by decide) (by decide) (Nat.le_of_ble_eq_true rfl) (fun C T N h => by cases h; rfl) rfl ?_
  refine c_aload_n (pc := 148) (q := 0) d_Model_init_148 rfl rfl ?_
  refine c_bipush (pc := 149) d_Model_init_149 k_b_80 ?_
  refine c_newaI (pc := 151) (N := 80) (sh8 := [(9, [4, 5, 0, 0, 0, 0, 0, 6, 7, 8, 9, 10, 0, 0, 0, 0, 0, 0, 11, 12, 13, 14, 15, 16, 0, 17, 0, 0, 0, 0, 0, 0, 0, 18, 19, 0, 20, 21, 0, 0, 0, 0, 0, 0, 0, 0, 2, 0, 2, 2, 2, 2, 2, 2, 0]), (100, [234]), (102, [2]), (100, [12]), (100, [16]), (100, [8]), (100, [15]), (100, [15]), (100, [12]), (100, [16]), (100, [8]), (100, [60]), (102, [6]), (102, [6]), (100, [320]), (100, [600]), (100, [18]), (100, [4]), (100, [4]), (100, [80])]) (a9 := 19) d_Model_init_151 (by decide) (by decide) ac_int (Nat.le_of_ble_eq_true rfl) ⟨by funext y; simp [si, zM], by funext y; simp [si, zM]⟩ (Nat.le_of_ble_eq_true rfl) (Nat.le_of_ble_eq_true rfl) (Nat.le_of_ble_eq_true rfl) rfl rfl ?_
  refine c_putR (pc := 153) (sh8 := [(9, [4, 5, 0, 0, 0, 0, 0, 6, 7, 8, 9, 10, 0, 0, 0, 0, 0, 0, 11, 12, 13, 14, 15, 16, 0, 17, 0, 0, 0, 0, 0, 0, 0, 18, 19, 0, 20, 21, 0, 0, 0, 0, 0, 0, 0, 0, 22, 0, 2, 2, 2, 2, 2, 2, 0]), (100, [234]), (102, [2]), (100, [12]), (100, [16]), (100, [8]), (100, [15]), (100, [15]), (100, [12]), (100, [16]), (100, [8]), (100, [60]), (102, [6]), (102, [6]), (100, [320]), (100, [600]), (100, [18]), (100, [4]), (100, [4]), (100, [80])]) d_Model_init_153 fl_Model_65 rfl rfl (by decide) (by decide) (Nat.le_of_ble_eq_true rfl) (fun C T N h => by cases h; rfl) rfl ?_
  refine c_aload_n (pc := 156) (q := 0) d_Model_init_156 rfl rfl ?_
  refine c_sipush (pc := 157) d_Model_init_157 k_s_1206 ?_
  refine c_newaL (pc := 160) (N := 1206) (sh8 := [(9, [4, 5, 0, 0, 0, 0, 0, 6, 7, 8, 9, 10, 0, 0, 0, 0, 0, 0, 11, 12, 13, 14, 15, 16, 0, 17, 0, 0, 0, 0, 0, 0, 0, 18, 19, 0, 20, 21, 0, 0, 0, 0, 0, 0, 0, 0, 22, 0, 2, 2, 2, 2, 2, 2, 0]), (100, [234]), (102, [2]), (100, [12]), (100, [16]), (100, [8]), (100, [15]), (100, [15]), (100, [12]), (100, [16]), (100, [8]), (100, [60]), (102, [6]), (102, [6]), (100, [320]), (100, [600]), (100, [18]), (100, [4]), (100, [4]), (100, [80]), (103, [1206])]) (a9 := 20) d_Model_init_160 (by decide) (by decide) ac_long (Nat.le_of_ble_eq_true rfl) ⟨by funext y; simp [si, zM], by funext y; simp [si, zM]⟩ (Nat.le_of_ble_eq_true rfl) (Nat.le_of_ble_eq_true rfl) (Nat.le_of_ble_eq_true rfl) rfl rfl ?_
  refine c_putR (pc := 162) (sh8 := [(9, [4, 5, 0, 0, 0, 0, 0, 6, 7, 8, 9, 10, 0, 0, 0, 0, 0, 0, 11, 12, 13, 14, 15, 16, 0, 17, 0, 0, 0, 0, 0, 0, 0, 18, 19, 0, 20, 21, 0, 0, 0, 0, 0, 0, 0, 0, 22, 0, 23, 2, 2, 2, 2, 2, 0]), (100, [234]), (102, [2]), (100, [12]), (100, [16]), (100, [8]), (100, [15]), (100, [15]), (100, [12]), (100, [16]), (100, [8]), (100, [60]), (102, [6]), (102, [6]), (100, [320]), (100, [600]), (100, [18]), (100, [4]), (100, [4]), (100, [80]), (103, [1206])]) d_Model_init_162 fl_Model_68 rfl rfl (by decide) (by decide) (Nat.le_of_ble_eq_true rfl) (fun C T N h => by cases h; rfl) rfl ?_
  refine c_aload_n (pc := 165) (q := 0) d_Model_init_165 rfl rfl ?_
  refine c_bipush (pc := 166) d_Model_init_166 k_b_6 ?_
  refine c_newaI (pc := 168) (N := 6) (sh8 := [(9, [4, 5, 0, 0, 0, 0, 0, 6, 7, 8, 9, 10, 0, 0, 0, 0, 0, 0, 11, 12, 13, 14, 15, 16, 0, 17, 0, 0, 0, 0, 0, 0, 0, 18, 19, 0, 20, 21, 0, 0, 0, 0, 0, 0, 0, 0, 22, 0, 23, 2, 2, 2, 2, 2, 0]), (100, [234]), (102, [2]), (100, [12]), (100, [16]), (100, [8]), (100, [15]), (100, [15]), (100, [12]), (100, [16]), (100, [8]), (100, [60]), (102, [6]), (102, [6]), (100, [320]), (100, [600]), (100, [18]), (100, [4]), (100, [4]), (100, [80]), (103, [1206]), (100, [6])]) (a9 := 21) d_Model_init_168 (by decide) (by decide) ac_int (Nat.le_of_ble_eq_true rfl) ⟨by funext y; simp [si, zM], by funext y; simp [si, zM]⟩ (Nat.le_of_ble_eq_true rfl) (Nat.le_of_ble_eq_true rfl) (Nat.le_of_ble_eq_true rfl) rfl rfl ?_
  refine c_putR (pc := 170) (sh8 := [(9, [4, 5, 0, 0, 0, 0, 0, 6, 7, 8, 9, 10, 0, 0, 0, 0, 0, 0, 11, 12, 13, 14, 15, 16, 0, 17, 0, 0, 0, 0, 0, 0, 0, 18, 19, 0, 20, 21, 0, 0, 0, 0, 0, 0, 0, 0, 22, 0, 23, 24, 2, 2, 2, 2, 0]), (100, [234]), (102, [2]), (100, [12]), (100, [16]), (100, [8]), (100, [15]), (100, [15]), (100, [12]), (100, [16]), (100, [8]), (100, [60]), (102, [6]), (102, [6]), (100, [320]), (100, [600]), (100, [18]), (100, [4]), (100, [4]), (100, [80]), (103, [1206]), (100, [6])]) d_Model_init_170 fl_Model_72 rfl rfl (by decide) (by decide) (Nat.le_of_ble_eq_true rfl) (fun C T N h => by cases h; rfl) rfl ?_
  refine c_aload_n (pc := 173) (q := 0) d_Model_init_173 rfl rfl ?_
  refine c_bipush (pc := 174) d_Model_init_174 k_b_6 ?_
  refine c_newaI (pc := 176) (N := 6) (sh8 := [(9, [4, 5, 0, 0, 0, 0, 0, 6, 7, 8, 9, 10, 0, 0, 0, 0, 0, 0, 11, 12, 13, 14, 15, 16, 0, 17, 0, 0, 0, 0, 0, 0, 0, 18, 19, 0, 20, 21, 0, 0, 0, 0, 0, 0, 0, 0, 22, 0, 23, 24, 2, 2, 2, 2, 0]), (100, [234]), (102, [2]), (100, [12]), (100, [16]), (100, [8]), (100, [15]), (100, [15]), (100, [12]), (100, [16]), (100, [8]), (100, [60]), (102, [6]), (102, [6]), (100, [320]), (100, [600]), (100, [18]), (100, [4]), (100, [4]), (100, [80]), (103, [1206]), (100, [6]), (100, [6])]) (a9 := 22) d_Model_init_176 (by decide) (by decide) ac_int (Nat.le_of_ble_eq_true rfl) ⟨by funext y; simp [si, zM], by funext y; simp [si, zM]⟩ (Nat.le_of_ble_eq_true rfl) (Nat.le_of_ble_eq_true rfl) (Nat.le_of_ble_eq_true rfl) rfl rfl ?_
  refine c_putR (pc := 178) (sh8 := [(9, [4, 5, 0, 0, 0, 0, 0, 6, 7, 8, 9, 10, 0, 0, 0, 0, 0, 0, 11, 12, 13, 14, 15, 16, 0, 17, 0, 0, 0, 0, 0, 0, 0, 18, 19, 0, 20, 21, 0, 0, 0, 0, 0, 0, 0, 0, 22, 0, 23, 24, 25, 2, 2, 2, 0]), (100, [234]), (102, [2]), (100, [12]), (100, [16]), (100, [8]), (100, [15]), (100, [15]), (100, [12]), (100, [16]), (100, [8]), (100, [60]), (102, [6]), (102, [6]), (100, [320]), (100, [600]), (100, [18]), (100, [4]), (100, [4]), (100, [80]), (103, [1206]), (100, [6]), (100, [6])]) d_Model_init_178 fl_Model_75 rfl rfl (by decide) (by decide) (Nat.le_of_ble_eq_true rfl) (fun C T N h => by cases h; rfl) rfl ?_
  refine c_aload_n (pc := 181) (q := 0) d_Model_init_181 rfl rfl ?_
  refine c_iconst (pc := 182) d_Model_init_182 k_i_4 ?_
  refine c_newaI (pc := 183) (N := 4) (sh8 := [(9, [4, 5, 0, 0, 0, 0, 0, 6, 7, 8, 9, 10, 0, 0, 0, 0, 0, 0, 11, 12, 13, 14, 15, 16, 0, 17, 0, 0, 0, 0, 0, 0, 0, 18, 19, 0, 20, 21, 0, 0, 0, 0, 0, 0, 0, 0, 22, 0, 23, 24, 25, 2, 2, 2, 0]), (100, [234]), (102, [2]), (100, [12]), (100, [16]), (100, [8]), (100, [15]), (100, [15]), (100, [12]), (100, [16]), (100, [8]), (100, [60]), (102, [6]), (102, [6]), (100, [320]), (100, [600]), (100, [18]), (100, [4]), (100, [4]), (100, [80]), (103, [1206]), (100, [6]), (100, [6]), (100, [4])]) (a9 := 23) d_Model_init_183 (by decide) (by decide) ac_int (Nat.le_of_ble_eq_true rfl) ⟨by funext y; simp [si, zM], by funext y; simp [si, zM]⟩ (Nat.le_of_ble_eq_true rfl) (Nat.le_of_ble_eq_true rfl) (Nat.le_of_ble_eq_true rfl) rfl rfl ?_
  refine c_putR (pc := 185) (sh8 := [(9, [4, 5, 0, 0, 0, 0, 0, 6, 7, 8, 9, 10, 0, 0, 0, 0, 0, 0, 11, 12, 13, 14, 15, 16, 0, 17, 0, 0, 0, 0, 0, 0, 0, 18, 19, 0, 20, 21, 0, 0, 0, 0, 0, 0, 0, 0, 22, 0, 23, 24, 25, 26, 2, 2, 0]), (100, [234]), (102, [2]), (100, [12]), (100, [16]), (100, [8]), (100, [15]), (100, [15]), (100, [12]), (100, [16]), (100, [8]), (100, [60]), (102, [6]), (102, [6]), (100, [320]), (100, [600]), (100, [18]), (100, [4]), (100, [4]), (100, [80]), (103, [1206]), (100, [6]), (100, [6]), (100, [4])]) d_Model_init_185 fl_Model_78 rfl rfl (by decide) (by decide) (Nat.le_of_ble_eq_true rfl) (fun C T N h => by cases h; rfl) rfl ?_
  refine c_aload_n (pc := 188) (q := 0) d_Model_init_188 rfl rfl ?_
  refine c_iconst (pc := 189) d_Model_init_189 k_i_4 ?_
  refine c_newaI (pc := 190) (N := 4) (sh8 := [(9, [4, 5, 0, 0, 0, 0, 0, 6, 7, 8, 9, 10, 0, 0, 0, 0, 0, 0, 11, 12, 13, 14, 15, 16, 0, 17, 0, 0, 0, 0, 0, 0, 0, 18, 19, 0, 20, 21, 0, 0, 0, 0, 0, 0, 0, 0, 22, 0, 23, 24, 25, 26, 2, 2, 0]), (100, [234]), (102, [2]), (100, [12]), (100, [16]), (100, [8]), (100, [15]), (100, [15]), (100, [12]), (100, [16]), (100, [8]), (100, [60]), (102, [6]), (102, [6]), (100, [320]), (100, [600]), (100, [18]), (100, [4]), (100, [4]), (100, [80]), (103, [1206]), (100, [6]), (100, [6]), (100, [4]), (100, [4])]) (a9 := 24) d_Model_init_190 (by decide) (by decide) ac_int (Nat.le_of_ble_eq_true rfl) ⟨by funext y; simp [si, zM], by funext y; simp [si, zM]⟩ (Nat.le_of_ble_eq_true rfl) (Nat.le_of_ble_eq_true rfl) (Nat.le_of_ble_eq_true rfl) rfl rfl ?_
  refine c_putR (pc := 192) (sh8 := [(9, [4, 5, 0, 0, 0, 0, 0, 6, 7, 8, 9, 10, 0, 0, 0, 0, 0, 0, 11, 12, 13, 14, 15, 16, 0, 17, 0, 0, 0, 0, 0, 0, 0, 18, 19, 0, 20, 21, 0, 0, 0, 0, 0, 0, 0, 0, 22, 0, 23, 24, 25, 26, 27, 2, 0]), (100, [234]), (102, [2]), (100, [12]), (100, [16]), (100, [8]), (100, [15]), (100, [15]), (100, [12]), (100, [16]), (100, [8]), (100, [60]), (102, [6]), (102, [6]), (100, [320]), (100, [600]), (100, [18]), (100, [4]), (100, [4]), (100, [80]), (103, [1206]), (100, [6]), (100, [6]), (100, [4]), (100, [4])]) d_Model_init_192 fl_Model_81 rfl rfl (by decide) (by decide) (Nat.le_of_ble_eq_true rfl) (fun C T N h => by cases h; rfl) rfl ?_
  refine c_aload_n (pc := 195) (q := 0) d_Model_init_195 rfl rfl ?_
  refine c_sipush (pc := 196) d_Model_init_196 k_s_160 ?_
  refine c_newaI (pc := 199) (N := 160) (sh8 := [(9, [4, 5, 0, 0, 0, 0, 0, 6, 7, 8, 9, 10, 0, 0, 0, 0, 0, 0, 11, 12, 13, 14, 15, 16, 0, 17, 0, 0, 0, 0, 0, 0, 0, 18, 19, 0, 20, 21, 0, 0, 0, 0, 0, 0, 0, 0, 22, 0, 23, 24, 25, 26, 27, 2, 0]), (100, [234]), (102, [2]), (100, [12]), (100, [16]), (100, [8]), (100, [15]), (100, [15]), (100, [12]), (100, [16]), (100, [8]), (100, [60]), (102, [6]), (102, [6]), (100, [320]), (100, [600]), (100, [18]), (100, [4]), (100, [4]), (100, [80]), (103, [1206]), (100, [6]), (100, [6]), (100, [4]), (100, [4]), (100, [160])]) (a9 := 25) d_Model_init_199 (by decide) (by decide) ac_int (Nat.le_of_ble_eq_true rfl) ⟨by funext y; simp [si, zM], by funext y; simp [si, zM]⟩ (Nat.le_of_ble_eq_true rfl) (Nat.le_of_ble_eq_true rfl) (Nat.le_of_ble_eq_true rfl) rfl rfl ?_
  refine c_putR (pc := 201) (sh8 := [(9, [4, 5, 0, 0, 0, 0, 0, 6, 7, 8, 9, 10, 0, 0, 0, 0, 0, 0, 11, 12, 13, 14, 15, 16, 0, 17, 0, 0, 0, 0, 0, 0, 0, 18, 19, 0, 20, 21, 0, 0, 0, 0, 0, 0, 0, 0, 22, 0, 23, 24, 25, 26, 27, 28, 0]), (100, [234]), (102, [2]), (100, [12]), (100, [16]), (100, [8]), (100, [15]), (100, [15]), (100, [12]), (100, [16]), (100, [8]), (100, [60]), (102, [6]), (102, [6]), (100, [320]), (100, [600]), (100, [18]), (100, [4]), (100, [4]), (100, [80]), (103, [1206]), (100, [6]), (100, [6]), (100, [4]), (100, [4]), (100, [160])]) d_Model_init_201 fl_Model_84 rfl rfl (by decide) (by decide) (Nat.le_of_ble_eq_true rfl) (fun C T N h => by cases h; rfl) rfl ?_
  refine c_toJ (pc := 204) (shJ := SHm) (conv_m _) (Nat.le_of_ble_eq_true rfl) (Nat.le_of_ble_eq_true rfl) (Nat.le_of_ble_eq_true rfl) hF ?_
  show J mt_Model_init _ _ [(0, Value.ref 0)] _ _ _
  unfold X_Model_init
  generalize zM = M
  refine j_iconst (pc := 204) d_Model_init_204 k_i_0 ?_
  refine j_istore_n (pc := 205) d_Model_init_205 rfl (by decide) rfl ?_
  refine j_lv [1, 0] rfl ?_
  refine X_Model_init_L206_ok  (fun M1 => ?_) n 0 M
  refine j_iconst (pc := 225) d_Model_init_225 k_i_1 ?_
  refine j_istore_n (pc := 226) d_Model_init_226 rfl (by decide) rfl ?_
  refine j_lv [1, 0] rfl ?_
  refine X_Model_init_L227_ok  (fun M8 => ?_) n 1 M1
  refine j_aload_n (pc := 274) (q := 0) d_Model_init_274 rfl rfl ?_
  refine j_callV0 (pc := 275) d_Model_init_275 (C_Model_firstDraft n M8) cV_Model_91 cd_Model_firstDraft dn_Model_firstDraft rfl (by decide) (Nat.le_of_ble_eq_true rfl) (Nat.le_of_ble_eq_true rfl) nr_U sm_0 (by decide) rfl (fun r9 M10 => ?_)
  refine j_aload_n (pc := 278) (q := 0) d_Model_init_278 rfl rfl ?_
  refine j_callV0 (pc := 279) d_Model_init_279 (C_Model_keepDraft n M10) cV_Model_94 cd_Model_keepDraft dn_Model_keepDraft rfl (by decide) (Nat.le_of_ble_eq_true rfl) (Nat.le_of_ble_eq_true rfl) nr_U sm_0 (by decide) rfl (fun r11 M12 => ?_)
  exact j_return (pc := 282) d_Model_init_282 rfl

/-! THE LAW: its instructions -/
theorem kd_law_0 : decode code 0 = .ok (.new 7, 3) ∧ decode code 3 = .ok (.dup, 1) ∧ decode code 4 = .ok (.invokespecial 9, 3) ∧ decode code 7 = .ok (.astore_n 1, 1) ∧ decode code 8 = .ok (.new 10, 3) ∧ decode code 11 = .ok (.dup, 1) ∧ decode code 12 = .ok (.invokespecial 12, 3) ∧ decode code 15 = .ok (.astore_n 2, 1) ∧ decode code 16 = .ok (.iconst 0, 1) ∧ decode code 17 = .ok (.istore_n 3, 1) ∧ decode code 18 = .ok (.iload_n 3, 1) ∧ decode code 19 = .ok (.aload_n 0, 1) ∧ decode code 20 = .ok (.arraylength, 1) ∧ decode code 21 = .ok (.iconst 5, 1) ∧ decode code 22 = .ok (.isub, 1) ∧ decode code 23 = .ok (.if_icmp .gt 1312, 3) ∧ decode code 26 = .ok (.aload_n 0, 1) ∧ decode code 27 = .ok (.iload_n 3, 1) ∧ decode code 28 = .ok (.iaload, 1) ∧ decode code 29 = .ok (.bipush 63, 2) := by decide +kernel
theorem d_law_0 : decode code 0 = .ok (.new 7, 3) := kd_law_0.1
theorem d_law_3 : decode code 3 = .ok (.dup, 1) := kd_law_0.2.1
theorem d_law_4 : decode code 4 = .ok (.invokespecial 9, 3) := kd_law_0.2.2.1
theorem d_law_7 : decode code 7 = .ok (.astore_n 1, 1) := kd_law_0.2.2.2.1
theorem d_law_8 : decode code 8 = .ok (.new 10, 3) := kd_law_0.2.2.2.2.1
theorem d_law_11 : decode code 11 = .ok (.dup, 1) := kd_law_0.2.2.2.2.2.1
theorem d_law_12 : decode code 12 = .ok (.invokespecial 12, 3) := kd_law_0.2.2.2.2.2.2.1
theorem d_law_15 : decode code 15 = .ok (.astore_n 2, 1) := kd_law_0.2.2.2.2.2.2.2.1
theorem d_law_16 : decode code 16 = .ok (.iconst 0, 1) := kd_law_0.2.2.2.2.2.2.2.2.1
theorem d_law_17 : decode code 17 = .ok (.istore_n 3, 1) := kd_law_0.2.2.2.2.2.2.2.2.2.1
theorem d_law_18 : decode code 18 = .ok (.iload_n 3, 1) := kd_law_0.2.2.2.2.2.2.2.2.2.2.1
theorem d_law_19 : decode code 19 = .ok (.aload_n 0, 1) := kd_law_0.2.2.2.2.2.2.2.2.2.2.2.1
theorem d_law_20 : decode code 20 = .ok (.arraylength, 1) := kd_law_0.2.2.2.2.2.2.2.2.2.2.2.2.1
theorem d_law_21 : decode code 21 = .ok (.iconst 5, 1) := kd_law_0.2.2.2.2.2.2.2.2.2.2.2.2.2.1
theorem d_law_22 : decode code 22 = .ok (.isub, 1) := kd_law_0.2.2.2.2.2.2.2.2.2.2.2.2.2.2.1
theorem d_law_23 : decode code 23 = .ok (.if_icmp .gt 1312, 3) := kd_law_0.2.2.2.2.2.2.2.2.2.2.2.2.2.2.2.1
theorem d_law_26 : decode code 26 = .ok (.aload_n 0, 1) := kd_law_0.2.2.2.2.2.2.2.2.2.2.2.2.2.2.2.2.1
theorem d_law_27 : decode code 27 = .ok (.iload_n 3, 1) := kd_law_0.2.2.2.2.2.2.2.2.2.2.2.2.2.2.2.2.2.1
theorem d_law_28 : decode code 28 = .ok (.iaload, 1) := kd_law_0.2.2.2.2.2.2.2.2.2.2.2.2.2.2.2.2.2.2.1
theorem d_law_29 : decode code 29 = .ok (.bipush 63, 2) := kd_law_0.2.2.2.2.2.2.2.2.2.2.2.2.2.2.2.2.2.2.2
theorem d_law_31 : decode code 31 = .ok (.iand, 1) := by decide +kernel
theorem d_law_32 : decode code 32 = .ok (.tableswitch 1297 0 36 #[164, 217, 240, 253, 266, 289, 338, 371, 394, 427, 450, 483, 516, 565, 598, 621, 654, 677, 710, 763, 806, 829, 852, 875, 898, 931, 944, 977, 990, 1033, 1076, 1099, 1122, 1165, 1208, 1261, 1274], 164) := by decide +kernel
theorem kd_law_196 : decode code 196 = .ok (.aload_n 1, 1) ∧ decode code 197 = .ok (.aload_n 0, 1) ∧ decode code 198 = .ok (.iload_n 3, 1) ∧ decode code 199 = .ok (.iconst 1, 1) ∧ decode code 200 = .ok (.iadd, 1) ∧ decode code 201 = .ok (.iaload, 1) ∧ decode code 202 = .ok (.i2l, 1) ∧ decode code 203 = .ok (.bipush 32, 2) ∧ decode code 205 = .ok (.lshl, 1) ∧ decode code 206 = .ok (.aload_n 0, 1) ∧ decode code 207 = .ok (.iload_n 3, 1) ∧ decode code 208 = .ok (.iconst 2, 1) ∧ decode code 209 = .ok (.iadd, 1) ∧ decode code 210 = .ok (.iaload, 1) ∧ decode code 211 = .ok (.i2l, 1) ∧ decode code 212 = .ok (.ldc2_w 13, 3) ∧ decode code 215 = .ok (.land, 1) ∧ decode code 216 = .ok (.lor, 1) ∧ decode code 217 = .ok (.invokevirtual 15, 3) ∧ decode code 220 = .ok (.pop, 1) := by decide +kernel
theorem d_law_196 : decode code 196 = .ok (.aload_n 1, 1) := kd_law_196.1
theorem d_law_197 : decode code 197 = .ok (.aload_n 0, 1) := kd_law_196.2.1
theorem d_law_198 : decode code 198 = .ok (.iload_n 3, 1) := kd_law_196.2.2.1
theorem d_law_199 : decode code 199 = .ok (.iconst 1, 1) := kd_law_196.2.2.2.1
theorem d_law_200 : decode code 200 = .ok (.iadd, 1) := kd_law_196.2.2.2.2.1
theorem d_law_201 : decode code 201 = .ok (.iaload, 1) := kd_law_196.2.2.2.2.2.1
theorem d_law_202 : decode code 202 = .ok (.i2l, 1) := kd_law_196.2.2.2.2.2.2.1
theorem d_law_203 : decode code 203 = .ok (.bipush 32, 2) := kd_law_196.2.2.2.2.2.2.2.1
theorem d_law_205 : decode code 205 = .ok (.lshl, 1) := kd_law_196.2.2.2.2.2.2.2.2.1
theorem d_law_206 : decode code 206 = .ok (.aload_n 0, 1) := kd_law_196.2.2.2.2.2.2.2.2.2.1
theorem d_law_207 : decode code 207 = .ok (.iload_n 3, 1) := kd_law_196.2.2.2.2.2.2.2.2.2.2.1
theorem d_law_208 : decode code 208 = .ok (.iconst 2, 1) := kd_law_196.2.2.2.2.2.2.2.2.2.2.2.1
theorem d_law_209 : decode code 209 = .ok (.iadd, 1) := kd_law_196.2.2.2.2.2.2.2.2.2.2.2.2.1
theorem d_law_210 : decode code 210 = .ok (.iaload, 1) := kd_law_196.2.2.2.2.2.2.2.2.2.2.2.2.2.1
theorem d_law_211 : decode code 211 = .ok (.i2l, 1) := kd_law_196.2.2.2.2.2.2.2.2.2.2.2.2.2.2.1
theorem d_law_212 : decode code 212 = .ok (.ldc2_w 13, 3) := kd_law_196.2.2.2.2.2.2.2.2.2.2.2.2.2.2.2.1
theorem d_law_215 : decode code 215 = .ok (.land, 1) := kd_law_196.2.2.2.2.2.2.2.2.2.2.2.2.2.2.2.2.1
theorem d_law_216 : decode code 216 = .ok (.lor, 1) := kd_law_196.2.2.2.2.2.2.2.2.2.2.2.2.2.2.2.2.2.1
theorem d_law_217 : decode code 217 = .ok (.invokevirtual 15, 3) := kd_law_196.2.2.2.2.2.2.2.2.2.2.2.2.2.2.2.2.2.2.1
theorem d_law_220 : decode code 220 = .ok (.pop, 1) := kd_law_196.2.2.2.2.2.2.2.2.2.2.2.2.2.2.2.2.2.2.2
theorem kd_law_221 : decode code 221 = .ok (.aload_n 2, 1) ∧ decode code 222 = .ok (.aload_n 0, 1) ∧ decode code 223 = .ok (.iload_n 3, 1) ∧ decode code 224 = .ok (.iconst 1, 1) ∧ decode code 225 = .ok (.iadd, 1) ∧ decode code 226 = .ok (.iaload, 1) ∧ decode code 227 = .ok (.i2l, 1) ∧ decode code 228 = .ok (.bipush 32, 2) ∧ decode code 230 = .ok (.lshl, 1) ∧ decode code 231 = .ok (.aload_n 0, 1) ∧ decode code 232 = .ok (.iload_n 3, 1) ∧ decode code 233 = .ok (.iconst 2, 1) ∧ decode code 234 = .ok (.iadd, 1) ∧ decode code 235 = .ok (.iaload, 1) ∧ decode code 236 = .ok (.i2l, 1) ∧ decode code 237 = .ok (.ldc2_w 13, 3) ∧ decode code 240 = .ok (.land, 1) ∧ decode code 241 = .ok (.lor, 1) ∧ decode code 242 = .ok (.invokevirtual 19, 3) ∧ decode code 245 = .ok (.pop, 1) := by decide +kernel
theorem d_law_221 : decode code 221 = .ok (.aload_n 2, 1) := kd_law_221.1
theorem d_law_222 : decode code 222 = .ok (.aload_n 0, 1) := kd_law_221.2.1
theorem d_law_223 : decode code 223 = .ok (.iload_n 3, 1) := kd_law_221.2.2.1
theorem d_law_224 : decode code 224 = .ok (.iconst 1, 1) := kd_law_221.2.2.2.1
theorem d_law_225 : decode code 225 = .ok (.iadd, 1) := kd_law_221.2.2.2.2.1
theorem d_law_226 : decode code 226 = .ok (.iaload, 1) := kd_law_221.2.2.2.2.2.1
theorem d_law_227 : decode code 227 = .ok (.i2l, 1) := kd_law_221.2.2.2.2.2.2.1
theorem d_law_228 : decode code 228 = .ok (.bipush 32, 2) := kd_law_221.2.2.2.2.2.2.2.1
theorem d_law_230 : decode code 230 = .ok (.lshl, 1) := kd_law_221.2.2.2.2.2.2.2.2.1
theorem d_law_231 : decode code 231 = .ok (.aload_n 0, 1) := kd_law_221.2.2.2.2.2.2.2.2.2.1
theorem d_law_232 : decode code 232 = .ok (.iload_n 3, 1) := kd_law_221.2.2.2.2.2.2.2.2.2.2.1
theorem d_law_233 : decode code 233 = .ok (.iconst 2, 1) := kd_law_221.2.2.2.2.2.2.2.2.2.2.2.1
theorem d_law_234 : decode code 234 = .ok (.iadd, 1) := kd_law_221.2.2.2.2.2.2.2.2.2.2.2.2.1
theorem d_law_235 : decode code 235 = .ok (.iaload, 1) := kd_law_221.2.2.2.2.2.2.2.2.2.2.2.2.2.1
theorem d_law_236 : decode code 236 = .ok (.i2l, 1) := kd_law_221.2.2.2.2.2.2.2.2.2.2.2.2.2.2.1
theorem d_law_237 : decode code 237 = .ok (.ldc2_w 13, 3) := kd_law_221.2.2.2.2.2.2.2.2.2.2.2.2.2.2.2.1
theorem d_law_240 : decode code 240 = .ok (.land, 1) := kd_law_221.2.2.2.2.2.2.2.2.2.2.2.2.2.2.2.2.1
theorem d_law_241 : decode code 241 = .ok (.lor, 1) := kd_law_221.2.2.2.2.2.2.2.2.2.2.2.2.2.2.2.2.2.1
theorem d_law_242 : decode code 242 = .ok (.invokevirtual 19, 3) := kd_law_221.2.2.2.2.2.2.2.2.2.2.2.2.2.2.2.2.2.2.1
theorem d_law_245 : decode code 245 = .ok (.pop, 1) := kd_law_221.2.2.2.2.2.2.2.2.2.2.2.2.2.2.2.2.2.2.2
theorem kd_law_246 : decode code 246 = .ok (.goto 1083, 3) ∧ decode code 249 = .ok (.aload_n 1, 1) ∧ decode code 250 = .ok (.aload_n 0, 1) ∧ decode code 251 = .ok (.iload_n 3, 1) ∧ decode code 252 = .ok (.iconst 1, 1) ∧ decode code 253 = .ok (.iadd, 1) ∧ decode code 254 = .ok (.iaload, 1) ∧ decode code 255 = .ok (.invokevirtual 20, 3) ∧ decode code 258 = .ok (.aload_n 2, 1) ∧ decode code 259 = .ok (.aload_n 0, 1) ∧ decode code 260 = .ok (.iload_n 3, 1) ∧ decode code 261 = .ok (.iconst 1, 1) ∧ decode code 262 = .ok (.iadd, 1) ∧ decode code 263 = .ok (.iaload, 1) ∧ decode code 264 = .ok (.invokevirtual 24, 3) ∧ decode code 267 = .ok (.if_icmp .eq 1062, 3) ∧ decode code 270 = .ok (.iconst 0, 1) ∧ decode code 271 = .ok (.ireturn, 1) ∧ decode code 272 = .ok (.aload_n 1, 1) ∧ decode code 273 = .ok (.invokevirtual 25, 3) := by decide +kernel
theorem d_law_246 : decode code 246 = .ok (.goto 1083, 3) := kd_law_246.1
theorem d_law_249 : decode code 249 = .ok (.aload_n 1, 1) := kd_law_246.2.1
theorem d_law_250 : decode code 250 = .ok (.aload_n 0, 1) := kd_law_246.2.2.1
theorem d_law_251 : decode code 251 = .ok (.iload_n 3, 1) := kd_law_246.2.2.2.1
theorem d_law_252 : decode code 252 = .ok (.iconst 1, 1) := kd_law_246.2.2.2.2.1
theorem d_law_253 : decode code 253 = .ok (.iadd, 1) := kd_law_246.2.2.2.2.2.1
theorem d_law_254 : decode code 254 = .ok (.iaload, 1) := kd_law_246.2.2.2.2.2.2.1
theorem d_law_255 : decode code 255 = .ok (.invokevirtual 20, 3) := kd_law_246.2.2.2.2.2.2.2.1
theorem d_law_258 : decode code 258 = .ok (.aload_n 2, 1) := kd_law_246.2.2.2.2.2.2.2.2.1
theorem d_law_259 : decode code 259 = .ok (.aload_n 0, 1) := kd_law_246.2.2.2.2.2.2.2.2.2.1
theorem d_law_260 : decode code 260 = .ok (.iload_n 3, 1) := kd_law_246.2.2.2.2.2.2.2.2.2.2.1
theorem d_law_261 : decode code 261 = .ok (.iconst 1, 1) := kd_law_246.2.2.2.2.2.2.2.2.2.2.2.1
theorem d_law_262 : decode code 262 = .ok (.iadd, 1) := kd_law_246.2.2.2.2.2.2.2.2.2.2.2.2.1
theorem d_law_263 : decode code 263 = .ok (.iaload, 1) := kd_law_246.2.2.2.2.2.2.2.2.2.2.2.2.2.1
theorem d_law_264 : decode code 264 = .ok (.invokevirtual 24, 3) := kd_law_246.2.2.2.2.2.2.2.2.2.2.2.2.2.2.1
theorem d_law_267 : decode code 267 = .ok (.if_icmp .eq 1062, 3) := kd_law_246.2.2.2.2.2.2.2.2.2.2.2.2.2.2.2.1
theorem d_law_270 : decode code 270 = .ok (.iconst 0, 1) := kd_law_246.2.2.2.2.2.2.2.2.2.2.2.2.2.2.2.2.1
theorem d_law_271 : decode code 271 = .ok (.ireturn, 1) := kd_law_246.2.2.2.2.2.2.2.2.2.2.2.2.2.2.2.2.2.1
theorem d_law_272 : decode code 272 = .ok (.aload_n 1, 1) := kd_law_246.2.2.2.2.2.2.2.2.2.2.2.2.2.2.2.2.2.2.1
theorem d_law_273 : decode code 273 = .ok (.invokevirtual 25, 3) := kd_law_246.2.2.2.2.2.2.2.2.2.2.2.2.2.2.2.2.2.2.2
theorem kd_law_276 : decode code 276 = .ok (.pop, 1) ∧ decode code 277 = .ok (.aload_n 2, 1) ∧ decode code 278 = .ok (.invokevirtual 29, 3) ∧ decode code 281 = .ok (.pop, 1) ∧ decode code 282 = .ok (.goto 1047, 3) ∧ decode code 285 = .ok (.aload_n 1, 1) ∧ decode code 286 = .ok (.invokevirtual 30, 3) ∧ decode code 289 = .ok (.pop, 1) ∧ decode code 290 = .ok (.aload_n 2, 1) ∧ decode code 291 = .ok (.invokevirtual 33, 3) ∧ decode code 294 = .ok (.pop, 1) ∧ decode code 295 = .ok (.goto 1034, 3) ∧ decode code 298 = .ok (.aload_n 1, 1) ∧ decode code 299 = .ok (.aload_n 0, 1) ∧ decode code 300 = .ok (.iload_n 3, 1) ∧ decode code 301 = .ok (.iconst 1, 1) ∧ decode code 302 = .ok (.iadd, 1) ∧ decode code 303 = .ok (.iaload, 1) ∧ decode code 304 = .ok (.invokevirtual 34, 3) ∧ decode code 307 = .ok (.pop, 1) := by decide +kernel
theorem d_law_276 : decode code 276 = .ok (.pop, 1) := kd_law_276.1
theorem d_law_277 : decode code 277 = .ok (.aload_n 2, 1) := kd_law_276.2.1
theorem d_law_278 : decode code 278 = .ok (.invokevirtual 29, 3) := kd_law_276.2.2.1
theorem d_law_281 : decode code 281 = .ok (.pop, 1) := kd_law_276.2.2.2.1
theorem d_law_282 : decode code 282 = .ok (.goto 1047, 3) := kd_law_276.2.2.2.2.1
theorem d_law_285 : decode code 285 = .ok (.aload_n 1, 1) := kd_law_276.2.2.2.2.2.1
theorem d_law_286 : decode code 286 = .ok (.invokevirtual 30, 3) := kd_law_276.2.2.2.2.2.2.1
theorem d_law_289 : decode code 289 = .ok (.pop, 1) := kd_law_276.2.2.2.2.2.2.2.1
theorem d_law_290 : decode code 290 = .ok (.aload_n 2, 1) := kd_law_276.2.2.2.2.2.2.2.2.1
theorem d_law_291 : decode code 291 = .ok (.invokevirtual 33, 3) := kd_law_276.2.2.2.2.2.2.2.2.2.1
theorem d_law_294 : decode code 294 = .ok (.pop, 1) := kd_law_276.2.2.2.2.2.2.2.2.2.2.1
theorem d_law_295 : decode code 295 = .ok (.goto 1034, 3) := kd_law_276.2.2.2.2.2.2.2.2.2.2.2.1
theorem d_law_298 : decode code 298 = .ok (.aload_n 1, 1) := kd_law_276.2.2.2.2.2.2.2.2.2.2.2.2.1
theorem d_law_299 : decode code 299 = .ok (.aload_n 0, 1) := kd_law_276.2.2.2.2.2.2.2.2.2.2.2.2.2.1
theorem d_law_300 : decode code 300 = .ok (.iload_n 3, 1) := kd_law_276.2.2.2.2.2.2.2.2.2.2.2.2.2.2.1
theorem d_law_301 : decode code 301 = .ok (.iconst 1, 1) := kd_law_276.2.2.2.2.2.2.2.2.2.2.2.2.2.2.2.1
theorem d_law_302 : decode code 302 = .ok (.iadd, 1) := kd_law_276.2.2.2.2.2.2.2.2.2.2.2.2.2.2.2.2.1
theorem d_law_303 : decode code 303 = .ok (.iaload, 1) := kd_law_276.2.2.2.2.2.2.2.2.2.2.2.2.2.2.2.2.2.1
theorem d_law_304 : decode code 304 = .ok (.invokevirtual 34, 3) := kd_law_276.2.2.2.2.2.2.2.2.2.2.2.2.2.2.2.2.2.2.1
theorem d_law_307 : decode code 307 = .ok (.pop, 1) := kd_law_276.2.2.2.2.2.2.2.2.2.2.2.2.2.2.2.2.2.2.2
theorem kd_law_308 : decode code 308 = .ok (.aload_n 2, 1) ∧ decode code 309 = .ok (.aload_n 0, 1) ∧ decode code 310 = .ok (.iload_n 3, 1) ∧ decode code 311 = .ok (.iconst 1, 1) ∧ decode code 312 = .ok (.iadd, 1) ∧ decode code 313 = .ok (.iaload, 1) ∧ decode code 314 = .ok (.invokevirtual 37, 3) ∧ decode code 317 = .ok (.pop, 1) ∧ decode code 318 = .ok (.goto 1011, 3) ∧ decode code 321 = .ok (.aload_n 1, 1) ∧ decode code 322 = .ok (.aload_n 0, 1) ∧ decode code 323 = .ok (.iload_n 3, 1) ∧ decode code 324 = .ok (.iconst 1, 1) ∧ decode code 325 = .ok (.iadd, 1) ∧ decode code 326 = .ok (.iaload, 1) ∧ decode code 327 = .ok (.aload_n 0, 1) ∧ decode code 328 = .ok (.iload_n 3, 1) ∧ decode code 329 = .ok (.iconst 2, 1) ∧ decode code 330 = .ok (.iadd, 1) ∧ decode code 331 = .ok (.iaload, 1) := by decide +kernel
theorem d_law_308 : decode code 308 = .ok (.aload_n 2, 1) := kd_law_308.1
theorem d_law_309 : decode code 309 = .ok (.aload_n 0, 1) := kd_law_308.2.1
theorem d_law_310 : decode code 310 = .ok (.iload_n 3, 1) := kd_law_308.2.2.1
theorem d_law_311 : decode code 311 = .ok (.iconst 1, 1) := kd_law_308.2.2.2.1
theorem d_law_312 : decode code 312 = .ok (.iadd, 1) := kd_law_308.2.2.2.2.1
theorem d_law_313 : decode code 313 = .ok (.iaload, 1) := kd_law_308.2.2.2.2.2.1
theorem d_law_314 : decode code 314 = .ok (.invokevirtual 37, 3) := kd_law_308.2.2.2.2.2.2.1
theorem d_law_317 : decode code 317 = .ok (.pop, 1) := kd_law_308.2.2.2.2.2.2.2.1
theorem d_law_318 : decode code 318 = .ok (.goto 1011, 3) := kd_law_308.2.2.2.2.2.2.2.2.1
theorem d_law_321 : decode code 321 = .ok (.aload_n 1, 1) := kd_law_308.2.2.2.2.2.2.2.2.2.1
theorem d_law_322 : decode code 322 = .ok (.aload_n 0, 1) := kd_law_308.2.2.2.2.2.2.2.2.2.2.1
theorem d_law_323 : decode code 323 = .ok (.iload_n 3, 1) := kd_law_308.2.2.2.2.2.2.2.2.2.2.2.1
theorem d_law_324 : decode code 324 = .ok (.iconst 1, 1) := kd_law_308.2.2.2.2.2.2.2.2.2.2.2.2.1
theorem d_law_325 : decode code 325 = .ok (.iadd, 1) := kd_law_308.2.2.2.2.2.2.2.2.2.2.2.2.2.1
theorem d_law_326 : decode code 326 = .ok (.iaload, 1) := kd_law_308.2.2.2.2.2.2.2.2.2.2.2.2.2.2.1
theorem d_law_327 : decode code 327 = .ok (.aload_n 0, 1) := kd_law_308.2.2.2.2.2.2.2.2.2.2.2.2.2.2.2.1
theorem d_law_328 : decode code 328 = .ok (.iload_n 3, 1) := kd_law_308.2.2.2.2.2.2.2.2.2.2.2.2.2.2.2.2.1
theorem d_law_329 : decode code 329 = .ok (.iconst 2, 1) := kd_law_308.2.2.2.2.2.2.2.2.2.2.2.2.2.2.2.2.2.1
theorem d_law_330 : decode code 330 = .ok (.iadd, 1) := kd_law_308.2.2.2.2.2.2.2.2.2.2.2.2.2.2.2.2.2.2.1
theorem d_law_331 : decode code 331 = .ok (.iaload, 1) := kd_law_308.2.2.2.2.2.2.2.2.2.2.2.2.2.2.2.2.2.2.2
theorem kd_law_332 : decode code 332 = .ok (.ifCond .eq 7, 3) ∧ decode code 335 = .ok (.iconst 1, 1) ∧ decode code 336 = .ok (.goto 4, 3) ∧ decode code 339 = .ok (.iconst 0, 1) ∧ decode code 340 = .ok (.invokevirtual 38, 3) ∧ decode code 343 = .ok (.pop, 1) ∧ decode code 344 = .ok (.aload_n 2, 1) ∧ decode code 345 = .ok (.aload_n 0, 1) ∧ decode code 346 = .ok (.iload_n 3, 1) ∧ decode code 347 = .ok (.iconst 1, 1) ∧ decode code 348 = .ok (.iadd, 1) ∧ decode code 349 = .ok (.iaload, 1) ∧ decode code 350 = .ok (.aload_n 0, 1) ∧ decode code 351 = .ok (.iload_n 3, 1) ∧ decode code 352 = .ok (.iconst 2, 1) ∧ decode code 353 = .ok (.iadd, 1) ∧ decode code 354 = .ok (.iaload, 1) ∧ decode code 355 = .ok (.ifCond .eq 7, 3) ∧ decode code 358 = .ok (.iconst 1, 1) ∧ decode code 359 = .ok (.goto 4, 3) := by decide +kernel
theorem d_law_332 : decode code 332 = .ok (.ifCond .eq 7, 3) := kd_law_332.1
theorem d_law_335 : decode code 335 = .ok (.iconst 1, 1) := kd_law_332.2.1
theorem d_law_336 : decode code 336 = .ok (.goto 4, 3) := kd_law_332.2.2.1
theorem d_law_339 : decode code 339 = .ok (.iconst 0, 1) := kd_law_332.2.2.2.1
theorem d_law_340 : decode code 340 = .ok (.invokevirtual 38, 3) := kd_law_332.2.2.2.2.1
theorem d_law_343 : decode code 343 = .ok (.pop, 1) := kd_law_332.2.2.2.2.2.1
theorem d_law_344 : decode code 344 = .ok (.aload_n 2, 1) := kd_law_332.2.2.2.2.2.2.1
theorem d_law_345 : decode code 345 = .ok (.aload_n 0, 1) := kd_law_332.2.2.2.2.2.2.2.1
theorem d_law_346 : decode code 346 = .ok (.iload_n 3, 1) := kd_law_332.2.2.2.2.2.2.2.2.1
theorem d_law_347 : decode code 347 = .ok (.iconst 1, 1) := kd_law_332.2.2.2.2.2.2.2.2.2.1
theorem d_law_348 : decode code 348 = .ok (.iadd, 1) := kd_law_332.2.2.2.2.2.2.2.2.2.2.1
theorem d_law_349 : decode code 349 = .ok (.iaload, 1) := kd_law_332.2.2.2.2.2.2.2.2.2.2.2.1
theorem d_law_350 : decode code 350 = .ok (.aload_n 0, 1) := kd_law_332.2.2.2.2.2.2.2.2.2.2.2.2.1
theorem d_law_351 : decode code 351 = .ok (.iload_n 3, 1) := kd_law_332.2.2.2.2.2.2.2.2.2.2.2.2.2.1
theorem d_law_352 : decode code 352 = .ok (.iconst 2, 1) := kd_law_332.2.2.2.2.2.2.2.2.2.2.2.2.2.2.1
theorem d_law_353 : decode code 353 = .ok (.iadd, 1) := kd_law_332.2.2.2.2.2.2.2.2.2.2.2.2.2.2.2.1
theorem d_law_354 : decode code 354 = .ok (.iaload, 1) := kd_law_332.2.2.2.2.2.2.2.2.2.2.2.2.2.2.2.2.1
theorem d_law_355 : decode code 355 = .ok (.ifCond .eq 7, 3) := kd_law_332.2.2.2.2.2.2.2.2.2.2.2.2.2.2.2.2.2.1
theorem d_law_358 : decode code 358 = .ok (.iconst 1, 1) := kd_law_332.2.2.2.2.2.2.2.2.2.2.2.2.2.2.2.2.2.2.1
theorem d_law_359 : decode code 359 = .ok (.goto 4, 3) := kd_law_332.2.2.2.2.2.2.2.2.2.2.2.2.2.2.2.2.2.2.2
theorem kd_law_362 : decode code 362 = .ok (.iconst 0, 1) ∧ decode code 363 = .ok (.invokevirtual 42, 3) ∧ decode code 366 = .ok (.pop, 1) ∧ decode code 367 = .ok (.goto 962, 3) ∧ decode code 370 = .ok (.aload_n 1, 1) ∧ decode code 371 = .ok (.aload_n 0, 1) ∧ decode code 372 = .ok (.iload_n 3, 1) ∧ decode code 373 = .ok (.iconst 1, 1) ∧ decode code 374 = .ok (.iadd, 1) ∧ decode code 375 = .ok (.iaload, 1) ∧ decode code 376 = .ok (.aload_n 0, 1) ∧ decode code 377 = .ok (.iload_n 3, 1) ∧ decode code 378 = .ok (.iconst 2, 1) ∧ decode code 379 = .ok (.iadd, 1) ∧ decode code 380 = .ok (.iaload, 1) ∧ decode code 381 = .ok (.invokevirtual 43, 3) ∧ decode code 384 = .ok (.pop, 1) ∧ decode code 385 = .ok (.aload_n 2, 1) ∧ decode code 386 = .ok (.aload_n 0, 1) ∧ decode code 387 = .ok (.iload_n 3, 1) := by decide +kernel
theorem d_law_362 : decode code 362 = .ok (.iconst 0, 1) := kd_law_362.1
theorem d_law_363 : decode code 363 = .ok (.invokevirtual 42, 3) := kd_law_362.2.1
theorem d_law_366 : decode code 366 = .ok (.pop, 1) := kd_law_362.2.2.1
theorem d_law_367 : decode code 367 = .ok (.goto 962, 3) := kd_law_362.2.2.2.1
theorem d_law_370 : decode code 370 = .ok (.aload_n 1, 1) := kd_law_362.2.2.2.2.1
theorem d_law_371 : decode code 371 = .ok (.aload_n 0, 1) := kd_law_362.2.2.2.2.2.1
theorem d_law_372 : decode code 372 = .ok (.iload_n 3, 1) := kd_law_362.2.2.2.2.2.2.1
theorem d_law_373 : decode code 373 = .ok (.iconst 1, 1) := kd_law_362.2.2.2.2.2.2.2.1
theorem d_law_374 : decode code 374 = .ok (.iadd, 1) := kd_law_362.2.2.2.2.2.2.2.2.1
theorem d_law_375 : decode code 375 = .ok (.iaload, 1) := kd_law_362.2.2.2.2.2.2.2.2.2.1
theorem d_law_376 : decode code 376 = .ok (.aload_n 0, 1) := kd_law_362.2.2.2.2.2.2.2.2.2.2.1
theorem d_law_377 : decode code 377 = .ok (.iload_n 3, 1) := kd_law_362.2.2.2.2.2.2.2.2.2.2.2.1
theorem d_law_378 : decode code 378 = .ok (.iconst 2, 1) := kd_law_362.2.2.2.2.2.2.2.2.2.2.2.2.1
theorem d_law_379 : decode code 379 = .ok (.iadd, 1) := kd_law_362.2.2.2.2.2.2.2.2.2.2.2.2.2.1
theorem d_law_380 : decode code 380 = .ok (.iaload, 1) := kd_law_362.2.2.2.2.2.2.2.2.2.2.2.2.2.2.1
theorem d_law_381 : decode code 381 = .ok (.invokevirtual 43, 3) := kd_law_362.2.2.2.2.2.2.2.2.2.2.2.2.2.2.2.1
theorem d_law_384 : decode code 384 = .ok (.pop, 1) := kd_law_362.2.2.2.2.2.2.2.2.2.2.2.2.2.2.2.2.1
theorem d_law_385 : decode code 385 = .ok (.aload_n 2, 1) := kd_law_362.2.2.2.2.2.2.2.2.2.2.2.2.2.2.2.2.2.1
theorem d_law_386 : decode code 386 = .ok (.aload_n 0, 1) := kd_law_362.2.2.2.2.2.2.2.2.2.2.2.2.2.2.2.2.2.2.1
theorem d_law_387 : decode code 387 = .ok (.iload_n 3, 1) := kd_law_362.2.2.2.2.2.2.2.2.2.2.2.2.2.2.2.2.2.2.2
theorem kd_law_388 : decode code 388 = .ok (.iconst 1, 1) ∧ decode code 389 = .ok (.iadd, 1) ∧ decode code 390 = .ok (.iaload, 1) ∧ decode code 391 = .ok (.aload_n 0, 1) ∧ decode code 392 = .ok (.iload_n 3, 1) ∧ decode code 393 = .ok (.iconst 2, 1) ∧ decode code 394 = .ok (.iadd, 1) ∧ decode code 395 = .ok (.iaload, 1) ∧ decode code 396 = .ok (.invokevirtual 47, 3) ∧ decode code 399 = .ok (.pop, 1) ∧ decode code 400 = .ok (.goto 929, 3) ∧ decode code 403 = .ok (.aload_n 1, 1) ∧ decode code 404 = .ok (.aload_n 0, 1) ∧ decode code 405 = .ok (.iload_n 3, 1) ∧ decode code 406 = .ok (.iconst 1, 1) ∧ decode code 407 = .ok (.iadd, 1) ∧ decode code 408 = .ok (.iaload, 1) ∧ decode code 409 = .ok (.invokevirtual 48, 3) ∧ decode code 412 = .ok (.pop, 1) ∧ decode code 413 = .ok (.aload_n 2, 1) := by decide +kernel
theorem d_law_388 : decode code 388 = .ok (.iconst 1, 1) := kd_law_388.1
theorem d_law_389 : decode code 389 = .ok (.iadd, 1) := kd_law_388.2.1
theorem d_law_390 : decode code 390 = .ok (.iaload, 1) := kd_law_388.2.2.1
theorem d_law_391 : decode code 391 = .ok (.aload_n 0, 1) := kd_law_388.2.2.2.1
theorem d_law_392 : decode code 392 = .ok (.iload_n 3, 1) := kd_law_388.2.2.2.2.1
theorem d_law_393 : decode code 393 = .ok (.iconst 2, 1) := kd_law_388.2.2.2.2.2.1
theorem d_law_394 : decode code 394 = .ok (.iadd, 1) := kd_law_388.2.2.2.2.2.2.1
theorem d_law_395 : decode code 395 = .ok (.iaload, 1) := kd_law_388.2.2.2.2.2.2.2.1
theorem d_law_396 : decode code 396 = .ok (.invokevirtual 47, 3) := kd_law_388.2.2.2.2.2.2.2.2.1
theorem d_law_399 : decode code 399 = .ok (.pop, 1) := kd_law_388.2.2.2.2.2.2.2.2.2.1
theorem d_law_400 : decode code 400 = .ok (.goto 929, 3) := kd_law_388.2.2.2.2.2.2.2.2.2.2.1
theorem d_law_403 : decode code 403 = .ok (.aload_n 1, 1) := kd_law_388.2.2.2.2.2.2.2.2.2.2.2.1
theorem d_law_404 : decode code 404 = .ok (.aload_n 0, 1) := kd_law_388.2.2.2.2.2.2.2.2.2.2.2.2.1
theorem d_law_405 : decode code 405 = .ok (.iload_n 3, 1) := kd_law_388.2.2.2.2.2.2.2.2.2.2.2.2.2.1
theorem d_law_406 : decode code 406 = .ok (.iconst 1, 1) := kd_law_388.2.2.2.2.2.2.2.2.2.2.2.2.2.2.1
theorem d_law_407 : decode code 407 = .ok (.iadd, 1) := kd_law_388.2.2.2.2.2.2.2.2.2.2.2.2.2.2.2.1
theorem d_law_408 : decode code 408 = .ok (.iaload, 1) := kd_law_388.2.2.2.2.2.2.2.2.2.2.2.2.2.2.2.2.1
theorem d_law_409 : decode code 409 = .ok (.invokevirtual 48, 3) := kd_law_388.2.2.2.2.2.2.2.2.2.2.2.2.2.2.2.2.2.1
theorem d_law_412 : decode code 412 = .ok (.pop, 1) := kd_law_388.2.2.2.2.2.2.2.2.2.2.2.2.2.2.2.2.2.2.1
theorem d_law_413 : decode code 413 = .ok (.aload_n 2, 1) := kd_law_388.2.2.2.2.2.2.2.2.2.2.2.2.2.2.2.2.2.2.2
theorem kd_law_414 : decode code 414 = .ok (.aload_n 0, 1) ∧ decode code 415 = .ok (.iload_n 3, 1) ∧ decode code 416 = .ok (.iconst 1, 1) ∧ decode code 417 = .ok (.iadd, 1) ∧ decode code 418 = .ok (.iaload, 1) ∧ decode code 419 = .ok (.invokevirtual 51, 3) ∧ decode code 422 = .ok (.pop, 1) ∧ decode code 423 = .ok (.goto 906, 3) ∧ decode code 426 = .ok (.aload_n 1, 1) ∧ decode code 427 = .ok (.aload_n 0, 1) ∧ decode code 428 = .ok (.iload_n 3, 1) ∧ decode code 429 = .ok (.iconst 1, 1) ∧ decode code 430 = .ok (.iadd, 1) ∧ decode code 431 = .ok (.iaload, 1) ∧ decode code 432 = .ok (.aload_n 0, 1) ∧ decode code 433 = .ok (.iload_n 3, 1) ∧ decode code 434 = .ok (.iconst 2, 1) ∧ decode code 435 = .ok (.iadd, 1) ∧ decode code 436 = .ok (.iaload, 1) ∧ decode code 437 = .ok (.invokevirtual 52, 3) := by decide +kernel
theorem d_law_414 : decode code 414 = .ok (.aload_n 0, 1) := kd_law_414.1
theorem d_law_415 : decode code 415 = .ok (.iload_n 3, 1) := kd_law_414.2.1
theorem d_law_416 : decode code 416 = .ok (.iconst 1, 1) := kd_law_414.2.2.1
theorem d_law_417 : decode code 417 = .ok (.iadd, 1) := kd_law_414.2.2.2.1
theorem d_law_418 : decode code 418 = .ok (.iaload, 1) := kd_law_414.2.2.2.2.1
theorem d_law_419 : decode code 419 = .ok (.invokevirtual 51, 3) := kd_law_414.2.2.2.2.2.1
theorem d_law_422 : decode code 422 = .ok (.pop, 1) := kd_law_414.2.2.2.2.2.2.1
theorem d_law_423 : decode code 423 = .ok (.goto 906, 3) := kd_law_414.2.2.2.2.2.2.2.1
theorem d_law_426 : decode code 426 = .ok (.aload_n 1, 1) := kd_law_414.2.2.2.2.2.2.2.2.1
theorem d_law_427 : decode code 427 = .ok (.aload_n 0, 1) := kd_law_414.2.2.2.2.2.2.2.2.2.1
theorem d_law_428 : decode code 428 = .ok (.iload_n 3, 1) := kd_law_414.2.2.2.2.2.2.2.2.2.2.1
theorem d_law_429 : decode code 429 = .ok (.iconst 1, 1) := kd_law_414.2.2.2.2.2.2.2.2.2.2.2.1
theorem d_law_430 : decode code 430 = .ok (.iadd, 1) := kd_law_414.2.2.2.2.2.2.2.2.2.2.2.2.1
theorem d_law_431 : decode code 431 = .ok (.iaload, 1) := kd_law_414.2.2.2.2.2.2.2.2.2.2.2.2.2.1
theorem d_law_432 : decode code 432 = .ok (.aload_n 0, 1) := kd_law_414.2.2.2.2.2.2.2.2.2.2.2.2.2.2.1
theorem d_law_433 : decode code 433 = .ok (.iload_n 3, 1) := kd_law_414.2.2.2.2.2.2.2.2.2.2.2.2.2.2.2.1
theorem d_law_434 : decode code 434 = .ok (.iconst 2, 1) := kd_law_414.2.2.2.2.2.2.2.2.2.2.2.2.2.2.2.2.1
theorem d_law_435 : decode code 435 = .ok (.iadd, 1) := kd_law_414.2.2.2.2.2.2.2.2.2.2.2.2.2.2.2.2.2.1
theorem d_law_436 : decode code 436 = .ok (.iaload, 1) := kd_law_414.2.2.2.2.2.2.2.2.2.2.2.2.2.2.2.2.2.2.1
theorem d_law_437 : decode code 437 = .ok (.invokevirtual 52, 3) := kd_law_414.2.2.2.2.2.2.2.2.2.2.2.2.2.2.2.2.2.2.2
theorem kd_law_440 : decode code 440 = .ok (.pop, 1) ∧ decode code 441 = .ok (.aload_n 2, 1) ∧ decode code 442 = .ok (.aload_n 0, 1) ∧ decode code 443 = .ok (.iload_n 3, 1) ∧ decode code 444 = .ok (.iconst 1, 1) ∧ decode code 445 = .ok (.iadd, 1) ∧ decode code 446 = .ok (.iaload, 1) ∧ decode code 447 = .ok (.aload_n 0, 1) ∧ decode code 448 = .ok (.iload_n 3, 1) ∧ decode code 449 = .ok (.iconst 2, 1) ∧ decode code 450 = .ok (.iadd, 1) ∧ decode code 451 = .ok (.iaload, 1) ∧ decode code 452 = .ok (.invokevirtual 55, 3) ∧ decode code 455 = .ok (.pop, 1) ∧ decode code 456 = .ok (.goto 873, 3) ∧ decode code 459 = .ok (.aload_n 1, 1) ∧ decode code 460 = .ok (.aload_n 0, 1) ∧ decode code 461 = .ok (.iload_n 3, 1) ∧ decode code 462 = .ok (.iconst 1, 1) ∧ decode code 463 = .ok (.iadd, 1) := by decide +kernel
theorem d_law_440 : decode code 440 = .ok (.pop, 1) := kd_law_440.1
theorem d_law_441 : decode code 441 = .ok (.aload_n 2, 1) := kd_law_440.2.1
theorem d_law_442 : decode code 442 = .ok (.aload_n 0, 1) := kd_law_440.2.2.1
theorem d_law_443 : decode code 443 = .ok (.iload_n 3, 1) := kd_law_440.2.2.2.1
theorem d_law_444 : decode code 444 = .ok (.iconst 1, 1) := kd_law_440.2.2.2.2.1
theorem d_law_445 : decode code 445 = .ok (.iadd, 1) := kd_law_440.2.2.2.2.2.1
theorem d_law_446 : decode code 446 = .ok (.iaload, 1) := kd_law_440.2.2.2.2.2.2.1
theorem d_law_447 : decode code 447 = .ok (.aload_n 0, 1) := kd_law_440.2.2.2.2.2.2.2.1
theorem d_law_448 : decode code 448 = .ok (.iload_n 3, 1) := kd_law_440.2.2.2.2.2.2.2.2.1
theorem d_law_449 : decode code 449 = .ok (.iconst 2, 1) := kd_law_440.2.2.2.2.2.2.2.2.2.1
theorem d_law_450 : decode code 450 = .ok (.iadd, 1) := kd_law_440.2.2.2.2.2.2.2.2.2.2.1
theorem d_law_451 : decode code 451 = .ok (.iaload, 1) := kd_law_440.2.2.2.2.2.2.2.2.2.2.2.1
theorem d_law_452 : decode code 452 = .ok (.invokevirtual 55, 3) := kd_law_440.2.2.2.2.2.2.2.2.2.2.2.2.1
theorem d_law_455 : decode code 455 = .ok (.pop, 1) := kd_law_440.2.2.2.2.2.2.2.2.2.2.2.2.2.1
theorem d_law_456 : decode code 456 = .ok (.goto 873, 3) := kd_law_440.2.2.2.2.2.2.2.2.2.2.2.2.2.2.1
theorem d_law_459 : decode code 459 = .ok (.aload_n 1, 1) := kd_law_440.2.2.2.2.2.2.2.2.2.2.2.2.2.2.2.1
theorem d_law_460 : decode code 460 = .ok (.aload_n 0, 1) := kd_law_440.2.2.2.2.2.2.2.2.2.2.2.2.2.2.2.2.1
theorem d_law_461 : decode code 461 = .ok (.iload_n 3, 1) := kd_law_440.2.2.2.2.2.2.2.2.2.2.2.2.2.2.2.2.2.1
theorem d_law_462 : decode code 462 = .ok (.iconst 1, 1) := kd_law_440.2.2.2.2.2.2.2.2.2.2.2.2.2.2.2.2.2.2.1
theorem d_law_463 : decode code 463 = .ok (.iadd, 1) := kd_law_440.2.2.2.2.2.2.2.2.2.2.2.2.2.2.2.2.2.2.2
theorem kd_law_464 : decode code 464 = .ok (.iaload, 1) ∧ decode code 465 = .ok (.invokevirtual 56, 3) ∧ decode code 468 = .ok (.pop, 1) ∧ decode code 469 = .ok (.aload_n 2, 1) ∧ decode code 470 = .ok (.aload_n 0, 1) ∧ decode code 471 = .ok (.iload_n 3, 1) ∧ decode code 472 = .ok (.iconst 1, 1) ∧ decode code 473 = .ok (.iadd, 1) ∧ decode code 474 = .ok (.iaload, 1) ∧ decode code 475 = .ok (.invokevirtual 59, 3) ∧ decode code 478 = .ok (.pop, 1) ∧ decode code 479 = .ok (.goto 850, 3) ∧ decode code 482 = .ok (.aload_n 1, 1) ∧ decode code 483 = .ok (.aload_n 0, 1) ∧ decode code 484 = .ok (.iload_n 3, 1) ∧ decode code 485 = .ok (.iconst 1, 1) ∧ decode code 486 = .ok (.iadd, 1) ∧ decode code 487 = .ok (.iaload, 1) ∧ decode code 488 = .ok (.aload_n 0, 1) ∧ decode code 489 = .ok (.iload_n 3, 1) := by decide +kernel
theorem d_law_464 : decode code 464 = .ok (.iaload, 1) := kd_law_464.1
theorem d_law_465 : decode code 465 = .ok (.invokevirtual 56, 3) := kd_law_464.2.1
theorem d_law_468 : decode code 468 = .ok (.pop, 1) := kd_law_464.2.2.1
theorem d_law_469 : decode code 469 = .ok (.aload_n 2, 1) := kd_law_464.2.2.2.1
theorem d_law_470 : decode code 470 = .ok (.aload_n 0, 1) := kd_law_464.2.2.2.2.1
theorem d_law_471 : decode code 471 = .ok (.iload_n 3, 1) := kd_law_464.2.2.2.2.2.1
theorem d_law_472 : decode code 472 = .ok (.iconst 1, 1) := kd_law_464.2.2.2.2.2.2.1
theorem d_law_473 : decode code 473 = .ok (.iadd, 1) := kd_law_464.2.2.2.2.2.2.2.1
theorem d_law_474 : decode code 474 = .ok (.iaload, 1) := kd_law_464.2.2.2.2.2.2.2.2.1
theorem d_law_475 : decode code 475 = .ok (.invokevirtual 59, 3) := kd_law_464.2.2.2.2.2.2.2.2.2.1
theorem d_law_478 : decode code 478 = .ok (.pop, 1) := kd_law_464.2.2.2.2.2.2.2.2.2.2.1
theorem d_law_479 : decode code 479 = .ok (.goto 850, 3) := kd_law_464.2.2.2.2.2.2.2.2.2.2.2.1
theorem d_law_482 : decode code 482 = .ok (.aload_n 1, 1) := kd_law_464.2.2.2.2.2.2.2.2.2.2.2.2.1
theorem d_law_483 : decode code 483 = .ok (.aload_n 0, 1) := kd_law_464.2.2.2.2.2.2.2.2.2.2.2.2.2.1
theorem d_law_484 : decode code 484 = .ok (.iload_n 3, 1) := kd_law_464.2.2.2.2.2.2.2.2.2.2.2.2.2.2.1
theorem d_law_485 : decode code 485 = .ok (.iconst 1, 1) := kd_law_464.2.2.2.2.2.2.2.2.2.2.2.2.2.2.2.1
theorem d_law_486 : decode code 486 = .ok (.iadd, 1) := kd_law_464.2.2.2.2.2.2.2.2.2.2.2.2.2.2.2.2.1
theorem d_law_487 : decode code 487 = .ok (.iaload, 1) := kd_law_464.2.2.2.2.2.2.2.2.2.2.2.2.2.2.2.2.2.1
theorem d_law_488 : decode code 488 = .ok (.aload_n 0, 1) := kd_law_464.2.2.2.2.2.2.2.2.2.2.2.2.2.2.2.2.2.2.1
theorem d_law_489 : decode code 489 = .ok (.iload_n 3, 1) := kd_law_464.2.2.2.2.2.2.2.2.2.2.2.2.2.2.2.2.2.2.2
theorem kd_law_490 : decode code 490 = .ok (.iconst 2, 1) ∧ decode code 491 = .ok (.iadd, 1) ∧ decode code 492 = .ok (.iaload, 1) ∧ decode code 493 = .ok (.invokevirtual 60, 3) ∧ decode code 496 = .ok (.pop, 1) ∧ decode code 497 = .ok (.aload_n 2, 1) ∧ decode code 498 = .ok (.aload_n 0, 1) ∧ decode code 499 = .ok (.iload_n 3, 1) ∧ decode code 500 = .ok (.iconst 1, 1) ∧ decode code 501 = .ok (.iadd, 1) ∧ decode code 502 = .ok (.iaload, 1) ∧ decode code 503 = .ok (.aload_n 0, 1) ∧ decode code 504 = .ok (.iload_n 3, 1) ∧ decode code 505 = .ok (.iconst 2, 1) ∧ decode code 506 = .ok (.iadd, 1) ∧ decode code 507 = .ok (.iaload, 1) ∧ decode code 508 = .ok (.invokevirtual 63, 3) ∧ decode code 511 = .ok (.pop, 1) ∧ decode code 512 = .ok (.goto 817, 3) ∧ decode code 515 = .ok (.aload_n 1, 1) := by decide +kernel
theorem d_law_490 : decode code 490 = .ok (.iconst 2, 1) := kd_law_490.1
theorem d_law_491 : decode code 491 = .ok (.iadd, 1) := kd_law_490.2.1
theorem d_law_492 : decode code 492 = .ok (.iaload, 1) := kd_law_490.2.2.1
theorem d_law_493 : decode code 493 = .ok (.invokevirtual 60, 3) := kd_law_490.2.2.2.1
theorem d_law_496 : decode code 496 = .ok (.pop, 1) := kd_law_490.2.2.2.2.1
theorem d_law_497 : decode code 497 = .ok (.aload_n 2, 1) := kd_law_490.2.2.2.2.2.1
theorem d_law_498 : decode code 498 = .ok (.aload_n 0, 1) := kd_law_490.2.2.2.2.2.2.1
theorem d_law_499 : decode code 499 = .ok (.iload_n 3, 1) := kd_law_490.2.2.2.2.2.2.2.1
theorem d_law_500 : decode code 500 = .ok (.iconst 1, 1) := kd_law_490.2.2.2.2.2.2.2.2.1
theorem d_law_501 : decode code 501 = .ok (.iadd, 1) := kd_law_490.2.2.2.2.2.2.2.2.2.1
theorem d_law_502 : decode code 502 = .ok (.iaload, 1) := kd_law_490.2.2.2.2.2.2.2.2.2.2.1
theorem d_law_503 : decode code 503 = .ok (.aload_n 0, 1) := kd_law_490.2.2.2.2.2.2.2.2.2.2.2.1
theorem d_law_504 : decode code 504 = .ok (.iload_n 3, 1) := kd_law_490.2.2.2.2.2.2.2.2.2.2.2.2.1
theorem d_law_505 : decode code 505 = .ok (.iconst 2, 1) := kd_law_490.2.2.2.2.2.2.2.2.2.2.2.2.2.1
theorem d_law_506 : decode code 506 = .ok (.iadd, 1) := kd_law_490.2.2.2.2.2.2.2.2.2.2.2.2.2.2.1
theorem d_law_507 : decode code 507 = .ok (.iaload, 1) := kd_law_490.2.2.2.2.2.2.2.2.2.2.2.2.2.2.2.1
theorem d_law_508 : decode code 508 = .ok (.invokevirtual 63, 3) := kd_law_490.2.2.2.2.2.2.2.2.2.2.2.2.2.2.2.2.1
theorem d_law_511 : decode code 511 = .ok (.pop, 1) := kd_law_490.2.2.2.2.2.2.2.2.2.2.2.2.2.2.2.2.2.1
theorem d_law_512 : decode code 512 = .ok (.goto 817, 3) := kd_law_490.2.2.2.2.2.2.2.2.2.2.2.2.2.2.2.2.2.2.1
theorem d_law_515 : decode code 515 = .ok (.aload_n 1, 1) := kd_law_490.2.2.2.2.2.2.2.2.2.2.2.2.2.2.2.2.2.2.2
theorem kd_law_516 : decode code 516 = .ok (.aload_n 0, 1) ∧ decode code 517 = .ok (.iload_n 3, 1) ∧ decode code 518 = .ok (.iconst 1, 1) ∧ decode code 519 = .ok (.iadd, 1) ∧ decode code 520 = .ok (.iaload, 1) ∧ decode code 521 = .ok (.aload_n 0, 1) ∧ decode code 522 = .ok (.iload_n 3, 1) ∧ decode code 523 = .ok (.iconst 2, 1) ∧ decode code 524 = .ok (.iadd, 1) ∧ decode code 525 = .ok (.iaload, 1) ∧ decode code 526 = .ok (.invokevirtual 64, 3) ∧ decode code 529 = .ok (.pop, 1) ∧ decode code 530 = .ok (.aload_n 2, 1) ∧ decode code 531 = .ok (.aload_n 0, 1) ∧ decode code 532 = .ok (.iload_n 3, 1) ∧ decode code 533 = .ok (.iconst 1, 1) ∧ decode code 534 = .ok (.iadd, 1) ∧ decode code 535 = .ok (.iaload, 1) ∧ decode code 536 = .ok (.aload_n 0, 1) ∧ decode code 537 = .ok (.iload_n 3, 1) := by decide +kernel
theorem d_law_516 : decode code 516 = .ok (.aload_n 0, 1) := kd_law_516.1
theorem d_law_517 : decode code 517 = .ok (.iload_n 3, 1) := kd_law_516.2.1
theorem d_law_518 : decode code 518 = .ok (.iconst 1, 1) := kd_law_516.2.2.1
theorem d_law_519 : decode code 519 = .ok (.iadd, 1) := kd_law_516.2.2.2.1
theorem d_law_520 : decode code 520 = .ok (.iaload, 1) := kd_law_516.2.2.2.2.1
theorem d_law_521 : decode code 521 = .ok (.aload_n 0, 1) := kd_law_516.2.2.2.2.2.1
theorem d_law_522 : decode code 522 = .ok (.iload_n 3, 1) := kd_law_516.2.2.2.2.2.2.1
theorem d_law_523 : decode code 523 = .ok (.iconst 2, 1) := kd_law_516.2.2.2.2.2.2.2.1
theorem d_law_524 : decode code 524 = .ok (.iadd, 1) := kd_law_516.2.2.2.2.2.2.2.2.1
theorem d_law_525 : decode code 525 = .ok (.iaload, 1) := kd_law_516.2.2.2.2.2.2.2.2.2.1
theorem d_law_526 : decode code 526 = .ok (.invokevirtual 64, 3) := kd_law_516.2.2.2.2.2.2.2.2.2.2.1
theorem d_law_529 : decode code 529 = .ok (.pop, 1) := kd_law_516.2.2.2.2.2.2.2.2.2.2.2.1
theorem d_law_530 : decode code 530 = .ok (.aload_n 2, 1) := kd_law_516.2.2.2.2.2.2.2.2.2.2.2.2.1
theorem d_law_531 : decode code 531 = .ok (.aload_n 0, 1) := kd_law_516.2.2.2.2.2.2.2.2.2.2.2.2.2.1
theorem d_law_532 : decode code 532 = .ok (.iload_n 3, 1) := kd_law_516.2.2.2.2.2.2.2.2.2.2.2.2.2.2.1
theorem d_law_533 : decode code 533 = .ok (.iconst 1, 1) := kd_law_516.2.2.2.2.2.2.2.2.2.2.2.2.2.2.2.1
theorem d_law_534 : decode code 534 = .ok (.iadd, 1) := kd_law_516.2.2.2.2.2.2.2.2.2.2.2.2.2.2.2.2.1
theorem d_law_535 : decode code 535 = .ok (.iaload, 1) := kd_law_516.2.2.2.2.2.2.2.2.2.2.2.2.2.2.2.2.2.1
theorem d_law_536 : decode code 536 = .ok (.aload_n 0, 1) := kd_law_516.2.2.2.2.2.2.2.2.2.2.2.2.2.2.2.2.2.2.1
theorem d_law_537 : decode code 537 = .ok (.iload_n 3, 1) := kd_law_516.2.2.2.2.2.2.2.2.2.2.2.2.2.2.2.2.2.2.2
theorem kd_law_538 : decode code 538 = .ok (.iconst 2, 1) ∧ decode code 539 = .ok (.iadd, 1) ∧ decode code 540 = .ok (.iaload, 1) ∧ decode code 541 = .ok (.invokevirtual 67, 3) ∧ decode code 544 = .ok (.pop, 1) ∧ decode code 545 = .ok (.goto 784, 3) ∧ decode code 548 = .ok (.aload_n 1, 1) ∧ decode code 549 = .ok (.aload_n 0, 1) ∧ decode code 550 = .ok (.iload_n 3, 1) ∧ decode code 551 = .ok (.iconst 1, 1) ∧ decode code 552 = .ok (.iadd, 1) ∧ decode code 553 = .ok (.iaload, 1) ∧ decode code 554 = .ok (.aload_n 0, 1) ∧ decode code 555 = .ok (.iload_n 3, 1) ∧ decode code 556 = .ok (.iconst 2, 1) ∧ decode code 557 = .ok (.iadd, 1) ∧ decode code 558 = .ok (.iaload, 1) ∧ decode code 559 = .ok (.ifCond .eq 7, 3) ∧ decode code 562 = .ok (.iconst 1, 1) ∧ decode code 563 = .ok (.goto 4, 3) := by decide +kernel
theorem d_law_538 : decode code 538 = .ok (.iconst 2, 1) := kd_law_538.1
theorem d_law_539 : decode code 539 = .ok (.iadd, 1) := kd_law_538.2.1
theorem d_law_540 : decode code 540 = .ok (.iaload, 1) := kd_law_538.2.2.1
theorem d_law_541 : decode code 541 = .ok (.invokevirtual 67, 3) := kd_law_538.2.2.2.1
theorem d_law_544 : decode code 544 = .ok (.pop, 1) := kd_law_538.2.2.2.2.1
theorem d_law_545 : decode code 545 = .ok (.goto 784, 3) := kd_law_538.2.2.2.2.2.1
theorem d_law_548 : decode code 548 = .ok (.aload_n 1, 1) := kd_law_538.2.2.2.2.2.2.1
theorem d_law_549 : decode code 549 = .ok (.aload_n 0, 1) := kd_law_538.2.2.2.2.2.2.2.1
theorem d_law_550 : decode code 550 = .ok (.iload_n 3, 1) := kd_law_538.2.2.2.2.2.2.2.2.1
theorem d_law_551 : decode code 551 = .ok (.iconst 1, 1) := kd_law_538.2.2.2.2.2.2.2.2.2.1
theorem d_law_552 : decode code 552 = .ok (.iadd, 1) := kd_law_538.2.2.2.2.2.2.2.2.2.2.1
theorem d_law_553 : decode code 553 = .ok (.iaload, 1) := kd_law_538.2.2.2.2.2.2.2.2.2.2.2.1
theorem d_law_554 : decode code 554 = .ok (.aload_n 0, 1) := kd_law_538.2.2.2.2.2.2.2.2.2.2.2.2.1
theorem d_law_555 : decode code 555 = .ok (.iload_n 3, 1) := kd_law_538.2.2.2.2.2.2.2.2.2.2.2.2.2.1
theorem d_law_556 : decode code 556 = .ok (.iconst 2, 1) := kd_law_538.2.2.2.2.2.2.2.2.2.2.2.2.2.2.1
theorem d_law_557 : decode code 557 = .ok (.iadd, 1) := kd_law_538.2.2.2.2.2.2.2.2.2.2.2.2.2.2.2.1
theorem d_law_558 : decode code 558 = .ok (.iaload, 1) := kd_law_538.2.2.2.2.2.2.2.2.2.2.2.2.2.2.2.2.1
theorem d_law_559 : decode code 559 = .ok (.ifCond .eq 7, 3) := kd_law_538.2.2.2.2.2.2.2.2.2.2.2.2.2.2.2.2.2.1
theorem d_law_562 : decode code 562 = .ok (.iconst 1, 1) := kd_law_538.2.2.2.2.2.2.2.2.2.2.2.2.2.2.2.2.2.2.1
theorem d_law_563 : decode code 563 = .ok (.goto 4, 3) := kd_law_538.2.2.2.2.2.2.2.2.2.2.2.2.2.2.2.2.2.2.2
theorem kd_law_566 : decode code 566 = .ok (.iconst 0, 1) ∧ decode code 567 = .ok (.invokevirtual 68, 3) ∧ decode code 570 = .ok (.pop, 1) ∧ decode code 571 = .ok (.aload_n 2, 1) ∧ decode code 572 = .ok (.aload_n 0, 1) ∧ decode code 573 = .ok (.iload_n 3, 1) ∧ decode code 574 = .ok (.iconst 1, 1) ∧ decode code 575 = .ok (.iadd, 1) ∧ decode code 576 = .ok (.iaload, 1) ∧ decode code 577 = .ok (.aload_n 0, 1) ∧ decode code 578 = .ok (.iload_n 3, 1) ∧ decode code 579 = .ok (.iconst 2, 1) ∧ decode code 580 = .ok (.iadd, 1) ∧ decode code 581 = .ok (.iaload, 1) ∧ decode code 582 = .ok (.ifCond .eq 7, 3) ∧ decode code 585 = .ok (.iconst 1, 1) ∧ decode code 586 = .ok (.goto 4, 3) ∧ decode code 589 = .ok (.iconst 0, 1) ∧ decode code 590 = .ok (.invokevirtual 71, 3) ∧ decode code 593 = .ok (.pop, 1) := by decide +kernel
theorem d_law_566 : decode code 566 = .ok (.iconst 0, 1) := kd_law_566.1
theorem d_law_567 : decode code 567 = .ok (.invokevirtual 68, 3) := kd_law_566.2.1
theorem d_law_570 : decode code 570 = .ok (.pop, 1) := kd_law_566.2.2.1
theorem d_law_571 : decode code 571 = .ok (.aload_n 2, 1) := kd_law_566.2.2.2.1
theorem d_law_572 : decode code 572 = .ok (.aload_n 0, 1) := kd_law_566.2.2.2.2.1
theorem d_law_573 : decode code 573 = .ok (.iload_n 3, 1) := kd_law_566.2.2.2.2.2.1
theorem d_law_574 : decode code 574 = .ok (.iconst 1, 1) := kd_law_566.2.2.2.2.2.2.1
theorem d_law_575 : decode code 575 = .ok (.iadd, 1) := kd_law_566.2.2.2.2.2.2.2.1
theorem d_law_576 : decode code 576 = .ok (.iaload, 1) := kd_law_566.2.2.2.2.2.2.2.2.1
theorem d_law_577 : decode code 577 = .ok (.aload_n 0, 1) := kd_law_566.2.2.2.2.2.2.2.2.2.1
theorem d_law_578 : decode code 578 = .ok (.iload_n 3, 1) := kd_law_566.2.2.2.2.2.2.2.2.2.2.1
theorem d_law_579 : decode code 579 = .ok (.iconst 2, 1) := kd_law_566.2.2.2.2.2.2.2.2.2.2.2.1
theorem d_law_580 : decode code 580 = .ok (.iadd, 1) := kd_law_566.2.2.2.2.2.2.2.2.2.2.2.2.1
theorem d_law_581 : decode code 581 = .ok (.iaload, 1) := kd_law_566.2.2.2.2.2.2.2.2.2.2.2.2.2.1
theorem d_law_582 : decode code 582 = .ok (.ifCond .eq 7, 3) := kd_law_566.2.2.2.2.2.2.2.2.2.2.2.2.2.2.1
theorem d_law_585 : decode code 585 = .ok (.iconst 1, 1) := kd_law_566.2.2.2.2.2.2.2.2.2.2.2.2.2.2.2.1
theorem d_law_586 : decode code 586 = .ok (.goto 4, 3) := kd_law_566.2.2.2.2.2.2.2.2.2.2.2.2.2.2.2.2.1
theorem d_law_589 : decode code 589 = .ok (.iconst 0, 1) := kd_law_566.2.2.2.2.2.2.2.2.2.2.2.2.2.2.2.2.2.1
theorem d_law_590 : decode code 590 = .ok (.invokevirtual 71, 3) := kd_law_566.2.2.2.2.2.2.2.2.2.2.2.2.2.2.2.2.2.2.1
theorem d_law_593 : decode code 593 = .ok (.pop, 1) := kd_law_566.2.2.2.2.2.2.2.2.2.2.2.2.2.2.2.2.2.2.2
theorem kd_law_594 : decode code 594 = .ok (.goto 735, 3) ∧ decode code 597 = .ok (.aload_n 1, 1) ∧ decode code 598 = .ok (.aload_n 0, 1) ∧ decode code 599 = .ok (.iload_n 3, 1) ∧ decode code 600 = .ok (.iconst 1, 1) ∧ decode code 601 = .ok (.iadd, 1) ∧ decode code 602 = .ok (.iaload, 1) ∧ decode code 603 = .ok (.aload_n 0, 1) ∧ decode code 604 = .ok (.iload_n 3, 1) ∧ decode code 605 = .ok (.iconst 2, 1) ∧ decode code 606 = .ok (.iadd, 1) ∧ decode code 607 = .ok (.iaload, 1) ∧ decode code 608 = .ok (.invokevirtual 72, 3) ∧ decode code 611 = .ok (.pop, 1) ∧ decode code 612 = .ok (.aload_n 2, 1) ∧ decode code 613 = .ok (.aload_n 0, 1) ∧ decode code 614 = .ok (.iload_n 3, 1) ∧ decode code 615 = .ok (.iconst 1, 1) ∧ decode code 616 = .ok (.iadd, 1) ∧ decode code 617 = .ok (.iaload, 1) := by decide +kernel
theorem d_law_594 : decode code 594 = .ok (.goto 735, 3) := kd_law_594.1
theorem d_law_597 : decode code 597 = .ok (.aload_n 1, 1) := kd_law_594.2.1
theorem d_law_598 : decode code 598 = .ok (.aload_n 0, 1) := kd_law_594.2.2.1
theorem d_law_599 : decode code 599 = .ok (.iload_n 3, 1) := kd_law_594.2.2.2.1
theorem d_law_600 : decode code 600 = .ok (.iconst 1, 1) := kd_law_594.2.2.2.2.1
theorem d_law_601 : decode code 601 = .ok (.iadd, 1) := kd_law_594.2.2.2.2.2.1
theorem d_law_602 : decode code 602 = .ok (.iaload, 1) := kd_law_594.2.2.2.2.2.2.1
theorem d_law_603 : decode code 603 = .ok (.aload_n 0, 1) := kd_law_594.2.2.2.2.2.2.2.1
theorem d_law_604 : decode code 604 = .ok (.iload_n 3, 1) := kd_law_594.2.2.2.2.2.2.2.2.1
theorem d_law_605 : decode code 605 = .ok (.iconst 2, 1) := kd_law_594.2.2.2.2.2.2.2.2.2.1
theorem d_law_606 : decode code 606 = .ok (.iadd, 1) := kd_law_594.2.2.2.2.2.2.2.2.2.2.1
theorem d_law_607 : decode code 607 = .ok (.iaload, 1) := kd_law_594.2.2.2.2.2.2.2.2.2.2.2.1
theorem d_law_608 : decode code 608 = .ok (.invokevirtual 72, 3) := kd_law_594.2.2.2.2.2.2.2.2.2.2.2.2.1
theorem d_law_611 : decode code 611 = .ok (.pop, 1) := kd_law_594.2.2.2.2.2.2.2.2.2.2.2.2.2.1
theorem d_law_612 : decode code 612 = .ok (.aload_n 2, 1) := kd_law_594.2.2.2.2.2.2.2.2.2.2.2.2.2.2.1
theorem d_law_613 : decode code 613 = .ok (.aload_n 0, 1) := kd_law_594.2.2.2.2.2.2.2.2.2.2.2.2.2.2.2.1
theorem d_law_614 : decode code 614 = .ok (.iload_n 3, 1) := kd_law_594.2.2.2.2.2.2.2.2.2.2.2.2.2.2.2.2.1
theorem d_law_615 : decode code 615 = .ok (.iconst 1, 1) := kd_law_594.2.2.2.2.2.2.2.2.2.2.2.2.2.2.2.2.2.1
theorem d_law_616 : decode code 616 = .ok (.iadd, 1) := kd_law_594.2.2.2.2.2.2.2.2.2.2.2.2.2.2.2.2.2.2.1
theorem d_law_617 : decode code 617 = .ok (.iaload, 1) := kd_law_594.2.2.2.2.2.2.2.2.2.2.2.2.2.2.2.2.2.2.2
theorem kd_law_618 : decode code 618 = .ok (.aload_n 0, 1) ∧ decode code 619 = .ok (.iload_n 3, 1) ∧ decode code 620 = .ok (.iconst 2, 1) ∧ decode code 621 = .ok (.iadd, 1) ∧ decode code 622 = .ok (.iaload, 1) ∧ decode code 623 = .ok (.invokevirtual 75, 3) ∧ decode code 626 = .ok (.pop, 1) ∧ decode code 627 = .ok (.goto 702, 3) ∧ decode code 630 = .ok (.aload_n 1, 1) ∧ decode code 631 = .ok (.aload_n 0, 1) ∧ decode code 632 = .ok (.iload_n 3, 1) ∧ decode code 633 = .ok (.iconst 1, 1) ∧ decode code 634 = .ok (.iadd, 1) ∧ decode code 635 = .ok (.iaload, 1) ∧ decode code 636 = .ok (.invokevirtual 76, 3) ∧ decode code 639 = .ok (.pop, 1) ∧ decode code 640 = .ok (.aload_n 2, 1) ∧ decode code 641 = .ok (.aload_n 0, 1) ∧ decode code 642 = .ok (.iload_n 3, 1) ∧ decode code 643 = .ok (.iconst 1, 1) := by decide +kernel
theorem d_law_618 : decode code 618 = .ok (.aload_n 0, 1) := kd_law_618.1
theorem d_law_619 : decode code 619 = .ok (.iload_n 3, 1) := kd_law_618.2.1
theorem d_law_620 : decode code 620 = .ok (.iconst 2, 1) := kd_law_618.2.2.1
theorem d_law_621 : decode code 621 = .ok (.iadd, 1) := kd_law_618.2.2.2.1
theorem d_law_622 : decode code 622 = .ok (.iaload, 1) := kd_law_618.2.2.2.2.1
theorem d_law_623 : decode code 623 = .ok (.invokevirtual 75, 3) := kd_law_618.2.2.2.2.2.1
theorem d_law_626 : decode code 626 = .ok (.pop, 1) := kd_law_618.2.2.2.2.2.2.1
theorem d_law_627 : decode code 627 = .ok (.goto 702, 3) := kd_law_618.2.2.2.2.2.2.2.1
theorem d_law_630 : decode code 630 = .ok (.aload_n 1, 1) := kd_law_618.2.2.2.2.2.2.2.2.1
theorem d_law_631 : decode code 631 = .ok (.aload_n 0, 1) := kd_law_618.2.2.2.2.2.2.2.2.2.1
theorem d_law_632 : decode code 632 = .ok (.iload_n 3, 1) := kd_law_618.2.2.2.2.2.2.2.2.2.2.1
theorem d_law_633 : decode code 633 = .ok (.iconst 1, 1) := kd_law_618.2.2.2.2.2.2.2.2.2.2.2.1
theorem d_law_634 : decode code 634 = .ok (.iadd, 1) := kd_law_618.2.2.2.2.2.2.2.2.2.2.2.2.1
theorem d_law_635 : decode code 635 = .ok (.iaload, 1) := kd_law_618.2.2.2.2.2.2.2.2.2.2.2.2.2.1
theorem d_law_636 : decode code 636 = .ok (.invokevirtual 76, 3) := kd_law_618.2.2.2.2.2.2.2.2.2.2.2.2.2.2.1
theorem d_law_639 : decode code 639 = .ok (.pop, 1) := kd_law_618.2.2.2.2.2.2.2.2.2.2.2.2.2.2.2.1
theorem d_law_640 : decode code 640 = .ok (.aload_n 2, 1) := kd_law_618.2.2.2.2.2.2.2.2.2.2.2.2.2.2.2.2.1
theorem d_law_641 : decode code 641 = .ok (.aload_n 0, 1) := kd_law_618.2.2.2.2.2.2.2.2.2.2.2.2.2.2.2.2.2.1
theorem d_law_642 : decode code 642 = .ok (.iload_n 3, 1) := kd_law_618.2.2.2.2.2.2.2.2.2.2.2.2.2.2.2.2.2.2.1
theorem d_law_643 : decode code 643 = .ok (.iconst 1, 1) := kd_law_618.2.2.2.2.2.2.2.2.2.2.2.2.2.2.2.2.2.2.2
theorem kd_law_644 : decode code 644 = .ok (.iadd, 1) ∧ decode code 645 = .ok (.iaload, 1) ∧ decode code 646 = .ok (.invokevirtual 79, 3) ∧ decode code 649 = .ok (.pop, 1) ∧ decode code 650 = .ok (.goto 679, 3) ∧ decode code 653 = .ok (.aload_n 1, 1) ∧ decode code 654 = .ok (.aload_n 0, 1) ∧ decode code 655 = .ok (.iload_n 3, 1) ∧ decode code 656 = .ok (.iconst 1, 1) ∧ decode code 657 = .ok (.iadd, 1) ∧ decode code 658 = .ok (.iaload, 1) ∧ decode code 659 = .ok (.aload_n 0, 1) ∧ decode code 660 = .ok (.iload_n 3, 1) ∧ decode code 661 = .ok (.iconst 2, 1) ∧ decode code 662 = .ok (.iadd, 1) ∧ decode code 663 = .ok (.iaload, 1) ∧ decode code 664 = .ok (.invokevirtual 80, 3) ∧ decode code 667 = .ok (.pop, 1) ∧ decode code 668 = .ok (.aload_n 2, 1) ∧ decode code 669 = .ok (.aload_n 0, 1) := by decide +kernel
theorem d_law_644 : decode code 644 = .ok (.iadd, 1) := kd_law_644.1
theorem d_law_645 : decode code 645 = .ok (.iaload, 1) := kd_law_644.2.1
theorem d_law_646 : decode code 646 = .ok (.invokevirtual 79, 3) := kd_law_644.2.2.1
theorem d_law_649 : decode code 649 = .ok (.pop, 1) := kd_law_644.2.2.2.1
theorem d_law_650 : decode code 650 = .ok (.goto 679, 3) := kd_law_644.2.2.2.2.1
theorem d_law_653 : decode code 653 = .ok (.aload_n 1, 1) := kd_law_644.2.2.2.2.2.1
theorem d_law_654 : decode code 654 = .ok (.aload_n 0, 1) := kd_law_644.2.2.2.2.2.2.1
theorem d_law_655 : decode code 655 = .ok (.iload_n 3, 1) := kd_law_644.2.2.2.2.2.2.2.1
theorem d_law_656 : decode code 656 = .ok (.iconst 1, 1) := kd_law_644.2.2.2.2.2.2.2.2.1
theorem d_law_657 : decode code 657 = .ok (.iadd, 1) := kd_law_644.2.2.2.2.2.2.2.2.2.1
theorem d_law_658 : decode code 658 = .ok (.iaload, 1) := kd_law_644.2.2.2.2.2.2.2.2.2.2.1
theorem d_law_659 : decode code 659 = .ok (.aload_n 0, 1) := kd_law_644.2.2.2.2.2.2.2.2.2.2.2.1
theorem d_law_660 : decode code 660 = .ok (.iload_n 3, 1) := kd_law_644.2.2.2.2.2.2.2.2.2.2.2.2.1
theorem d_law_661 : decode code 661 = .ok (.iconst 2, 1) := kd_law_644.2.2.2.2.2.2.2.2.2.2.2.2.2.1
theorem d_law_662 : decode code 662 = .ok (.iadd, 1) := kd_law_644.2.2.2.2.2.2.2.2.2.2.2.2.2.2.1
theorem d_law_663 : decode code 663 = .ok (.iaload, 1) := kd_law_644.2.2.2.2.2.2.2.2.2.2.2.2.2.2.2.1
theorem d_law_664 : decode code 664 = .ok (.invokevirtual 80, 3) := kd_law_644.2.2.2.2.2.2.2.2.2.2.2.2.2.2.2.2.1
theorem d_law_667 : decode code 667 = .ok (.pop, 1) := kd_law_644.2.2.2.2.2.2.2.2.2.2.2.2.2.2.2.2.2.1
theorem d_law_668 : decode code 668 = .ok (.aload_n 2, 1) := kd_law_644.2.2.2.2.2.2.2.2.2.2.2.2.2.2.2.2.2.2.1
theorem d_law_669 : decode code 669 = .ok (.aload_n 0, 1) := kd_law_644.2.2.2.2.2.2.2.2.2.2.2.2.2.2.2.2.2.2.2
theorem kd_law_670 : decode code 670 = .ok (.iload_n 3, 1) ∧ decode code 671 = .ok (.iconst 1, 1) ∧ decode code 672 = .ok (.iadd, 1) ∧ decode code 673 = .ok (.iaload, 1) ∧ decode code 674 = .ok (.aload_n 0, 1) ∧ decode code 675 = .ok (.iload_n 3, 1) ∧ decode code 676 = .ok (.iconst 2, 1) ∧ decode code 677 = .ok (.iadd, 1) ∧ decode code 678 = .ok (.iaload, 1) ∧ decode code 679 = .ok (.invokevirtual 83, 3) ∧ decode code 682 = .ok (.pop, 1) ∧ decode code 683 = .ok (.goto 646, 3) ∧ decode code 686 = .ok (.aload_n 1, 1) ∧ decode code 687 = .ok (.aload_n 0, 1) ∧ decode code 688 = .ok (.iload_n 3, 1) ∧ decode code 689 = .ok (.iconst 1, 1) ∧ decode code 690 = .ok (.iadd, 1) ∧ decode code 691 = .ok (.iaload, 1) ∧ decode code 692 = .ok (.invokevirtual 84, 3) ∧ decode code 695 = .ok (.pop, 1) := by decide +kernel
theorem d_law_670 : decode code 670 = .ok (.iload_n 3, 1) := kd_law_670.1
theorem d_law_671 : decode code 671 = .ok (.iconst 1, 1) := kd_law_670.2.1
theorem d_law_672 : decode code 672 = .ok (.iadd, 1) := kd_law_670.2.2.1
theorem d_law_673 : decode code 673 = .ok (.iaload, 1) := kd_law_670.2.2.2.1
theorem d_law_674 : decode code 674 = .ok (.aload_n 0, 1) := kd_law_670.2.2.2.2.1
theorem d_law_675 : decode code 675 = .ok (.iload_n 3, 1) := kd_law_670.2.2.2.2.2.1
theorem d_law_676 : decode code 676 = .ok (.iconst 2, 1) := kd_law_670.2.2.2.2.2.2.1
theorem d_law_677 : decode code 677 = .ok (.iadd, 1) := kd_law_670.2.2.2.2.2.2.2.1
theorem d_law_678 : decode code 678 = .ok (.iaload, 1) := kd_law_670.2.2.2.2.2.2.2.2.1
theorem d_law_679 : decode code 679 = .ok (.invokevirtual 83, 3) := kd_law_670.2.2.2.2.2.2.2.2.2.1
theorem d_law_682 : decode code 682 = .ok (.pop, 1) := kd_law_670.2.2.2.2.2.2.2.2.2.2.1
theorem d_law_683 : decode code 683 = .ok (.goto 646, 3) := kd_law_670.2.2.2.2.2.2.2.2.2.2.2.1
theorem d_law_686 : decode code 686 = .ok (.aload_n 1, 1) := kd_law_670.2.2.2.2.2.2.2.2.2.2.2.2.1
theorem d_law_687 : decode code 687 = .ok (.aload_n 0, 1) := kd_law_670.2.2.2.2.2.2.2.2.2.2.2.2.2.1
theorem d_law_688 : decode code 688 = .ok (.iload_n 3, 1) := kd_law_670.2.2.2.2.2.2.2.2.2.2.2.2.2.2.1
theorem d_law_689 : decode code 689 = .ok (.iconst 1, 1) := kd_law_670.2.2.2.2.2.2.2.2.2.2.2.2.2.2.2.1
theorem d_law_690 : decode code 690 = .ok (.iadd, 1) := kd_law_670.2.2.2.2.2.2.2.2.2.2.2.2.2.2.2.2.1
theorem d_law_691 : decode code 691 = .ok (.iaload, 1) := kd_law_670.2.2.2.2.2.2.2.2.2.2.2.2.2.2.2.2.2.1
theorem d_law_692 : decode code 692 = .ok (.invokevirtual 84, 3) := kd_law_670.2.2.2.2.2.2.2.2.2.2.2.2.2.2.2.2.2.2.1
theorem d_law_695 : decode code 695 = .ok (.pop, 1) := kd_law_670.2.2.2.2.2.2.2.2.2.2.2.2.2.2.2.2.2.2.2
theorem kd_law_696 : decode code 696 = .ok (.aload_n 2, 1) ∧ decode code 697 = .ok (.aload_n 0, 1) ∧ decode code 698 = .ok (.iload_n 3, 1) ∧ decode code 699 = .ok (.iconst 1, 1) ∧ decode code 700 = .ok (.iadd, 1) ∧ decode code 701 = .ok (.iaload, 1) ∧ decode code 702 = .ok (.invokevirtual 87, 3) ∧ decode code 705 = .ok (.pop, 1) ∧ decode code 706 = .ok (.goto 623, 3) ∧ decode code 709 = .ok (.aload_n 1, 1) ∧ decode code 710 = .ok (.aload_n 0, 1) ∧ decode code 711 = .ok (.iload_n 3, 1) ∧ decode code 712 = .ok (.iconst 1, 1) ∧ decode code 713 = .ok (.iadd, 1) ∧ decode code 714 = .ok (.iaload, 1) ∧ decode code 715 = .ok (.aload_n 0, 1) ∧ decode code 716 = .ok (.iload_n 3, 1) ∧ decode code 717 = .ok (.iconst 2, 1) ∧ decode code 718 = .ok (.iadd, 1) ∧ decode code 719 = .ok (.iaload, 1) := by decide +kernel
theorem d_law_696 : decode code 696 = .ok (.aload_n 2, 1) := kd_law_696.1
theorem d_law_697 : decode code 697 = .ok (.aload_n 0, 1) := kd_law_696.2.1
theorem d_law_698 : decode code 698 = .ok (.iload_n 3, 1) := kd_law_696.2.2.1
theorem d_law_699 : decode code 699 = .ok (.iconst 1, 1) := kd_law_696.2.2.2.1
theorem d_law_700 : decode code 700 = .ok (.iadd, 1) := kd_law_696.2.2.2.2.1
theorem d_law_701 : decode code 701 = .ok (.iaload, 1) := kd_law_696.2.2.2.2.2.1
theorem d_law_702 : decode code 702 = .ok (.invokevirtual 87, 3) := kd_law_696.2.2.2.2.2.2.1
theorem d_law_705 : decode code 705 = .ok (.pop, 1) := kd_law_696.2.2.2.2.2.2.2.1
theorem d_law_706 : decode code 706 = .ok (.goto 623, 3) := kd_law_696.2.2.2.2.2.2.2.2.1
theorem d_law_709 : decode code 709 = .ok (.aload_n 1, 1) := kd_law_696.2.2.2.2.2.2.2.2.2.1
theorem d_law_710 : decode code 710 = .ok (.aload_n 0, 1) := kd_law_696.2.2.2.2.2.2.2.2.2.2.1
theorem d_law_711 : decode code 711 = .ok (.iload_n 3, 1) := kd_law_696.2.2.2.2.2.2.2.2.2.2.2.1
theorem d_law_712 : decode code 712 = .ok (.iconst 1, 1) := kd_law_696.2.2.2.2.2.2.2.2.2.2.2.2.1
theorem d_law_713 : decode code 713 = .ok (.iadd, 1) := kd_law_696.2.2.2.2.2.2.2.2.2.2.2.2.2.1
theorem d_law_714 : decode code 714 = .ok (.iaload, 1) := kd_law_696.2.2.2.2.2.2.2.2.2.2.2.2.2.2.1
theorem d_law_715 : decode code 715 = .ok (.aload_n 0, 1) := kd_law_696.2.2.2.2.2.2.2.2.2.2.2.2.2.2.2.1
theorem d_law_716 : decode code 716 = .ok (.iload_n 3, 1) := kd_law_696.2.2.2.2.2.2.2.2.2.2.2.2.2.2.2.2.1
theorem d_law_717 : decode code 717 = .ok (.iconst 2, 1) := kd_law_696.2.2.2.2.2.2.2.2.2.2.2.2.2.2.2.2.2.1
theorem d_law_718 : decode code 718 = .ok (.iadd, 1) := kd_law_696.2.2.2.2.2.2.2.2.2.2.2.2.2.2.2.2.2.2.1
theorem d_law_719 : decode code 719 = .ok (.iaload, 1) := kd_law_696.2.2.2.2.2.2.2.2.2.2.2.2.2.2.2.2.2.2.2
theorem kd_law_720 : decode code 720 = .ok (.invokevirtual 88, 3) ∧ decode code 723 = .ok (.pop, 1) ∧ decode code 724 = .ok (.aload_n 2, 1) ∧ decode code 725 = .ok (.aload_n 0, 1) ∧ decode code 726 = .ok (.iload_n 3, 1) ∧ decode code 727 = .ok (.iconst 1, 1) ∧ decode code 728 = .ok (.iadd, 1) ∧ decode code 729 = .ok (.iaload, 1) ∧ decode code 730 = .ok (.aload_n 0, 1) ∧ decode code 731 = .ok (.iload_n 3, 1) ∧ decode code 732 = .ok (.iconst 2, 1) ∧ decode code 733 = .ok (.iadd, 1) ∧ decode code 734 = .ok (.iaload, 1) ∧ decode code 735 = .ok (.invokevirtual 91, 3) ∧ decode code 738 = .ok (.pop, 1) ∧ decode code 739 = .ok (.goto 590, 3) ∧ decode code 742 = .ok (.aload_n 1, 1) ∧ decode code 743 = .ok (.aload_n 0, 1) ∧ decode code 744 = .ok (.iload_n 3, 1) ∧ decode code 745 = .ok (.iconst 1, 1) := by decide +kernel
theorem d_law_720 : decode code 720 = .ok (.invokevirtual 88, 3) := kd_law_720.1
theorem d_law_723 : decode code 723 = .ok (.pop, 1) := kd_law_720.2.1
theorem d_law_724 : decode code 724 = .ok (.aload_n 2, 1) := kd_law_720.2.2.1
theorem d_law_725 : decode code 725 = .ok (.aload_n 0, 1) := kd_law_720.2.2.2.1
theorem d_law_726 : decode code 726 = .ok (.iload_n 3, 1) := kd_law_720.2.2.2.2.1
theorem d_law_727 : decode code 727 = .ok (.iconst 1, 1) := kd_law_720.2.2.2.2.2.1
theorem d_law_728 : decode code 728 = .ok (.iadd, 1) := kd_law_720.2.2.2.2.2.2.1
theorem d_law_729 : decode code 729 = .ok (.iaload, 1) := kd_law_720.2.2.2.2.2.2.2.1
theorem d_law_730 : decode code 730 = .ok (.aload_n 0, 1) := kd_law_720.2.2.2.2.2.2.2.2.1
theorem d_law_731 : decode code 731 = .ok (.iload_n 3, 1) := kd_law_720.2.2.2.2.2.2.2.2.2.1
theorem d_law_732 : decode code 732 = .ok (.iconst 2, 1) := kd_law_720.2.2.2.2.2.2.2.2.2.2.1
theorem d_law_733 : decode code 733 = .ok (.iadd, 1) := kd_law_720.2.2.2.2.2.2.2.2.2.2.2.1
theorem d_law_734 : decode code 734 = .ok (.iaload, 1) := kd_law_720.2.2.2.2.2.2.2.2.2.2.2.2.1
theorem d_law_735 : decode code 735 = .ok (.invokevirtual 91, 3) := kd_law_720.2.2.2.2.2.2.2.2.2.2.2.2.2.1
theorem d_law_738 : decode code 738 = .ok (.pop, 1) := kd_law_720.2.2.2.2.2.2.2.2.2.2.2.2.2.2.1
theorem d_law_739 : decode code 739 = .ok (.goto 590, 3) := kd_law_720.2.2.2.2.2.2.2.2.2.2.2.2.2.2.2.1
theorem d_law_742 : decode code 742 = .ok (.aload_n 1, 1) := kd_law_720.2.2.2.2.2.2.2.2.2.2.2.2.2.2.2.2.1
theorem d_law_743 : decode code 743 = .ok (.aload_n 0, 1) := kd_law_720.2.2.2.2.2.2.2.2.2.2.2.2.2.2.2.2.2.1
theorem d_law_744 : decode code 744 = .ok (.iload_n 3, 1) := kd_law_720.2.2.2.2.2.2.2.2.2.2.2.2.2.2.2.2.2.2.1
theorem d_law_745 : decode code 745 = .ok (.iconst 1, 1) := kd_law_720.2.2.2.2.2.2.2.2.2.2.2.2.2.2.2.2.2.2.2
theorem kd_law_746 : decode code 746 = .ok (.iadd, 1) ∧ decode code 747 = .ok (.iaload, 1) ∧ decode code 748 = .ok (.aload_n 0, 1) ∧ decode code 749 = .ok (.iload_n 3, 1) ∧ decode code 750 = .ok (.iconst 2, 1) ∧ decode code 751 = .ok (.iadd, 1) ∧ decode code 752 = .ok (.iaload, 1) ∧ decode code 753 = .ok (.aload_n 0, 1) ∧ decode code 754 = .ok (.iload_n 3, 1) ∧ decode code 755 = .ok (.iconst 3, 1) ∧ decode code 756 = .ok (.iadd, 1) ∧ decode code 757 = .ok (.iaload, 1) ∧ decode code 758 = .ok (.aload_n 0, 1) ∧ decode code 759 = .ok (.iload_n 3, 1) ∧ decode code 760 = .ok (.iconst 4, 1) ∧ decode code 761 = .ok (.iadd, 1) ∧ decode code 762 = .ok (.iaload, 1) ∧ decode code 763 = .ok (.invokevirtual 92, 3) ∧ decode code 766 = .ok (.pop, 1) ∧ decode code 767 = .ok (.aload_n 2, 1) := by decide +kernel
theorem d_law_746 : decode code 746 = .ok (.iadd, 1) := kd_law_746.1
theorem d_law_747 : decode code 747 = .ok (.iaload, 1) := kd_law_746.2.1
theorem d_law_748 : decode code 748 = .ok (.aload_n 0, 1) := kd_law_746.2.2.1
theorem d_law_749 : decode code 749 = .ok (.iload_n 3, 1) := kd_law_746.2.2.2.1
theorem d_law_750 : decode code 750 = .ok (.iconst 2, 1) := kd_law_746.2.2.2.2.1
theorem d_law_751 : decode code 751 = .ok (.iadd, 1) := kd_law_746.2.2.2.2.2.1
theorem d_law_752 : decode code 752 = .ok (.iaload, 1) := kd_law_746.2.2.2.2.2.2.1
theorem d_law_753 : decode code 753 = .ok (.aload_n 0, 1) := kd_law_746.2.2.2.2.2.2.2.1
theorem d_law_754 : decode code 754 = .ok (.iload_n 3, 1) := kd_law_746.2.2.2.2.2.2.2.2.1
theorem d_law_755 : decode code 755 = .ok (.iconst 3, 1) := kd_law_746.2.2.2.2.2.2.2.2.2.1
theorem d_law_756 : decode code 756 = .ok (.iadd, 1) := kd_law_746.2.2.2.2.2.2.2.2.2.2.1
theorem d_law_757 : decode code 757 = .ok (.iaload, 1) := kd_law_746.2.2.2.2.2.2.2.2.2.2.2.1
theorem d_law_758 : decode code 758 = .ok (.aload_n 0, 1) := kd_law_746.2.2.2.2.2.2.2.2.2.2.2.2.1
theorem d_law_759 : decode code 759 = .ok (.iload_n 3, 1) := kd_law_746.2.2.2.2.2.2.2.2.2.2.2.2.2.1
theorem d_law_760 : decode code 760 = .ok (.iconst 4, 1) := kd_law_746.2.2.2.2.2.2.2.2.2.2.2.2.2.2.1
theorem d_law_761 : decode code 761 = .ok (.iadd, 1) := kd_law_746.2.2.2.2.2.2.2.2.2.2.2.2.2.2.2.1
theorem d_law_762 : decode code 762 = .ok (.iaload, 1) := kd_law_746.2.2.2.2.2.2.2.2.2.2.2.2.2.2.2.2.1
theorem d_law_763 : decode code 763 = .ok (.invokevirtual 92, 3) := kd_law_746.2.2.2.2.2.2.2.2.2.2.2.2.2.2.2.2.2.1
theorem d_law_766 : decode code 766 = .ok (.pop, 1) := kd_law_746.2.2.2.2.2.2.2.2.2.2.2.2.2.2.2.2.2.2.1
theorem d_law_767 : decode code 767 = .ok (.aload_n 2, 1) := kd_law_746.2.2.2.2.2.2.2.2.2.2.2.2.2.2.2.2.2.2.2
theorem kd_law_768 : decode code 768 = .ok (.aload_n 0, 1) ∧ decode code 769 = .ok (.iload_n 3, 1) ∧ decode code 770 = .ok (.iconst 1, 1) ∧ decode code 771 = .ok (.iadd, 1) ∧ decode code 772 = .ok (.iaload, 1) ∧ decode code 773 = .ok (.aload_n 0, 1) ∧ decode code 774 = .ok (.iload_n 3, 1) ∧ decode code 775 = .ok (.iconst 2, 1) ∧ decode code 776 = .ok (.iadd, 1) ∧ decode code 777 = .ok (.iaload, 1) ∧ decode code 778 = .ok (.aload_n 0, 1) ∧ decode code 779 = .ok (.iload_n 3, 1) ∧ decode code 780 = .ok (.iconst 3, 1) ∧ decode code 781 = .ok (.iadd, 1) ∧ decode code 782 = .ok (.iaload, 1) ∧ decode code 783 = .ok (.aload_n 0, 1) ∧ decode code 784 = .ok (.iload_n 3, 1) ∧ decode code 785 = .ok (.iconst 4, 1) ∧ decode code 786 = .ok (.iadd, 1) ∧ decode code 787 = .ok (.iaload, 1) := by decide +kernel
theorem d_law_768 : decode code 768 = .ok (.aload_n 0, 1) := kd_law_768.1
theorem d_law_769 : decode code 769 = .ok (.iload_n 3, 1) := kd_law_768.2.1
theorem d_law_770 : decode code 770 = .ok (.iconst 1, 1) := kd_law_768.2.2.1
theorem d_law_771 : decode code 771 = .ok (.iadd, 1) := kd_law_768.2.2.2.1
theorem d_law_772 : decode code 772 = .ok (.iaload, 1) := kd_law_768.2.2.2.2.1
theorem d_law_773 : decode code 773 = .ok (.aload_n 0, 1) := kd_law_768.2.2.2.2.2.1
theorem d_law_774 : decode code 774 = .ok (.iload_n 3, 1) := kd_law_768.2.2.2.2.2.2.1
theorem d_law_775 : decode code 775 = .ok (.iconst 2, 1) := kd_law_768.2.2.2.2.2.2.2.1
theorem d_law_776 : decode code 776 = .ok (.iadd, 1) := kd_law_768.2.2.2.2.2.2.2.2.1
theorem d_law_777 : decode code 777 = .ok (.iaload, 1) := kd_law_768.2.2.2.2.2.2.2.2.2.1
theorem d_law_778 : decode code 778 = .ok (.aload_n 0, 1) := kd_law_768.2.2.2.2.2.2.2.2.2.2.1
theorem d_law_779 : decode code 779 = .ok (.iload_n 3, 1) := kd_law_768.2.2.2.2.2.2.2.2.2.2.2.1
theorem d_law_780 : decode code 780 = .ok (.iconst 3, 1) := kd_law_768.2.2.2.2.2.2.2.2.2.2.2.2.1
theorem d_law_781 : decode code 781 = .ok (.iadd, 1) := kd_law_768.2.2.2.2.2.2.2.2.2.2.2.2.2.1
theorem d_law_782 : decode code 782 = .ok (.iaload, 1) := kd_law_768.2.2.2.2.2.2.2.2.2.2.2.2.2.2.1
theorem d_law_783 : decode code 783 = .ok (.aload_n 0, 1) := kd_law_768.2.2.2.2.2.2.2.2.2.2.2.2.2.2.2.1
theorem d_law_784 : decode code 784 = .ok (.iload_n 3, 1) := kd_law_768.2.2.2.2.2.2.2.2.2.2.2.2.2.2.2.2.1
theorem d_law_785 : decode code 785 = .ok (.iconst 4, 1) := kd_law_768.2.2.2.2.2.2.2.2.2.2.2.2.2.2.2.2.2.1
theorem d_law_786 : decode code 786 = .ok (.iadd, 1) := kd_law_768.2.2.2.2.2.2.2.2.2.2.2.2.2.2.2.2.2.2.1
theorem d_law_787 : decode code 787 = .ok (.iaload, 1) := kd_law_768.2.2.2.2.2.2.2.2.2.2.2.2.2.2.2.2.2.2.2
theorem kd_law_788 : decode code 788 = .ok (.invokevirtual 96, 3) ∧ decode code 791 = .ok (.pop, 1) ∧ decode code 792 = .ok (.goto 537, 3) ∧ decode code 795 = .ok (.aload_n 1, 1) ∧ decode code 796 = .ok (.aload_n 0, 1) ∧ decode code 797 = .ok (.iload_n 3, 1) ∧ decode code 798 = .ok (.iconst 1, 1) ∧ decode code 799 = .ok (.iadd, 1) ∧ decode code 800 = .ok (.iaload, 1) ∧ decode code 801 = .ok (.aload_n 0, 1) ∧ decode code 802 = .ok (.iload_n 3, 1) ∧ decode code 803 = .ok (.iconst 2, 1) ∧ decode code 804 = .ok (.iadd, 1) ∧ decode code 805 = .ok (.iaload, 1) ∧ decode code 806 = .ok (.aload_n 0, 1) ∧ decode code 807 = .ok (.iload_n 3, 1) ∧ decode code 808 = .ok (.iconst 3, 1) ∧ decode code 809 = .ok (.iadd, 1) ∧ decode code 810 = .ok (.iaload, 1) ∧ decode code 811 = .ok (.invokevirtual 97, 3) := by decide +kernel
theorem d_law_788 : decode code 788 = .ok (.invokevirtual 96, 3) := kd_law_788.1
theorem d_law_791 : decode code 791 = .ok (.pop, 1) := kd_law_788.2.1
theorem d_law_792 : decode code 792 = .ok (.goto 537, 3) := kd_law_788.2.2.1
theorem d_law_795 : decode code 795 = .ok (.aload_n 1, 1) := kd_law_788.2.2.2.1
theorem d_law_796 : decode code 796 = .ok (.aload_n 0, 1) := kd_law_788.2.2.2.2.1
theorem d_law_797 : decode code 797 = .ok (.iload_n 3, 1) := kd_law_788.2.2.2.2.2.1
theorem d_law_798 : decode code 798 = .ok (.iconst 1, 1) := kd_law_788.2.2.2.2.2.2.1
theorem d_law_799 : decode code 799 = .ok (.iadd, 1) := kd_law_788.2.2.2.2.2.2.2.1
theorem d_law_800 : decode code 800 = .ok (.iaload, 1) := kd_law_788.2.2.2.2.2.2.2.2.1
theorem d_law_801 : decode code 801 = .ok (.aload_n 0, 1) := kd_law_788.2.2.2.2.2.2.2.2.2.1
theorem d_law_802 : decode code 802 = .ok (.iload_n 3, 1) := kd_law_788.2.2.2.2.2.2.2.2.2.2.1
theorem d_law_803 : decode code 803 = .ok (.iconst 2, 1) := kd_law_788.2.2.2.2.2.2.2.2.2.2.2.1
theorem d_law_804 : decode code 804 = .ok (.iadd, 1) := kd_law_788.2.2.2.2.2.2.2.2.2.2.2.2.1
theorem d_law_805 : decode code 805 = .ok (.iaload, 1) := kd_law_788.2.2.2.2.2.2.2.2.2.2.2.2.2.1
theorem d_law_806 : decode code 806 = .ok (.aload_n 0, 1) := kd_law_788.2.2.2.2.2.2.2.2.2.2.2.2.2.2.1
theorem d_law_807 : decode code 807 = .ok (.iload_n 3, 1) := kd_law_788.2.2.2.2.2.2.2.2.2.2.2.2.2.2.2.1
theorem d_law_808 : decode code 808 = .ok (.iconst 3, 1) := kd_law_788.2.2.2.2.2.2.2.2.2.2.2.2.2.2.2.2.1
theorem d_law_809 : decode code 809 = .ok (.iadd, 1) := kd_law_788.2.2.2.2.2.2.2.2.2.2.2.2.2.2.2.2.2.1
theorem d_law_810 : decode code 810 = .ok (.iaload, 1) := kd_law_788.2.2.2.2.2.2.2.2.2.2.2.2.2.2.2.2.2.2.1
theorem d_law_811 : decode code 811 = .ok (.invokevirtual 97, 3) := kd_law_788.2.2.2.2.2.2.2.2.2.2.2.2.2.2.2.2.2.2.2
theorem kd_law_814 : decode code 814 = .ok (.pop, 1) ∧ decode code 815 = .ok (.aload_n 2, 1) ∧ decode code 816 = .ok (.aload_n 0, 1) ∧ decode code 817 = .ok (.iload_n 3, 1) ∧ decode code 818 = .ok (.iconst 1, 1) ∧ decode code 819 = .ok (.iadd, 1) ∧ decode code 820 = .ok (.iaload, 1) ∧ decode code 821 = .ok (.aload_n 0, 1) ∧ decode code 822 = .ok (.iload_n 3, 1) ∧ decode code 823 = .ok (.iconst 2, 1) ∧ decode code 824 = .ok (.iadd, 1) ∧ decode code 825 = .ok (.iaload, 1) ∧ decode code 826 = .ok (.aload_n 0, 1) ∧ decode code 827 = .ok (.iload_n 3, 1) ∧ decode code 828 = .ok (.iconst 3, 1) ∧ decode code 829 = .ok (.iadd, 1) ∧ decode code 830 = .ok (.iaload, 1) ∧ decode code 831 = .ok (.invokevirtual 101, 3) ∧ decode code 834 = .ok (.pop, 1) ∧ decode code 835 = .ok (.goto 494, 3) := by decide +kernel
theorem d_law_814 : decode code 814 = .ok (.pop, 1) := kd_law_814.1
theorem d_law_815 : decode code 815 = .ok (.aload_n 2, 1) := kd_law_814.2.1
theorem d_law_816 : decode code 816 = .ok (.aload_n 0, 1) := kd_law_814.2.2.1
theorem d_law_817 : decode code 817 = .ok (.iload_n 3, 1) := kd_law_814.2.2.2.1
theorem d_law_818 : decode code 818 = .ok (.iconst 1, 1) := kd_law_814.2.2.2.2.1
theorem d_law_819 : decode code 819 = .ok (.iadd, 1) := kd_law_814.2.2.2.2.2.1
theorem d_law_820 : decode code 820 = .ok (.iaload, 1) := kd_law_814.2.2.2.2.2.2.1
theorem d_law_821 : decode code 821 = .ok (.aload_n 0, 1) := kd_law_814.2.2.2.2.2.2.2.1
theorem d_law_822 : decode code 822 = .ok (.iload_n 3, 1) := kd_law_814.2.2.2.2.2.2.2.2.1
theorem d_law_823 : decode code 823 = .ok (.iconst 2, 1) := kd_law_814.2.2.2.2.2.2.2.2.2.1
theorem d_law_824 : decode code 824 = .ok (.iadd, 1) := kd_law_814.2.2.2.2.2.2.2.2.2.2.1
theorem d_law_825 : decode code 825 = .ok (.iaload, 1) := kd_law_814.2.2.2.2.2.2.2.2.2.2.2.1
theorem d_law_826 : decode code 826 = .ok (.aload_n 0, 1) := kd_law_814.2.2.2.2.2.2.2.2.2.2.2.2.1
theorem d_law_827 : decode code 827 = .ok (.iload_n 3, 1) := kd_law_814.2.2.2.2.2.2.2.2.2.2.2.2.2.1
theorem d_law_828 : decode code 828 = .ok (.iconst 3, 1) := kd_law_814.2.2.2.2.2.2.2.2.2.2.2.2.2.2.1
theorem d_law_829 : decode code 829 = .ok (.iadd, 1) := kd_law_814.2.2.2.2.2.2.2.2.2.2.2.2.2.2.2.1
theorem d_law_830 : decode code 830 = .ok (.iaload, 1) := kd_law_814.2.2.2.2.2.2.2.2.2.2.2.2.2.2.2.2.1
theorem d_law_831 : decode code 831 = .ok (.invokevirtual 101, 3) := kd_law_814.2.2.2.2.2.2.2.2.2.2.2.2.2.2.2.2.2.1
theorem d_law_834 : decode code 834 = .ok (.pop, 1) := kd_law_814.2.2.2.2.2.2.2.2.2.2.2.2.2.2.2.2.2.2.1
theorem d_law_835 : decode code 835 = .ok (.goto 494, 3) := kd_law_814.2.2.2.2.2.2.2.2.2.2.2.2.2.2.2.2.2.2.2
theorem kd_law_838 : decode code 838 = .ok (.aload_n 1, 1) ∧ decode code 839 = .ok (.aload_n 0, 1) ∧ decode code 840 = .ok (.iload_n 3, 1) ∧ decode code 841 = .ok (.iconst 1, 1) ∧ decode code 842 = .ok (.iadd, 1) ∧ decode code 843 = .ok (.iaload, 1) ∧ decode code 844 = .ok (.invokevirtual 102, 3) ∧ decode code 847 = .ok (.pop, 1) ∧ decode code 848 = .ok (.aload_n 2, 1) ∧ decode code 849 = .ok (.aload_n 0, 1) ∧ decode code 850 = .ok (.iload_n 3, 1) ∧ decode code 851 = .ok (.iconst 1, 1) ∧ decode code 852 = .ok (.iadd, 1) ∧ decode code 853 = .ok (.iaload, 1) ∧ decode code 854 = .ok (.invokevirtual 105, 3) ∧ decode code 857 = .ok (.pop, 1) ∧ decode code 858 = .ok (.goto 471, 3) ∧ decode code 861 = .ok (.aload_n 1, 1) ∧ decode code 862 = .ok (.aload_n 0, 1) ∧ decode code 863 = .ok (.iload_n 3, 1) := by decide +kernel
theorem d_law_838 : decode code 838 = .ok (.aload_n 1, 1) := kd_law_838.1
theorem d_law_839 : decode code 839 = .ok (.aload_n 0, 1) := kd_law_838.2.1
theorem d_law_840 : decode code 840 = .ok (.iload_n 3, 1) := kd_law_838.2.2.1
theorem d_law_841 : decode code 841 = .ok (.iconst 1, 1) := kd_law_838.2.2.2.1
theorem d_law_842 : decode code 842 = .ok (.iadd, 1) := kd_law_838.2.2.2.2.1
theorem d_law_843 : decode code 843 = .ok (.iaload, 1) := kd_law_838.2.2.2.2.2.1
theorem d_law_844 : decode code 844 = .ok (.invokevirtual 102, 3) := kd_law_838.2.2.2.2.2.2.1
theorem d_law_847 : decode code 847 = .ok (.pop, 1) := kd_law_838.2.2.2.2.2.2.2.1
theorem d_law_848 : decode code 848 = .ok (.aload_n 2, 1) := kd_law_838.2.2.2.2.2.2.2.2.1
theorem d_law_849 : decode code 849 = .ok (.aload_n 0, 1) := kd_law_838.2.2.2.2.2.2.2.2.2.1
theorem d_law_850 : decode code 850 = .ok (.iload_n 3, 1) := kd_law_838.2.2.2.2.2.2.2.2.2.2.1
theorem d_law_851 : decode code 851 = .ok (.iconst 1, 1) := kd_law_838.2.2.2.2.2.2.2.2.2.2.2.1
theorem d_law_852 : decode code 852 = .ok (.iadd, 1) := kd_law_838.2.2.2.2.2.2.2.2.2.2.2.2.1
theorem d_law_853 : decode code 853 = .ok (.iaload, 1) := kd_law_838.2.2.2.2.2.2.2.2.2.2.2.2.2.1
theorem d_law_854 : decode code 854 = .ok (.invokevirtual 105, 3) := kd_law_838.2.2.2.2.2.2.2.2.2.2.2.2.2.2.1
theorem d_law_857 : decode code 857 = .ok (.pop, 1) := kd_law_838.2.2.2.2.2.2.2.2.2.2.2.2.2.2.2.1
theorem d_law_858 : decode code 858 = .ok (.goto 471, 3) := kd_law_838.2.2.2.2.2.2.2.2.2.2.2.2.2.2.2.2.1
theorem d_law_861 : decode code 861 = .ok (.aload_n 1, 1) := kd_law_838.2.2.2.2.2.2.2.2.2.2.2.2.2.2.2.2.2.1
theorem d_law_862 : decode code 862 = .ok (.aload_n 0, 1) := kd_law_838.2.2.2.2.2.2.2.2.2.2.2.2.2.2.2.2.2.2.1
theorem d_law_863 : decode code 863 = .ok (.iload_n 3, 1) := kd_law_838.2.2.2.2.2.2.2.2.2.2.2.2.2.2.2.2.2.2.2
theorem kd_law_864 : decode code 864 = .ok (.iconst 1, 1) ∧ decode code 865 = .ok (.iadd, 1) ∧ decode code 866 = .ok (.iaload, 1) ∧ decode code 867 = .ok (.invokevirtual 106, 3) ∧ decode code 870 = .ok (.pop, 1) ∧ decode code 871 = .ok (.aload_n 2, 1) ∧ decode code 872 = .ok (.aload_n 0, 1) ∧ decode code 873 = .ok (.iload_n 3, 1) ∧ decode code 874 = .ok (.iconst 1, 1) ∧ decode code 875 = .ok (.iadd, 1) ∧ decode code 876 = .ok (.iaload, 1) ∧ decode code 877 = .ok (.invokevirtual 109, 3) ∧ decode code 880 = .ok (.pop, 1) ∧ decode code 881 = .ok (.goto 448, 3) ∧ decode code 884 = .ok (.aload_n 1, 1) ∧ decode code 885 = .ok (.aload_n 0, 1) ∧ decode code 886 = .ok (.iload_n 3, 1) ∧ decode code 887 = .ok (.iconst 1, 1) ∧ decode code 888 = .ok (.iadd, 1) ∧ decode code 889 = .ok (.iaload, 1) := by decide +kernel
theorem d_law_864 : decode code 864 = .ok (.iconst 1, 1) := kd_law_864.1
theorem d_law_865 : decode code 865 = .ok (.iadd, 1) := kd_law_864.2.1
theorem d_law_866 : decode code 866 = .ok (.iaload, 1) := kd_law_864.2.2.1
theorem d_law_867 : decode code 867 = .ok (.invokevirtual 106, 3) := kd_law_864.2.2.2.1
theorem d_law_870 : decode code 870 = .ok (.pop, 1) := kd_law_864.2.2.2.2.1
theorem d_law_871 : decode code 871 = .ok (.aload_n 2, 1) := kd_law_864.2.2.2.2.2.1
theorem d_law_872 : decode code 872 = .ok (.aload_n 0, 1) := kd_law_864.2.2.2.2.2.2.1
theorem d_law_873 : decode code 873 = .ok (.iload_n 3, 1) := kd_law_864.2.2.2.2.2.2.2.1
theorem d_law_874 : decode code 874 = .ok (.iconst 1, 1) := kd_law_864.2.2.2.2.2.2.2.2.1
theorem d_law_875 : decode code 875 = .ok (.iadd, 1) := kd_law_864.2.2.2.2.2.2.2.2.2.1
theorem d_law_876 : decode code 876 = .ok (.iaload, 1) := kd_law_864.2.2.2.2.2.2.2.2.2.2.1
theorem d_law_877 : decode code 877 = .ok (.invokevirtual 109, 3) := kd_law_864.2.2.2.2.2.2.2.2.2.2.2.1
theorem d_law_880 : decode code 880 = .ok (.pop, 1) := kd_law_864.2.2.2.2.2.2.2.2.2.2.2.2.1
theorem d_law_881 : decode code 881 = .ok (.goto 448, 3) := kd_law_864.2.2.2.2.2.2.2.2.2.2.2.2.2.1
theorem d_law_884 : decode code 884 = .ok (.aload_n 1, 1) := kd_law_864.2.2.2.2.2.2.2.2.2.2.2.2.2.2.1
theorem d_law_885 : decode code 885 = .ok (.aload_n 0, 1) := kd_law_864.2.2.2.2.2.2.2.2.2.2.2.2.2.2.2.1
theorem d_law_886 : decode code 886 = .ok (.iload_n 3, 1) := kd_law_864.2.2.2.2.2.2.2.2.2.2.2.2.2.2.2.2.1
theorem d_law_887 : decode code 887 = .ok (.iconst 1, 1) := kd_law_864.2.2.2.2.2.2.2.2.2.2.2.2.2.2.2.2.2.1
theorem d_law_888 : decode code 888 = .ok (.iadd, 1) := kd_law_864.2.2.2.2.2.2.2.2.2.2.2.2.2.2.2.2.2.2.1
theorem d_law_889 : decode code 889 = .ok (.iaload, 1) := kd_law_864.2.2.2.2.2.2.2.2.2.2.2.2.2.2.2.2.2.2.2
theorem kd_law_890 : decode code 890 = .ok (.invokevirtual 110, 3) ∧ decode code 893 = .ok (.pop, 1) ∧ decode code 894 = .ok (.aload_n 2, 1) ∧ decode code 895 = .ok (.aload_n 0, 1) ∧ decode code 896 = .ok (.iload_n 3, 1) ∧ decode code 897 = .ok (.iconst 1, 1) ∧ decode code 898 = .ok (.iadd, 1) ∧ decode code 899 = .ok (.iaload, 1) ∧ decode code 900 = .ok (.invokevirtual 113, 3) ∧ decode code 903 = .ok (.pop, 1) ∧ decode code 904 = .ok (.goto 425, 3) ∧ decode code 907 = .ok (.aload_n 1, 1) ∧ decode code 908 = .ok (.aload_n 0, 1) ∧ decode code 909 = .ok (.iload_n 3, 1) ∧ decode code 910 = .ok (.iconst 1, 1) ∧ decode code 911 = .ok (.iadd, 1) ∧ decode code 912 = .ok (.iaload, 1) ∧ decode code 913 = .ok (.invokevirtual 114, 3) ∧ decode code 916 = .ok (.pop, 1) ∧ decode code 917 = .ok (.aload_n 2, 1) := by decide +kernel
theorem d_law_890 : decode code 890 = .ok (.invokevirtual 110, 3) := kd_law_890.1
theorem d_law_893 : decode code 893 = .ok (.pop, 1) := kd_law_890.2.1
theorem d_law_894 : decode code 894 = .ok (.aload_n 2, 1) := kd_law_890.2.2.1
theorem d_law_895 : decode code 895 = .ok (.aload_n 0, 1) := kd_law_890.2.2.2.1
theorem d_law_896 : decode code 896 = .ok (.iload_n 3, 1) := kd_law_890.2.2.2.2.1
theorem d_law_897 : decode code 897 = .ok (.iconst 1, 1) := kd_law_890.2.2.2.2.2.1
theorem d_law_898 : decode code 898 = .ok (.iadd, 1) := kd_law_890.2.2.2.2.2.2.1
theorem d_law_899 : decode code 899 = .ok (.iaload, 1) := kd_law_890.2.2.2.2.2.2.2.1
theorem d_law_900 : decode code 900 = .ok (.invokevirtual 113, 3) := kd_law_890.2.2.2.2.2.2.2.2.1
theorem d_law_903 : decode code 903 = .ok (.pop, 1) := kd_law_890.2.2.2.2.2.2.2.2.2.1
theorem d_law_904 : decode code 904 = .ok (.goto 425, 3) := kd_law_890.2.2.2.2.2.2.2.2.2.2.1
theorem d_law_907 : decode code 907 = .ok (.aload_n 1, 1) := kd_law_890.2.2.2.2.2.2.2.2.2.2.2.1
theorem d_law_908 : decode code 908 = .ok (.aload_n 0, 1) := kd_law_890.2.2.2.2.2.2.2.2.2.2.2.2.1
theorem d_law_909 : decode code 909 = .ok (.iload_n 3, 1) := kd_law_890.2.2.2.2.2.2.2.2.2.2.2.2.2.1
theorem d_law_910 : decode code 910 = .ok (.iconst 1, 1) := kd_law_890.2.2.2.2.2.2.2.2.2.2.2.2.2.2.1
theorem d_law_911 : decode code 911 = .ok (.iadd, 1) := kd_law_890.2.2.2.2.2.2.2.2.2.2.2.2.2.2.2.1
theorem d_law_912 : decode code 912 = .ok (.iaload, 1) := kd_law_890.2.2.2.2.2.2.2.2.2.2.2.2.2.2.2.2.1
theorem d_law_913 : decode code 913 = .ok (.invokevirtual 114, 3) := kd_law_890.2.2.2.2.2.2.2.2.2.2.2.2.2.2.2.2.2.1
theorem d_law_916 : decode code 916 = .ok (.pop, 1) := kd_law_890.2.2.2.2.2.2.2.2.2.2.2.2.2.2.2.2.2.2.1
theorem d_law_917 : decode code 917 = .ok (.aload_n 2, 1) := kd_law_890.2.2.2.2.2.2.2.2.2.2.2.2.2.2.2.2.2.2.2
theorem kd_law_918 : decode code 918 = .ok (.aload_n 0, 1) ∧ decode code 919 = .ok (.iload_n 3, 1) ∧ decode code 920 = .ok (.iconst 1, 1) ∧ decode code 921 = .ok (.iadd, 1) ∧ decode code 922 = .ok (.iaload, 1) ∧ decode code 923 = .ok (.invokevirtual 117, 3) ∧ decode code 926 = .ok (.pop, 1) ∧ decode code 927 = .ok (.goto 402, 3) ∧ decode code 930 = .ok (.aload_n 1, 1) ∧ decode code 931 = .ok (.aload_n 0, 1) ∧ decode code 932 = .ok (.iload_n 3, 1) ∧ decode code 933 = .ok (.iconst 1, 1) ∧ decode code 934 = .ok (.iadd, 1) ∧ decode code 935 = .ok (.iaload, 1) ∧ decode code 936 = .ok (.aload_n 0, 1) ∧ decode code 937 = .ok (.iload_n 3, 1) ∧ decode code 938 = .ok (.iconst 2, 1) ∧ decode code 939 = .ok (.iadd, 1) ∧ decode code 940 = .ok (.iaload, 1) ∧ decode code 941 = .ok (.invokevirtual 118, 3) := by decide +kernel
theorem d_law_918 : decode code 918 = .ok (.aload_n 0, 1) := kd_law_918.1
theorem d_law_919 : decode code 919 = .ok (.iload_n 3, 1) := kd_law_918.2.1
theorem d_law_920 : decode code 920 = .ok (.iconst 1, 1) := kd_law_918.2.2.1
theorem d_law_921 : decode code 921 = .ok (.iadd, 1) := kd_law_918.2.2.2.1
theorem d_law_922 : decode code 922 = .ok (.iaload, 1) := kd_law_918.2.2.2.2.1
theorem d_law_923 : decode code 923 = .ok (.invokevirtual 117, 3) := kd_law_918.2.2.2.2.2.1
theorem d_law_926 : decode code 926 = .ok (.pop, 1) := kd_law_918.2.2.2.2.2.2.1
theorem d_law_927 : decode code 927 = .ok (.goto 402, 3) := kd_law_918.2.2.2.2.2.2.2.1
theorem d_law_930 : decode code 930 = .ok (.aload_n 1, 1) := kd_law_918.2.2.2.2.2.2.2.2.1
theorem d_law_931 : decode code 931 = .ok (.aload_n 0, 1) := kd_law_918.2.2.2.2.2.2.2.2.2.1
theorem d_law_932 : decode code 932 = .ok (.iload_n 3, 1) := kd_law_918.2.2.2.2.2.2.2.2.2.2.1
theorem d_law_933 : decode code 933 = .ok (.iconst 1, 1) := kd_law_918.2.2.2.2.2.2.2.2.2.2.2.1
theorem d_law_934 : decode code 934 = .ok (.iadd, 1) := kd_law_918.2.2.2.2.2.2.2.2.2.2.2.2.1
theorem d_law_935 : decode code 935 = .ok (.iaload, 1) := kd_law_918.2.2.2.2.2.2.2.2.2.2.2.2.2.1
theorem d_law_936 : decode code 936 = .ok (.aload_n 0, 1) := kd_law_918.2.2.2.2.2.2.2.2.2.2.2.2.2.2.1
theorem d_law_937 : decode code 937 = .ok (.iload_n 3, 1) := kd_law_918.2.2.2.2.2.2.2.2.2.2.2.2.2.2.2.1
theorem d_law_938 : decode code 938 = .ok (.iconst 2, 1) := kd_law_918.2.2.2.2.2.2.2.2.2.2.2.2.2.2.2.2.1
theorem d_law_939 : decode code 939 = .ok (.iadd, 1) := kd_law_918.2.2.2.2.2.2.2.2.2.2.2.2.2.2.2.2.2.1
theorem d_law_940 : decode code 940 = .ok (.iaload, 1) := kd_law_918.2.2.2.2.2.2.2.2.2.2.2.2.2.2.2.2.2.2.1
theorem d_law_941 : decode code 941 = .ok (.invokevirtual 118, 3) := kd_law_918.2.2.2.2.2.2.2.2.2.2.2.2.2.2.2.2.2.2.2
theorem kd_law_944 : decode code 944 = .ok (.pop, 1) ∧ decode code 945 = .ok (.aload_n 2, 1) ∧ decode code 946 = .ok (.aload_n 0, 1) ∧ decode code 947 = .ok (.iload_n 3, 1) ∧ decode code 948 = .ok (.iconst 1, 1) ∧ decode code 949 = .ok (.iadd, 1) ∧ decode code 950 = .ok (.iaload, 1) ∧ decode code 951 = .ok (.aload_n 0, 1) ∧ decode code 952 = .ok (.iload_n 3, 1) ∧ decode code 953 = .ok (.iconst 2, 1) ∧ decode code 954 = .ok (.iadd, 1) ∧ decode code 955 = .ok (.iaload, 1) ∧ decode code 956 = .ok (.invokevirtual 121, 3) ∧ decode code 959 = .ok (.pop, 1) ∧ decode code 960 = .ok (.goto 369, 3) ∧ decode code 963 = .ok (.aload_n 1, 1) ∧ decode code 964 = .ok (.invokevirtual 122, 3) ∧ decode code 967 = .ok (.pop, 1) ∧ decode code 968 = .ok (.aload_n 2, 1) ∧ decode code 969 = .ok (.invokevirtual 125, 3) := by decide +kernel
theorem d_law_944 : decode code 944 = .ok (.pop, 1) := kd_law_944.1
theorem d_law_945 : decode code 945 = .ok (.aload_n 2, 1) := kd_law_944.2.1
theorem d_law_946 : decode code 946 = .ok (.aload_n 0, 1) := kd_law_944.2.2.1
theorem d_law_947 : decode code 947 = .ok (.iload_n 3, 1) := kd_law_944.2.2.2.1
theorem d_law_948 : decode code 948 = .ok (.iconst 1, 1) := kd_law_944.2.2.2.2.1
theorem d_law_949 : decode code 949 = .ok (.iadd, 1) := kd_law_944.2.2.2.2.2.1
theorem d_law_950 : decode code 950 = .ok (.iaload, 1) := kd_law_944.2.2.2.2.2.2.1
theorem d_law_951 : decode code 951 = .ok (.aload_n 0, 1) := kd_law_944.2.2.2.2.2.2.2.1
theorem d_law_952 : decode code 952 = .ok (.iload_n 3, 1) := kd_law_944.2.2.2.2.2.2.2.2.1
theorem d_law_953 : decode code 953 = .ok (.iconst 2, 1) := kd_law_944.2.2.2.2.2.2.2.2.2.1
theorem d_law_954 : decode code 954 = .ok (.iadd, 1) := kd_law_944.2.2.2.2.2.2.2.2.2.2.1
theorem d_law_955 : decode code 955 = .ok (.iaload, 1) := kd_law_944.2.2.2.2.2.2.2.2.2.2.2.1
theorem d_law_956 : decode code 956 = .ok (.invokevirtual 121, 3) := kd_law_944.2.2.2.2.2.2.2.2.2.2.2.2.1
theorem d_law_959 : decode code 959 = .ok (.pop, 1) := kd_law_944.2.2.2.2.2.2.2.2.2.2.2.2.2.1
theorem d_law_960 : decode code 960 = .ok (.goto 369, 3) := kd_law_944.2.2.2.2.2.2.2.2.2.2.2.2.2.2.1
theorem d_law_963 : decode code 963 = .ok (.aload_n 1, 1) := kd_law_944.2.2.2.2.2.2.2.2.2.2.2.2.2.2.2.1
theorem d_law_964 : decode code 964 = .ok (.invokevirtual 122, 3) := kd_law_944.2.2.2.2.2.2.2.2.2.2.2.2.2.2.2.2.1
theorem d_law_967 : decode code 967 = .ok (.pop, 1) := kd_law_944.2.2.2.2.2.2.2.2.2.2.2.2.2.2.2.2.2.1
theorem d_law_968 : decode code 968 = .ok (.aload_n 2, 1) := kd_law_944.2.2.2.2.2.2.2.2.2.2.2.2.2.2.2.2.2.2.1
theorem d_law_969 : decode code 969 = .ok (.invokevirtual 125, 3) := kd_law_944.2.2.2.2.2.2.2.2.2.2.2.2.2.2.2.2.2.2.2
theorem kd_law_972 : decode code 972 = .ok (.pop, 1) ∧ decode code 973 = .ok (.goto 356, 3) ∧ decode code 976 = .ok (.aload_n 1, 1) ∧ decode code 977 = .ok (.aload_n 0, 1) ∧ decode code 978 = .ok (.iload_n 3, 1) ∧ decode code 979 = .ok (.iconst 1, 1) ∧ decode code 980 = .ok (.iadd, 1) ∧ decode code 981 = .ok (.iaload, 1) ∧ decode code 982 = .ok (.aload_n 0, 1) ∧ decode code 983 = .ok (.iload_n 3, 1) ∧ decode code 984 = .ok (.iconst 2, 1) ∧ decode code 985 = .ok (.iadd, 1) ∧ decode code 986 = .ok (.iaload, 1) ∧ decode code 987 = .ok (.invokevirtual 126, 3) ∧ decode code 990 = .ok (.pop, 1) ∧ decode code 991 = .ok (.aload_n 2, 1) ∧ decode code 992 = .ok (.aload_n 0, 1) ∧ decode code 993 = .ok (.iload_n 3, 1) ∧ decode code 994 = .ok (.iconst 1, 1) ∧ decode code 995 = .ok (.iadd, 1) := by decide +kernel
theorem d_law_972 : decode code 972 = .ok (.pop, 1) := kd_law_972.1
theorem d_law_973 : decode code 973 = .ok (.goto 356, 3) := kd_law_972.2.1
theorem d_law_976 : decode code 976 = .ok (.aload_n 1, 1) := kd_law_972.2.2.1
theorem d_law_977 : decode code 977 = .ok (.aload_n 0, 1) := kd_law_972.2.2.2.1
theorem d_law_978 : decode code 978 = .ok (.iload_n 3, 1) := kd_law_972.2.2.2.2.1
theorem d_law_979 : decode code 979 = .ok (.iconst 1, 1) := kd_law_972.2.2.2.2.2.1
theorem d_law_980 : decode code 980 = .ok (.iadd, 1) := kd_law_972.2.2.2.2.2.2.1
theorem d_law_981 : decode code 981 = .ok (.iaload, 1) := kd_law_972.2.2.2.2.2.2.2.1
theorem d_law_982 : decode code 982 = .ok (.aload_n 0, 1) := kd_law_972.2.2.2.2.2.2.2.2.1
theorem d_law_983 : decode code 983 = .ok (.iload_n 3, 1) := kd_law_972.2.2.2.2.2.2.2.2.2.1
theorem d_law_984 : decode code 984 = .ok (.iconst 2, 1) := kd_law_972.2.2.2.2.2.2.2.2.2.2.1
theorem d_law_985 : decode code 985 = .ok (.iadd, 1) := kd_law_972.2.2.2.2.2.2.2.2.2.2.2.1
theorem d_law_986 : decode code 986 = .ok (.iaload, 1) := kd_law_972.2.2.2.2.2.2.2.2.2.2.2.2.1
theorem d_law_987 : decode code 987 = .ok (.invokevirtual 126, 3) := kd_law_972.2.2.2.2.2.2.2.2.2.2.2.2.2.1
theorem d_law_990 : decode code 990 = .ok (.pop, 1) := kd_law_972.2.2.2.2.2.2.2.2.2.2.2.2.2.2.1
theorem d_law_991 : decode code 991 = .ok (.aload_n 2, 1) := kd_law_972.2.2.2.2.2.2.2.2.2.2.2.2.2.2.2.1
theorem d_law_992 : decode code 992 = .ok (.aload_n 0, 1) := kd_law_972.2.2.2.2.2.2.2.2.2.2.2.2.2.2.2.2.1
theorem d_law_993 : decode code 993 = .ok (.iload_n 3, 1) := kd_law_972.2.2.2.2.2.2.2.2.2.2.2.2.2.2.2.2.2.1
theorem d_law_994 : decode code 994 = .ok (.iconst 1, 1) := kd_law_972.2.2.2.2.2.2.2.2.2.2.2.2.2.2.2.2.2.2.1
theorem d_law_995 : decode code 995 = .ok (.iadd, 1) := kd_law_972.2.2.2.2.2.2.2.2.2.2.2.2.2.2.2.2.2.2.2
theorem kd_law_996 : decode code 996 = .ok (.iaload, 1) ∧ decode code 997 = .ok (.aload_n 0, 1) ∧ decode code 998 = .ok (.iload_n 3, 1) ∧ decode code 999 = .ok (.iconst 2, 1) ∧ decode code 1000 = .ok (.iadd, 1) ∧ decode code 1001 = .ok (.iaload, 1) ∧ decode code 1002 = .ok (.invokevirtual 129, 3) ∧ decode code 1005 = .ok (.pop, 1) ∧ decode code 1006 = .ok (.goto 323, 3) ∧ decode code 1009 = .ok (.aload_n 1, 1) ∧ decode code 1010 = .ok (.invokevirtual 130, 3) ∧ decode code 1013 = .ok (.pop, 1) ∧ decode code 1014 = .ok (.aload_n 2, 1) ∧ decode code 1015 = .ok (.invokevirtual 133, 3) ∧ decode code 1018 = .ok (.pop, 1) ∧ decode code 1019 = .ok (.goto 310, 3) ∧ decode code 1022 = .ok (.aload_n 1, 1) ∧ decode code 1023 = .ok (.aload_n 0, 1) ∧ decode code 1024 = .ok (.iload_n 3, 1) ∧ decode code 1025 = .ok (.iconst 1, 1) := by decide +kernel
theorem d_law_996 : decode code 996 = .ok (.iaload, 1) := kd_law_996.1
theorem d_law_997 : decode code 997 = .ok (.aload_n 0, 1) := kd_law_996.2.1
theorem d_law_998 : decode code 998 = .ok (.iload_n 3, 1) := kd_law_996.2.2.1
theorem d_law_999 : decode code 999 = .ok (.iconst 2, 1) := kd_law_996.2.2.2.1
theorem d_law_1000 : decode code 1000 = .ok (.iadd, 1) := kd_law_996.2.2.2.2.1
theorem d_law_1001 : decode code 1001 = .ok (.iaload, 1) := kd_law_996.2.2.2.2.2.1
theorem d_law_1002 : decode code 1002 = .ok (.invokevirtual 129, 3) := kd_law_996.2.2.2.2.2.2.1
theorem d_law_1005 : decode code 1005 = .ok (.pop, 1) := kd_law_996.2.2.2.2.2.2.2.1
theorem d_law_1006 : decode code 1006 = .ok (.goto 323, 3) := kd_law_996.2.2.2.2.2.2.2.2.1
theorem d_law_1009 : decode code 1009 = .ok (.aload_n 1, 1) := kd_law_996.2.2.2.2.2.2.2.2.2.1
theorem d_law_1010 : decode code 1010 = .ok (.invokevirtual 130, 3) := kd_law_996.2.2.2.2.2.2.2.2.2.2.1
theorem d_law_1013 : decode code 1013 = .ok (.pop, 1) := kd_law_996.2.2.2.2.2.2.2.2.2.2.2.1
theorem d_law_1014 : decode code 1014 = .ok (.aload_n 2, 1) := kd_law_996.2.2.2.2.2.2.2.2.2.2.2.2.1
theorem d_law_1015 : decode code 1015 = .ok (.invokevirtual 133, 3) := kd_law_996.2.2.2.2.2.2.2.2.2.2.2.2.2.1
theorem d_law_1018 : decode code 1018 = .ok (.pop, 1) := kd_law_996.2.2.2.2.2.2.2.2.2.2.2.2.2.2.1
theorem d_law_1019 : decode code 1019 = .ok (.goto 310, 3) := kd_law_996.2.2.2.2.2.2.2.2.2.2.2.2.2.2.2.1
theorem d_law_1022 : decode code 1022 = .ok (.aload_n 1, 1) := kd_law_996.2.2.2.2.2.2.2.2.2.2.2.2.2.2.2.2.1
theorem d_law_1023 : decode code 1023 = .ok (.aload_n 0, 1) := kd_law_996.2.2.2.2.2.2.2.2.2.2.2.2.2.2.2.2.2.1
theorem d_law_1024 : decode code 1024 = .ok (.iload_n 3, 1) := kd_law_996.2.2.2.2.2.2.2.2.2.2.2.2.2.2.2.2.2.2.1
theorem d_law_1025 : decode code 1025 = .ok (.iconst 1, 1) := kd_law_996.2.2.2.2.2.2.2.2.2.2.2.2.2.2.2.2.2.2.2
theorem kd_law_1026 : decode code 1026 = .ok (.iadd, 1) ∧ decode code 1027 = .ok (.iaload, 1) ∧ decode code 1028 = .ok (.aload_n 0, 1) ∧ decode code 1029 = .ok (.iload_n 3, 1) ∧ decode code 1030 = .ok (.iconst 2, 1) ∧ decode code 1031 = .ok (.iadd, 1) ∧ decode code 1032 = .ok (.iaload, 1) ∧ decode code 1033 = .ok (.aload_n 0, 1) ∧ decode code 1034 = .ok (.iload_n 3, 1) ∧ decode code 1035 = .ok (.iconst 3, 1) ∧ decode code 1036 = .ok (.iadd, 1) ∧ decode code 1037 = .ok (.iaload, 1) ∧ decode code 1038 = .ok (.invokevirtual 134, 3) ∧ decode code 1041 = .ok (.pop, 1) ∧ decode code 1042 = .ok (.aload_n 2, 1) ∧ decode code 1043 = .ok (.aload_n 0, 1) ∧ decode code 1044 = .ok (.iload_n 3, 1) ∧ decode code 1045 = .ok (.iconst 1, 1) ∧ decode code 1046 = .ok (.iadd, 1) ∧ decode code 1047 = .ok (.iaload, 1) := by decide +kernel
theorem d_law_1026 : decode code 1026 = .ok (.iadd, 1) := kd_law_1026.1
theorem d_law_1027 : decode code 1027 = .ok (.iaload, 1) := kd_law_1026.2.1
theorem d_law_1028 : decode code 1028 = .ok (.aload_n 0, 1) := kd_law_1026.2.2.1
theorem d_law_1029 : decode code 1029 = .ok (.iload_n 3, 1) := kd_law_1026.2.2.2.1
theorem d_law_1030 : decode code 1030 = .ok (.iconst 2, 1) := kd_law_1026.2.2.2.2.1
theorem d_law_1031 : decode code 1031 = .ok (.iadd, 1) := kd_law_1026.2.2.2.2.2.1
theorem d_law_1032 : decode code 1032 = .ok (.iaload, 1) := kd_law_1026.2.2.2.2.2.2.1
theorem d_law_1033 : decode code 1033 = .ok (.aload_n 0, 1) := kd_law_1026.2.2.2.2.2.2.2.1
theorem d_law_1034 : decode code 1034 = .ok (.iload_n 3, 1) := kd_law_1026.2.2.2.2.2.2.2.2.1
theorem d_law_1035 : decode code 1035 = .ok (.iconst 3, 1) := kd_law_1026.2.2.2.2.2.2.2.2.2.1
theorem d_law_1036 : decode code 1036 = .ok (.iadd, 1) := kd_law_1026.2.2.2.2.2.2.2.2.2.2.1
theorem d_law_1037 : decode code 1037 = .ok (.iaload, 1) := kd_law_1026.2.2.2.2.2.2.2.2.2.2.2.1
theorem d_law_1038 : decode code 1038 = .ok (.invokevirtual 134, 3) := kd_law_1026.2.2.2.2.2.2.2.2.2.2.2.2.1
theorem d_law_1041 : decode code 1041 = .ok (.pop, 1) := kd_law_1026.2.2.2.2.2.2.2.2.2.2.2.2.2.1
theorem d_law_1042 : decode code 1042 = .ok (.aload_n 2, 1) := kd_law_1026.2.2.2.2.2.2.2.2.2.2.2.2.2.2.1
theorem d_law_1043 : decode code 1043 = .ok (.aload_n 0, 1) := kd_law_1026.2.2.2.2.2.2.2.2.2.2.2.2.2.2.2.1
theorem d_law_1044 : decode code 1044 = .ok (.iload_n 3, 1) := kd_law_1026.2.2.2.2.2.2.2.2.2.2.2.2.2.2.2.2.1
theorem d_law_1045 : decode code 1045 = .ok (.iconst 1, 1) := kd_law_1026.2.2.2.2.2.2.2.2.2.2.2.2.2.2.2.2.2.1
theorem d_law_1046 : decode code 1046 = .ok (.iadd, 1) := kd_law_1026.2.2.2.2.2.2.2.2.2.2.2.2.2.2.2.2.2.2.1
theorem d_law_1047 : decode code 1047 = .ok (.iaload, 1) := kd_law_1026.2.2.2.2.2.2.2.2.2.2.2.2.2.2.2.2.2.2.2
theorem kd_law_1048 : decode code 1048 = .ok (.aload_n 0, 1) ∧ decode code 1049 = .ok (.iload_n 3, 1) ∧ decode code 1050 = .ok (.iconst 2, 1) ∧ decode code 1051 = .ok (.iadd, 1) ∧ decode code 1052 = .ok (.iaload, 1) ∧ decode code 1053 = .ok (.aload_n 0, 1) ∧ decode code 1054 = .ok (.iload_n 3, 1) ∧ decode code 1055 = .ok (.iconst 3, 1) ∧ decode code 1056 = .ok (.iadd, 1) ∧ decode code 1057 = .ok (.iaload, 1) ∧ decode code 1058 = .ok (.invokevirtual 137, 3) ∧ decode code 1061 = .ok (.pop, 1) ∧ decode code 1062 = .ok (.goto 267, 3) ∧ decode code 1065 = .ok (.aload_n 1, 1) ∧ decode code 1066 = .ok (.aload_n 0, 1) ∧ decode code 1067 = .ok (.iload_n 3, 1) ∧ decode code 1068 = .ok (.iconst 1, 1) ∧ decode code 1069 = .ok (.iadd, 1) ∧ decode code 1070 = .ok (.iaload, 1) ∧ decode code 1071 = .ok (.aload_n 0, 1) := by decide +kernel
theorem d_law_1048 : decode code 1048 = .ok (.aload_n 0, 1) := kd_law_1048.1
theorem d_law_1049 : decode code 1049 = .ok (.iload_n 3, 1) := kd_law_1048.2.1
theorem d_law_1050 : decode code 1050 = .ok (.iconst 2, 1) := kd_law_1048.2.2.1
theorem d_law_1051 : decode code 1051 = .ok (.iadd, 1) := kd_law_1048.2.2.2.1
theorem d_law_1052 : decode code 1052 = .ok (.iaload, 1) := kd_law_1048.2.2.2.2.1
theorem d_law_1053 : decode code 1053 = .ok (.aload_n 0, 1) := kd_law_1048.2.2.2.2.2.1
theorem d_law_1054 : decode code 1054 = .ok (.iload_n 3, 1) := kd_law_1048.2.2.2.2.2.2.1
theorem d_law_1055 : decode code 1055 = .ok (.iconst 3, 1) := kd_law_1048.2.2.2.2.2.2.2.1
theorem d_law_1056 : decode code 1056 = .ok (.iadd, 1) := kd_law_1048.2.2.2.2.2.2.2.2.1
theorem d_law_1057 : decode code 1057 = .ok (.iaload, 1) := kd_law_1048.2.2.2.2.2.2.2.2.2.1
theorem d_law_1058 : decode code 1058 = .ok (.invokevirtual 137, 3) := kd_law_1048.2.2.2.2.2.2.2.2.2.2.1
theorem d_law_1061 : decode code 1061 = .ok (.pop, 1) := kd_law_1048.2.2.2.2.2.2.2.2.2.2.2.1
theorem d_law_1062 : decode code 1062 = .ok (.goto 267, 3) := kd_law_1048.2.2.2.2.2.2.2.2.2.2.2.2.1
theorem d_law_1065 : decode code 1065 = .ok (.aload_n 1, 1) := kd_law_1048.2.2.2.2.2.2.2.2.2.2.2.2.2.1
theorem d_law_1066 : decode code 1066 = .ok (.aload_n 0, 1) := kd_law_1048.2.2.2.2.2.2.2.2.2.2.2.2.2.2.1
theorem d_law_1067 : decode code 1067 = .ok (.iload_n 3, 1) := kd_law_1048.2.2.2.2.2.2.2.2.2.2.2.2.2.2.2.1
theorem d_law_1068 : decode code 1068 = .ok (.iconst 1, 1) := kd_law_1048.2.2.2.2.2.2.2.2.2.2.2.2.2.2.2.2.1
theorem d_law_1069 : decode code 1069 = .ok (.iadd, 1) := kd_law_1048.2.2.2.2.2.2.2.2.2.2.2.2.2.2.2.2.2.1
theorem d_law_1070 : decode code 1070 = .ok (.iaload, 1) := kd_law_1048.2.2.2.2.2.2.2.2.2.2.2.2.2.2.2.2.2.2.1
theorem d_law_1071 : decode code 1071 = .ok (.aload_n 0, 1) := kd_law_1048.2.2.2.2.2.2.2.2.2.2.2.2.2.2.2.2.2.2.2
theorem kd_law_1072 : decode code 1072 = .ok (.iload_n 3, 1) ∧ decode code 1073 = .ok (.iconst 2, 1) ∧ decode code 1074 = .ok (.iadd, 1) ∧ decode code 1075 = .ok (.iaload, 1) ∧ decode code 1076 = .ok (.aload_n 0, 1) ∧ decode code 1077 = .ok (.iload_n 3, 1) ∧ decode code 1078 = .ok (.iconst 3, 1) ∧ decode code 1079 = .ok (.iadd, 1) ∧ decode code 1080 = .ok (.iaload, 1) ∧ decode code 1081 = .ok (.invokevirtual 138, 3) ∧ decode code 1084 = .ok (.pop, 1) ∧ decode code 1085 = .ok (.aload_n 2, 1) ∧ decode code 1086 = .ok (.aload_n 0, 1) ∧ decode code 1087 = .ok (.iload_n 3, 1) ∧ decode code 1088 = .ok (.iconst 1, 1) ∧ decode code 1089 = .ok (.iadd, 1) ∧ decode code 1090 = .ok (.iaload, 1) ∧ decode code 1091 = .ok (.aload_n 0, 1) ∧ decode code 1092 = .ok (.iload_n 3, 1) ∧ decode code 1093 = .ok (.iconst 2, 1) := by decide +kernel
theorem d_law_1072 : decode code 1072 = .ok (.iload_n 3, 1) := kd_law_1072.1
theorem d_law_1073 : decode code 1073 = .ok (.iconst 2, 1) := kd_law_1072.2.1
theorem d_law_1074 : decode code 1074 = .ok (.iadd, 1) := kd_law_1072.2.2.1
theorem d_law_1075 : decode code 1075 = .ok (.iaload, 1) := kd_law_1072.2.2.2.1
theorem d_law_1076 : decode code 1076 = .ok (.aload_n 0, 1) := kd_law_1072.2.2.2.2.1
theorem d_law_1077 : decode code 1077 = .ok (.iload_n 3, 1) := kd_law_1072.2.2.2.2.2.1
theorem d_law_1078 : decode code 1078 = .ok (.iconst 3, 1) := kd_law_1072.2.2.2.2.2.2.1
theorem d_law_1079 : decode code 1079 = .ok (.iadd, 1) := kd_law_1072.2.2.2.2.2.2.2.1
theorem d_law_1080 : decode code 1080 = .ok (.iaload, 1) := kd_law_1072.2.2.2.2.2.2.2.2.1
theorem d_law_1081 : decode code 1081 = .ok (.invokevirtual 138, 3) := kd_law_1072.2.2.2.2.2.2.2.2.2.1
theorem d_law_1084 : decode code 1084 = .ok (.pop, 1) := kd_law_1072.2.2.2.2.2.2.2.2.2.2.1
theorem d_law_1085 : decode code 1085 = .ok (.aload_n 2, 1) := kd_law_1072.2.2.2.2.2.2.2.2.2.2.2.1
theorem d_law_1086 : decode code 1086 = .ok (.aload_n 0, 1) := kd_law_1072.2.2.2.2.2.2.2.2.2.2.2.2.1
theorem d_law_1087 : decode code 1087 = .ok (.iload_n 3, 1) := kd_law_1072.2.2.2.2.2.2.2.2.2.2.2.2.2.1
theorem d_law_1088 : decode code 1088 = .ok (.iconst 1, 1) := kd_law_1072.2.2.2.2.2.2.2.2.2.2.2.2.2.2.1
theorem d_law_1089 : decode code 1089 = .ok (.iadd, 1) := kd_law_1072.2.2.2.2.2.2.2.2.2.2.2.2.2.2.2.1
theorem d_law_1090 : decode code 1090 = .ok (.iaload, 1) := kd_law_1072.2.2.2.2.2.2.2.2.2.2.2.2.2.2.2.2.1
theorem d_law_1091 : decode code 1091 = .ok (.aload_n 0, 1) := kd_law_1072.2.2.2.2.2.2.2.2.2.2.2.2.2.2.2.2.2.1
theorem d_law_1092 : decode code 1092 = .ok (.iload_n 3, 1) := kd_law_1072.2.2.2.2.2.2.2.2.2.2.2.2.2.2.2.2.2.2.1
theorem d_law_1093 : decode code 1093 = .ok (.iconst 2, 1) := kd_law_1072.2.2.2.2.2.2.2.2.2.2.2.2.2.2.2.2.2.2.2
theorem kd_law_1094 : decode code 1094 = .ok (.iadd, 1) ∧ decode code 1095 = .ok (.iaload, 1) ∧ decode code 1096 = .ok (.aload_n 0, 1) ∧ decode code 1097 = .ok (.iload_n 3, 1) ∧ decode code 1098 = .ok (.iconst 3, 1) ∧ decode code 1099 = .ok (.iadd, 1) ∧ decode code 1100 = .ok (.iaload, 1) ∧ decode code 1101 = .ok (.invokevirtual 141, 3) ∧ decode code 1104 = .ok (.pop, 1) ∧ decode code 1105 = .ok (.goto 224, 3) ∧ decode code 1108 = .ok (.aload_n 1, 1) ∧ decode code 1109 = .ok (.aload_n 0, 1) ∧ decode code 1110 = .ok (.iload_n 3, 1) ∧ decode code 1111 = .ok (.iconst 1, 1) ∧ decode code 1112 = .ok (.iadd, 1) ∧ decode code 1113 = .ok (.iaload, 1) ∧ decode code 1114 = .ok (.invokevirtual 142, 3) ∧ decode code 1117 = .ok (.pop, 1) ∧ decode code 1118 = .ok (.aload_n 2, 1) ∧ decode code 1119 = .ok (.aload_n 0, 1) := by decide +kernel
theorem d_law_1094 : decode code 1094 = .ok (.iadd, 1) := kd_law_1094.1
theorem d_law_1095 : decode code 1095 = .ok (.iaload, 1) := kd_law_1094.2.1
theorem d_law_1096 : decode code 1096 = .ok (.aload_n 0, 1) := kd_law_1094.2.2.1
theorem d_law_1097 : decode code 1097 = .ok (.iload_n 3, 1) := kd_law_1094.2.2.2.1
theorem d_law_1098 : decode code 1098 = .ok (.iconst 3, 1) := kd_law_1094.2.2.2.2.1
theorem d_law_1099 : decode code 1099 = .ok (.iadd, 1) := kd_law_1094.2.2.2.2.2.1
theorem d_law_1100 : decode code 1100 = .ok (.iaload, 1) := kd_law_1094.2.2.2.2.2.2.1
theorem d_law_1101 : decode code 1101 = .ok (.invokevirtual 141, 3) := kd_law_1094.2.2.2.2.2.2.2.1
theorem d_law_1104 : decode code 1104 = .ok (.pop, 1) := kd_law_1094.2.2.2.2.2.2.2.2.1
theorem d_law_1105 : decode code 1105 = .ok (.goto 224, 3) := kd_law_1094.2.2.2.2.2.2.2.2.2.1
theorem d_law_1108 : decode code 1108 = .ok (.aload_n 1, 1) := kd_law_1094.2.2.2.2.2.2.2.2.2.2.1
theorem d_law_1109 : decode code 1109 = .ok (.aload_n 0, 1) := kd_law_1094.2.2.2.2.2.2.2.2.2.2.2.1
theorem d_law_1110 : decode code 1110 = .ok (.iload_n 3, 1) := kd_law_1094.2.2.2.2.2.2.2.2.2.2.2.2.1
theorem d_law_1111 : decode code 1111 = .ok (.iconst 1, 1) := kd_law_1094.2.2.2.2.2.2.2.2.2.2.2.2.2.1
theorem d_law_1112 : decode code 1112 = .ok (.iadd, 1) := kd_law_1094.2.2.2.2.2.2.2.2.2.2.2.2.2.2.1
theorem d_law_1113 : decode code 1113 = .ok (.iaload, 1) := kd_law_1094.2.2.2.2.2.2.2.2.2.2.2.2.2.2.2.1
theorem d_law_1114 : decode code 1114 = .ok (.invokevirtual 142, 3) := kd_law_1094.2.2.2.2.2.2.2.2.2.2.2.2.2.2.2.2.1
theorem d_law_1117 : decode code 1117 = .ok (.pop, 1) := kd_law_1094.2.2.2.2.2.2.2.2.2.2.2.2.2.2.2.2.2.1
theorem d_law_1118 : decode code 1118 = .ok (.aload_n 2, 1) := kd_law_1094.2.2.2.2.2.2.2.2.2.2.2.2.2.2.2.2.2.2.1
theorem d_law_1119 : decode code 1119 = .ok (.aload_n 0, 1) := kd_law_1094.2.2.2.2.2.2.2.2.2.2.2.2.2.2.2.2.2.2.2
theorem kd_law_1120 : decode code 1120 = .ok (.iload_n 3, 1) ∧ decode code 1121 = .ok (.iconst 1, 1) ∧ decode code 1122 = .ok (.iadd, 1) ∧ decode code 1123 = .ok (.iaload, 1) ∧ decode code 1124 = .ok (.invokevirtual 145, 3) ∧ decode code 1127 = .ok (.pop, 1) ∧ decode code 1128 = .ok (.goto 201, 3) ∧ decode code 1131 = .ok (.aload_n 1, 1) ∧ decode code 1132 = .ok (.aload_n 0, 1) ∧ decode code 1133 = .ok (.iload_n 3, 1) ∧ decode code 1134 = .ok (.iconst 1, 1) ∧ decode code 1135 = .ok (.iadd, 1) ∧ decode code 1136 = .ok (.iaload, 1) ∧ decode code 1137 = .ok (.invokevirtual 146, 3) ∧ decode code 1140 = .ok (.pop, 1) ∧ decode code 1141 = .ok (.aload_n 2, 1) ∧ decode code 1142 = .ok (.aload_n 0, 1) ∧ decode code 1143 = .ok (.iload_n 3, 1) ∧ decode code 1144 = .ok (.iconst 1, 1) ∧ decode code 1145 = .ok (.iadd, 1) := by decide +kernel
theorem d_law_1120 : decode code 1120 = .ok (.iload_n 3, 1) := kd_law_1120.1
theorem d_law_1121 : decode code 1121 = .ok (.iconst 1, 1) := kd_law_1120.2.1
theorem d_law_1122 : decode code 1122 = .ok (.iadd, 1) := kd_law_1120.2.2.1
theorem d_law_1123 : decode code 1123 = .ok (.iaload, 1) := kd_law_1120.2.2.2.1
theorem d_law_1124 : decode code 1124 = .ok (.invokevirtual 145, 3) := kd_law_1120.2.2.2.2.1
theorem d_law_1127 : decode code 1127 = .ok (.pop, 1) := kd_law_1120.2.2.2.2.2.1
theorem d_law_1128 : decode code 1128 = .ok (.goto 201, 3) := kd_law_1120.2.2.2.2.2.2.1
theorem d_law_1131 : decode code 1131 = .ok (.aload_n 1, 1) := kd_law_1120.2.2.2.2.2.2.2.1
theorem d_law_1132 : decode code 1132 = .ok (.aload_n 0, 1) := kd_law_1120.2.2.2.2.2.2.2.2.1
theorem d_law_1133 : decode code 1133 = .ok (.iload_n 3, 1) := kd_law_1120.2.2.2.2.2.2.2.2.2.1
theorem d_law_1134 : decode code 1134 = .ok (.iconst 1, 1) := kd_law_1120.2.2.2.2.2.2.2.2.2.2.1
theorem d_law_1135 : decode code 1135 = .ok (.iadd, 1) := kd_law_1120.2.2.2.2.2.2.2.2.2.2.2.1
theorem d_law_1136 : decode code 1136 = .ok (.iaload, 1) := kd_law_1120.2.2.2.2.2.2.2.2.2.2.2.2.1
theorem d_law_1137 : decode code 1137 = .ok (.invokevirtual 146, 3) := kd_law_1120.2.2.2.2.2.2.2.2.2.2.2.2.2.1
theorem d_law_1140 : decode code 1140 = .ok (.pop, 1) := kd_law_1120.2.2.2.2.2.2.2.2.2.2.2.2.2.2.1
theorem d_law_1141 : decode code 1141 = .ok (.aload_n 2, 1) := kd_law_1120.2.2.2.2.2.2.2.2.2.2.2.2.2.2.2.1
theorem d_law_1142 : decode code 1142 = .ok (.aload_n 0, 1) := kd_law_1120.2.2.2.2.2.2.2.2.2.2.2.2.2.2.2.2.1
theorem d_law_1143 : decode code 1143 = .ok (.iload_n 3, 1) := kd_law_1120.2.2.2.2.2.2.2.2.2.2.2.2.2.2.2.2.2.1
theorem d_law_1144 : decode code 1144 = .ok (.iconst 1, 1) := kd_law_1120.2.2.2.2.2.2.2.2.2.2.2.2.2.2.2.2.2.2.1
theorem d_law_1145 : decode code 1145 = .ok (.iadd, 1) := kd_law_1120.2.2.2.2.2.2.2.2.2.2.2.2.2.2.2.2.2.2.2
theorem kd_law_1146 : decode code 1146 = .ok (.iaload, 1) ∧ decode code 1147 = .ok (.invokevirtual 149, 3) ∧ decode code 1150 = .ok (.pop, 1) ∧ decode code 1151 = .ok (.goto 178, 3) ∧ decode code 1154 = .ok (.aload_n 1, 1) ∧ decode code 1155 = .ok (.aload_n 0, 1) ∧ decode code 1156 = .ok (.iload_n 3, 1) ∧ decode code 1157 = .ok (.iconst 1, 1) ∧ decode code 1158 = .ok (.iadd, 1) ∧ decode code 1159 = .ok (.iaload, 1) ∧ decode code 1160 = .ok (.aload_n 0, 1) ∧ decode code 1161 = .ok (.iload_n 3, 1) ∧ decode code 1162 = .ok (.iconst 2, 1) ∧ decode code 1163 = .ok (.iadd, 1) ∧ decode code 1164 = .ok (.iaload, 1) ∧ decode code 1165 = .ok (.aload_n 0, 1) ∧ decode code 1166 = .ok (.iload_n 3, 1) ∧ decode code 1167 = .ok (.iconst 3, 1) ∧ decode code 1168 = .ok (.iadd, 1) ∧ decode code 1169 = .ok (.iaload, 1) := by decide +kernel
theorem d_law_1146 : decode code 1146 = .ok (.iaload, 1) := kd_law_1146.1
theorem d_law_1147 : decode code 1147 = .ok (.invokevirtual 149, 3) := kd_law_1146.2.1
theorem d_law_1150 : decode code 1150 = .ok (.pop, 1) := kd_law_1146.2.2.1
theorem d_law_1151 : decode code 1151 = .ok (.goto 178, 3) := kd_law_1146.2.2.2.1
theorem d_law_1154 : decode code 1154 = .ok (.aload_n 1, 1) := kd_law_1146.2.2.2.2.1
theorem d_law_1155 : decode code 1155 = .ok (.aload_n 0, 1) := kd_law_1146.2.2.2.2.2.1
theorem d_law_1156 : decode code 1156 = .ok (.iload_n 3, 1) := kd_law_1146.2.2.2.2.2.2.1
theorem d_law_1157 : decode code 1157 = .ok (.iconst 1, 1) := kd_law_1146.2.2.2.2.2.2.2.1
theorem d_law_1158 : decode code 1158 = .ok (.iadd, 1) := kd_law_1146.2.2.2.2.2.2.2.2.1
theorem d_law_1159 : decode code 1159 = .ok (.iaload, 1) := kd_law_1146.2.2.2.2.2.2.2.2.2.1
theorem d_law_1160 : decode code 1160 = .ok (.aload_n 0, 1) := kd_law_1146.2.2.2.2.2.2.2.2.2.2.1
theorem d_law_1161 : decode code 1161 = .ok (.iload_n 3, 1) := kd_law_1146.2.2.2.2.2.2.2.2.2.2.2.1
theorem d_law_1162 : decode code 1162 = .ok (.iconst 2, 1) := kd_law_1146.2.2.2.2.2.2.2.2.2.2.2.2.1
theorem d_law_1163 : decode code 1163 = .ok (.iadd, 1) := kd_law_1146.2.2.2.2.2.2.2.2.2.2.2.2.2.1
theorem d_law_1164 : decode code 1164 = .ok (.iaload, 1) := kd_law_1146.2.2.2.2.2.2.2.2.2.2.2.2.2.2.1
theorem d_law_1165 : decode code 1165 = .ok (.aload_n 0, 1) := kd_law_1146.2.2.2.2.2.2.2.2.2.2.2.2.2.2.2.1
theorem d_law_1166 : decode code 1166 = .ok (.iload_n 3, 1) := kd_law_1146.2.2.2.2.2.2.2.2.2.2.2.2.2.2.2.2.1
theorem d_law_1167 : decode code 1167 = .ok (.iconst 3, 1) := kd_law_1146.2.2.2.2.2.2.2.2.2.2.2.2.2.2.2.2.2.1
theorem d_law_1168 : decode code 1168 = .ok (.iadd, 1) := kd_law_1146.2.2.2.2.2.2.2.2.2.2.2.2.2.2.2.2.2.2.1
theorem d_law_1169 : decode code 1169 = .ok (.iaload, 1) := kd_law_1146.2.2.2.2.2.2.2.2.2.2.2.2.2.2.2.2.2.2.2
theorem kd_law_1170 : decode code 1170 = .ok (.invokevirtual 150, 3) ∧ decode code 1173 = .ok (.pop, 1) ∧ decode code 1174 = .ok (.aload_n 2, 1) ∧ decode code 1175 = .ok (.aload_n 0, 1) ∧ decode code 1176 = .ok (.iload_n 3, 1) ∧ decode code 1177 = .ok (.iconst 1, 1) ∧ decode code 1178 = .ok (.iadd, 1) ∧ decode code 1179 = .ok (.iaload, 1) ∧ decode code 1180 = .ok (.aload_n 0, 1) ∧ decode code 1181 = .ok (.iload_n 3, 1) ∧ decode code 1182 = .ok (.iconst 2, 1) ∧ decode code 1183 = .ok (.iadd, 1) ∧ decode code 1184 = .ok (.iaload, 1) ∧ decode code 1185 = .ok (.aload_n 0, 1) ∧ decode code 1186 = .ok (.iload_n 3, 1) ∧ decode code 1187 = .ok (.iconst 3, 1) ∧ decode code 1188 = .ok (.iadd, 1) ∧ decode code 1189 = .ok (.iaload, 1) ∧ decode code 1190 = .ok (.invokevirtual 153, 3) ∧ decode code 1193 = .ok (.pop, 1) := by decide +kernel
theorem d_law_1170 : decode code 1170 = .ok (.invokevirtual 150, 3) := kd_law_1170.1
theorem d_law_1173 : decode code 1173 = .ok (.pop, 1) := kd_law_1170.2.1
theorem d_law_1174 : decode code 1174 = .ok (.aload_n 2, 1) := kd_law_1170.2.2.1
theorem d_law_1175 : decode code 1175 = .ok (.aload_n 0, 1) := kd_law_1170.2.2.2.1
theorem d_law_1176 : decode code 1176 = .ok (.iload_n 3, 1) := kd_law_1170.2.2.2.2.1
theorem d_law_1177 : decode code 1177 = .ok (.iconst 1, 1) := kd_law_1170.2.2.2.2.2.1
theorem d_law_1178 : decode code 1178 = .ok (.iadd, 1) := kd_law_1170.2.2.2.2.2.2.1
theorem d_law_1179 : decode code 1179 = .ok (.iaload, 1) := kd_law_1170.2.2.2.2.2.2.2.1
theorem d_law_1180 : decode code 1180 = .ok (.aload_n 0, 1) := kd_law_1170.2.2.2.2.2.2.2.2.1
theorem d_law_1181 : decode code 1181 = .ok (.iload_n 3, 1) := kd_law_1170.2.2.2.2.2.2.2.2.2.1
theorem d_law_1182 : decode code 1182 = .ok (.iconst 2, 1) := kd_law_1170.2.2.2.2.2.2.2.2.2.2.1
theorem d_law_1183 : decode code 1183 = .ok (.iadd, 1) := kd_law_1170.2.2.2.2.2.2.2.2.2.2.2.1
theorem d_law_1184 : decode code 1184 = .ok (.iaload, 1) := kd_law_1170.2.2.2.2.2.2.2.2.2.2.2.2.1
theorem d_law_1185 : decode code 1185 = .ok (.aload_n 0, 1) := kd_law_1170.2.2.2.2.2.2.2.2.2.2.2.2.2.1
theorem d_law_1186 : decode code 1186 = .ok (.iload_n 3, 1) := kd_law_1170.2.2.2.2.2.2.2.2.2.2.2.2.2.2.1
theorem d_law_1187 : decode code 1187 = .ok (.iconst 3, 1) := kd_law_1170.2.2.2.2.2.2.2.2.2.2.2.2.2.2.2.1
theorem d_law_1188 : decode code 1188 = .ok (.iadd, 1) := kd_law_1170.2.2.2.2.2.2.2.2.2.2.2.2.2.2.2.2.1
theorem d_law_1189 : decode code 1189 = .ok (.iaload, 1) := kd_law_1170.2.2.2.2.2.2.2.2.2.2.2.2.2.2.2.2.2.1
theorem d_law_1190 : decode code 1190 = .ok (.invokevirtual 153, 3) := kd_law_1170.2.2.2.2.2.2.2.2.2.2.2.2.2.2.2.2.2.2.1
theorem d_law_1193 : decode code 1193 = .ok (.pop, 1) := kd_law_1170.2.2.2.2.2.2.2.2.2.2.2.2.2.2.2.2.2.2.2
theorem kd_law_1194 : decode code 1194 = .ok (.goto 135, 3) ∧ decode code 1197 = .ok (.aload_n 1, 1) ∧ decode code 1198 = .ok (.aload_n 0, 1) ∧ decode code 1199 = .ok (.iload_n 3, 1) ∧ decode code 1200 = .ok (.iconst 1, 1) ∧ decode code 1201 = .ok (.iadd, 1) ∧ decode code 1202 = .ok (.iaload, 1) ∧ decode code 1203 = .ok (.aload_n 0, 1) ∧ decode code 1204 = .ok (.iload_n 3, 1) ∧ decode code 1205 = .ok (.iconst 2, 1) ∧ decode code 1206 = .ok (.iadd, 1) ∧ decode code 1207 = .ok (.iaload, 1) ∧ decode code 1208 = .ok (.aload_n 0, 1) ∧ decode code 1209 = .ok (.iload_n 3, 1) ∧ decode code 1210 = .ok (.iconst 3, 1) ∧ decode code 1211 = .ok (.iadd, 1) ∧ decode code 1212 = .ok (.iaload, 1) ∧ decode code 1213 = .ok (.invokevirtual 154, 3) ∧ decode code 1216 = .ok (.pop, 1) ∧ decode code 1217 = .ok (.aload_n 2, 1) := by decide +kernel
theorem d_law_1194 : decode code 1194 = .ok (.goto 135, 3) := kd_law_1194.1
theorem d_law_1197 : decode code 1197 = .ok (.aload_n 1, 1) := kd_law_1194.2.1
theorem d_law_1198 : decode code 1198 = .ok (.aload_n 0, 1) := kd_law_1194.2.2.1
theorem d_law_1199 : decode code 1199 = .ok (.iload_n 3, 1) := kd_law_1194.2.2.2.1
theorem d_law_1200 : decode code 1200 = .ok (.iconst 1, 1) := kd_law_1194.2.2.2.2.1
theorem d_law_1201 : decode code 1201 = .ok (.iadd, 1) := kd_law_1194.2.2.2.2.2.1
theorem d_law_1202 : decode code 1202 = .ok (.iaload, 1) := kd_law_1194.2.2.2.2.2.2.1
theorem d_law_1203 : decode code 1203 = .ok (.aload_n 0, 1) := kd_law_1194.2.2.2.2.2.2.2.1
theorem d_law_1204 : decode code 1204 = .ok (.iload_n 3, 1) := kd_law_1194.2.2.2.2.2.2.2.2.1
theorem d_law_1205 : decode code 1205 = .ok (.iconst 2, 1) := kd_law_1194.2.2.2.2.2.2.2.2.2.1
theorem d_law_1206 : decode code 1206 = .ok (.iadd, 1) := kd_law_1194.2.2.2.2.2.2.2.2.2.2.1
theorem d_law_1207 : decode code 1207 = .ok (.iaload, 1) := kd_law_1194.2.2.2.2.2.2.2.2.2.2.2.1
theorem d_law_1208 : decode code 1208 = .ok (.aload_n 0, 1) := kd_law_1194.2.2.2.2.2.2.2.2.2.2.2.2.1
theorem d_law_1209 : decode code 1209 = .ok (.iload_n 3, 1) := kd_law_1194.2.2.2.2.2.2.2.2.2.2.2.2.2.1
theorem d_law_1210 : decode code 1210 = .ok (.iconst 3, 1) := kd_law_1194.2.2.2.2.2.2.2.2.2.2.2.2.2.2.1
theorem d_law_1211 : decode code 1211 = .ok (.iadd, 1) := kd_law_1194.2.2.2.2.2.2.2.2.2.2.2.2.2.2.2.1
theorem d_law_1212 : decode code 1212 = .ok (.iaload, 1) := kd_law_1194.2.2.2.2.2.2.2.2.2.2.2.2.2.2.2.2.1
theorem d_law_1213 : decode code 1213 = .ok (.invokevirtual 154, 3) := kd_law_1194.2.2.2.2.2.2.2.2.2.2.2.2.2.2.2.2.2.1
theorem d_law_1216 : decode code 1216 = .ok (.pop, 1) := kd_law_1194.2.2.2.2.2.2.2.2.2.2.2.2.2.2.2.2.2.2.1
theorem d_law_1217 : decode code 1217 = .ok (.aload_n 2, 1) := kd_law_1194.2.2.2.2.2.2.2.2.2.2.2.2.2.2.2.2.2.2.2
theorem kd_law_1218 : decode code 1218 = .ok (.aload_n 0, 1) ∧ decode code 1219 = .ok (.iload_n 3, 1) ∧ decode code 1220 = .ok (.iconst 1, 1) ∧ decode code 1221 = .ok (.iadd, 1) ∧ decode code 1222 = .ok (.iaload, 1) ∧ decode code 1223 = .ok (.aload_n 0, 1) ∧ decode code 1224 = .ok (.iload_n 3, 1) ∧ decode code 1225 = .ok (.iconst 2, 1) ∧ decode code 1226 = .ok (.iadd, 1) ∧ decode code 1227 = .ok (.iaload, 1) ∧ decode code 1228 = .ok (.aload_n 0, 1) ∧ decode code 1229 = .ok (.iload_n 3, 1) ∧ decode code 1230 = .ok (.iconst 3, 1) ∧ decode code 1231 = .ok (.iadd, 1) ∧ decode code 1232 = .ok (.iaload, 1) ∧ decode code 1233 = .ok (.invokevirtual 157, 3) ∧ decode code 1236 = .ok (.pop, 1) ∧ decode code 1237 = .ok (.goto 92, 3) ∧ decode code 1240 = .ok (.aload_n 1, 1) ∧ decode code 1241 = .ok (.aload_n 0, 1) := by decide +kernel
theorem d_law_1218 : decode code 1218 = .ok (.aload_n 0, 1) := kd_law_1218.1
theorem d_law_1219 : decode code 1219 = .ok (.iload_n 3, 1) := kd_law_1218.2.1
theorem d_law_1220 : decode code 1220 = .ok (.iconst 1, 1) := kd_law_1218.2.2.1
theorem d_law_1221 : decode code 1221 = .ok (.iadd, 1) := kd_law_1218.2.2.2.1
theorem d_law_1222 : decode code 1222 = .ok (.iaload, 1) := kd_law_1218.2.2.2.2.1
theorem d_law_1223 : decode code 1223 = .ok (.aload_n 0, 1) := kd_law_1218.2.2.2.2.2.1
theorem d_law_1224 : decode code 1224 = .ok (.iload_n 3, 1) := kd_law_1218.2.2.2.2.2.2.1
theorem d_law_1225 : decode code 1225 = .ok (.iconst 2, 1) := kd_law_1218.2.2.2.2.2.2.2.1
theorem d_law_1226 : decode code 1226 = .ok (.iadd, 1) := kd_law_1218.2.2.2.2.2.2.2.2.1
theorem d_law_1227 : decode code 1227 = .ok (.iaload, 1) := kd_law_1218.2.2.2.2.2.2.2.2.2.1
theorem d_law_1228 : decode code 1228 = .ok (.aload_n 0, 1) := kd_law_1218.2.2.2.2.2.2.2.2.2.2.1
theorem d_law_1229 : decode code 1229 = .ok (.iload_n 3, 1) := kd_law_1218.2.2.2.2.2.2.2.2.2.2.2.1
theorem d_law_1230 : decode code 1230 = .ok (.iconst 3, 1) := kd_law_1218.2.2.2.2.2.2.2.2.2.2.2.2.1
theorem d_law_1231 : decode code 1231 = .ok (.iadd, 1) := kd_law_1218.2.2.2.2.2.2.2.2.2.2.2.2.2.1
theorem d_law_1232 : decode code 1232 = .ok (.iaload, 1) := kd_law_1218.2.2.2.2.2.2.2.2.2.2.2.2.2.2.1
theorem d_law_1233 : decode code 1233 = .ok (.invokevirtual 157, 3) := kd_law_1218.2.2.2.2.2.2.2.2.2.2.2.2.2.2.2.1
theorem d_law_1236 : decode code 1236 = .ok (.pop, 1) := kd_law_1218.2.2.2.2.2.2.2.2.2.2.2.2.2.2.2.2.1
theorem d_law_1237 : decode code 1237 = .ok (.goto 92, 3) := kd_law_1218.2.2.2.2.2.2.2.2.2.2.2.2.2.2.2.2.2.1
theorem d_law_1240 : decode code 1240 = .ok (.aload_n 1, 1) := kd_law_1218.2.2.2.2.2.2.2.2.2.2.2.2.2.2.2.2.2.2.1
theorem d_law_1241 : decode code 1241 = .ok (.aload_n 0, 1) := kd_law_1218.2.2.2.2.2.2.2.2.2.2.2.2.2.2.2.2.2.2.2
theorem kd_law_1242 : decode code 1242 = .ok (.iload_n 3, 1) ∧ decode code 1243 = .ok (.iconst 1, 1) ∧ decode code 1244 = .ok (.iadd, 1) ∧ decode code 1245 = .ok (.iaload, 1) ∧ decode code 1246 = .ok (.aload_n 0, 1) ∧ decode code 1247 = .ok (.iload_n 3, 1) ∧ decode code 1248 = .ok (.iconst 2, 1) ∧ decode code 1249 = .ok (.iadd, 1) ∧ decode code 1250 = .ok (.iaload, 1) ∧ decode code 1251 = .ok (.aload_n 0, 1) ∧ decode code 1252 = .ok (.iload_n 3, 1) ∧ decode code 1253 = .ok (.iconst 3, 1) ∧ decode code 1254 = .ok (.iadd, 1) ∧ decode code 1255 = .ok (.iaload, 1) ∧ decode code 1256 = .ok (.aload_n 0, 1) ∧ decode code 1257 = .ok (.iload_n 3, 1) ∧ decode code 1258 = .ok (.iconst 4, 1) ∧ decode code 1259 = .ok (.iadd, 1) ∧ decode code 1260 = .ok (.iaload, 1) ∧ decode code 1261 = .ok (.invokevirtual 158, 3) := by decide +kernel
theorem d_law_1242 : decode code 1242 = .ok (.iload_n 3, 1) := kd_law_1242.1
theorem d_law_1243 : decode code 1243 = .ok (.iconst 1, 1) := kd_law_1242.2.1
theorem d_law_1244 : decode code 1244 = .ok (.iadd, 1) := kd_law_1242.2.2.1
theorem d_law_1245 : decode code 1245 = .ok (.iaload, 1) := kd_law_1242.2.2.2.1
theorem d_law_1246 : decode code 1246 = .ok (.aload_n 0, 1) := kd_law_1242.2.2.2.2.1
theorem d_law_1247 : decode code 1247 = .ok (.iload_n 3, 1) := kd_law_1242.2.2.2.2.2.1
theorem d_law_1248 : decode code 1248 = .ok (.iconst 2, 1) := kd_law_1242.2.2.2.2.2.2.1
theorem d_law_1249 : decode code 1249 = .ok (.iadd, 1) := kd_law_1242.2.2.2.2.2.2.2.1
theorem d_law_1250 : decode code 1250 = .ok (.iaload, 1) := kd_law_1242.2.2.2.2.2.2.2.2.1
theorem d_law_1251 : decode code 1251 = .ok (.aload_n 0, 1) := kd_law_1242.2.2.2.2.2.2.2.2.2.1
theorem d_law_1252 : decode code 1252 = .ok (.iload_n 3, 1) := kd_law_1242.2.2.2.2.2.2.2.2.2.2.1
theorem d_law_1253 : decode code 1253 = .ok (.iconst 3, 1) := kd_law_1242.2.2.2.2.2.2.2.2.2.2.2.1
theorem d_law_1254 : decode code 1254 = .ok (.iadd, 1) := kd_law_1242.2.2.2.2.2.2.2.2.2.2.2.2.1
theorem d_law_1255 : decode code 1255 = .ok (.iaload, 1) := kd_law_1242.2.2.2.2.2.2.2.2.2.2.2.2.2.1
theorem d_law_1256 : decode code 1256 = .ok (.aload_n 0, 1) := kd_law_1242.2.2.2.2.2.2.2.2.2.2.2.2.2.2.1
theorem d_law_1257 : decode code 1257 = .ok (.iload_n 3, 1) := kd_law_1242.2.2.2.2.2.2.2.2.2.2.2.2.2.2.2.1
theorem d_law_1258 : decode code 1258 = .ok (.iconst 4, 1) := kd_law_1242.2.2.2.2.2.2.2.2.2.2.2.2.2.2.2.2.1
theorem d_law_1259 : decode code 1259 = .ok (.iadd, 1) := kd_law_1242.2.2.2.2.2.2.2.2.2.2.2.2.2.2.2.2.2.1
theorem d_law_1260 : decode code 1260 = .ok (.iaload, 1) := kd_law_1242.2.2.2.2.2.2.2.2.2.2.2.2.2.2.2.2.2.2.1
theorem d_law_1261 : decode code 1261 = .ok (.invokevirtual 158, 3) := kd_law_1242.2.2.2.2.2.2.2.2.2.2.2.2.2.2.2.2.2.2.2
theorem kd_law_1264 : decode code 1264 = .ok (.pop, 1) ∧ decode code 1265 = .ok (.aload_n 2, 1) ∧ decode code 1266 = .ok (.aload_n 0, 1) ∧ decode code 1267 = .ok (.iload_n 3, 1) ∧ decode code 1268 = .ok (.iconst 1, 1) ∧ decode code 1269 = .ok (.iadd, 1) ∧ decode code 1270 = .ok (.iaload, 1) ∧ decode code 1271 = .ok (.aload_n 0, 1) ∧ decode code 1272 = .ok (.iload_n 3, 1) ∧ decode code 1273 = .ok (.iconst 2, 1) ∧ decode code 1274 = .ok (.iadd, 1) ∧ decode code 1275 = .ok (.iaload, 1) ∧ decode code 1276 = .ok (.aload_n 0, 1) ∧ decode code 1277 = .ok (.iload_n 3, 1) ∧ decode code 1278 = .ok (.iconst 3, 1) ∧ decode code 1279 = .ok (.iadd, 1) ∧ decode code 1280 = .ok (.iaload, 1) ∧ decode code 1281 = .ok (.aload_n 0, 1) ∧ decode code 1282 = .ok (.iload_n 3, 1) ∧ decode code 1283 = .ok (.iconst 4, 1) := by decide +kernel
theorem d_law_1264 : decode code 1264 = .ok (.pop, 1) := kd_law_1264.1
theorem d_law_1265 : decode code 1265 = .ok (.aload_n 2, 1) := kd_law_1264.2.1
theorem d_law_1266 : decode code 1266 = .ok (.aload_n 0, 1) := kd_law_1264.2.2.1
theorem d_law_1267 : decode code 1267 = .ok (.iload_n 3, 1) := kd_law_1264.2.2.2.1
theorem d_law_1268 : decode code 1268 = .ok (.iconst 1, 1) := kd_law_1264.2.2.2.2.1
theorem d_law_1269 : decode code 1269 = .ok (.iadd, 1) := kd_law_1264.2.2.2.2.2.1
theorem d_law_1270 : decode code 1270 = .ok (.iaload, 1) := kd_law_1264.2.2.2.2.2.2.1
theorem d_law_1271 : decode code 1271 = .ok (.aload_n 0, 1) := kd_law_1264.2.2.2.2.2.2.2.1
theorem d_law_1272 : decode code 1272 = .ok (.iload_n 3, 1) := kd_law_1264.2.2.2.2.2.2.2.2.1
theorem d_law_1273 : decode code 1273 = .ok (.iconst 2, 1) := kd_law_1264.2.2.2.2.2.2.2.2.2.1
theorem d_law_1274 : decode code 1274 = .ok (.iadd, 1) := kd_law_1264.2.2.2.2.2.2.2.2.2.2.1
theorem d_law_1275 : decode code 1275 = .ok (.iaload, 1) := kd_law_1264.2.2.2.2.2.2.2.2.2.2.2.1
theorem d_law_1276 : decode code 1276 = .ok (.aload_n 0, 1) := kd_law_1264.2.2.2.2.2.2.2.2.2.2.2.2.1
theorem d_law_1277 : decode code 1277 = .ok (.iload_n 3, 1) := kd_law_1264.2.2.2.2.2.2.2.2.2.2.2.2.2.1
theorem d_law_1278 : decode code 1278 = .ok (.iconst 3, 1) := kd_law_1264.2.2.2.2.2.2.2.2.2.2.2.2.2.2.1
theorem d_law_1279 : decode code 1279 = .ok (.iadd, 1) := kd_law_1264.2.2.2.2.2.2.2.2.2.2.2.2.2.2.2.1
theorem d_law_1280 : decode code 1280 = .ok (.iaload, 1) := kd_law_1264.2.2.2.2.2.2.2.2.2.2.2.2.2.2.2.2.1
theorem d_law_1281 : decode code 1281 = .ok (.aload_n 0, 1) := kd_law_1264.2.2.2.2.2.2.2.2.2.2.2.2.2.2.2.2.2.1
theorem d_law_1282 : decode code 1282 = .ok (.iload_n 3, 1) := kd_law_1264.2.2.2.2.2.2.2.2.2.2.2.2.2.2.2.2.2.2.1
theorem d_law_1283 : decode code 1283 = .ok (.iconst 4, 1) := kd_law_1264.2.2.2.2.2.2.2.2.2.2.2.2.2.2.2.2.2.2.2
theorem kd_law_1284 : decode code 1284 = .ok (.iadd, 1) ∧ decode code 1285 = .ok (.iaload, 1) ∧ decode code 1286 = .ok (.invokevirtual 161, 3) ∧ decode code 1289 = .ok (.pop, 1) ∧ decode code 1290 = .ok (.goto 39, 3) ∧ decode code 1293 = .ok (.aload_n 1, 1) ∧ decode code 1294 = .ok (.invokevirtual 162, 3) ∧ decode code 1297 = .ok (.pop, 1) ∧ decode code 1298 = .ok (.aload_n 2, 1) ∧ decode code 1299 = .ok (.invokevirtual 165, 3) ∧ decode code 1302 = .ok (.pop, 1) ∧ decode code 1303 = .ok (.goto 26, 3) ∧ decode code 1306 = .ok (.aload_n 1, 1) ∧ decode code 1307 = .ok (.aload_n 0, 1) ∧ decode code 1308 = .ok (.iload_n 3, 1) ∧ decode code 1309 = .ok (.iconst 1, 1) ∧ decode code 1310 = .ok (.iadd, 1) ∧ decode code 1311 = .ok (.iaload, 1) ∧ decode code 1312 = .ok (.invokevirtual 166, 3) ∧ decode code 1315 = .ok (.pop, 1) := by decide +kernel
theorem d_law_1284 : decode code 1284 = .ok (.iadd, 1) := kd_law_1284.1
theorem d_law_1285 : decode code 1285 = .ok (.iaload, 1) := kd_law_1284.2.1
theorem d_law_1286 : decode code 1286 = .ok (.invokevirtual 161, 3) := kd_law_1284.2.2.1
theorem d_law_1289 : decode code 1289 = .ok (.pop, 1) := kd_law_1284.2.2.2.1
theorem d_law_1290 : decode code 1290 = .ok (.goto 39, 3) := kd_law_1284.2.2.2.2.1
theorem d_law_1293 : decode code 1293 = .ok (.aload_n 1, 1) := kd_law_1284.2.2.2.2.2.1
theorem d_law_1294 : decode code 1294 = .ok (.invokevirtual 162, 3) := kd_law_1284.2.2.2.2.2.2.1
theorem d_law_1297 : decode code 1297 = .ok (.pop, 1) := kd_law_1284.2.2.2.2.2.2.2.1
theorem d_law_1298 : decode code 1298 = .ok (.aload_n 2, 1) := kd_law_1284.2.2.2.2.2.2.2.2.1
theorem d_law_1299 : decode code 1299 = .ok (.invokevirtual 165, 3) := kd_law_1284.2.2.2.2.2.2.2.2.2.1
theorem d_law_1302 : decode code 1302 = .ok (.pop, 1) := kd_law_1284.2.2.2.2.2.2.2.2.2.2.1
theorem d_law_1303 : decode code 1303 = .ok (.goto 26, 3) := kd_law_1284.2.2.2.2.2.2.2.2.2.2.2.1
theorem d_law_1306 : decode code 1306 = .ok (.aload_n 1, 1) := kd_law_1284.2.2.2.2.2.2.2.2.2.2.2.2.1
theorem d_law_1307 : decode code 1307 = .ok (.aload_n 0, 1) := kd_law_1284.2.2.2.2.2.2.2.2.2.2.2.2.2.1
theorem d_law_1308 : decode code 1308 = .ok (.iload_n 3, 1) := kd_law_1284.2.2.2.2.2.2.2.2.2.2.2.2.2.2.1
theorem d_law_1309 : decode code 1309 = .ok (.iconst 1, 1) := kd_law_1284.2.2.2.2.2.2.2.2.2.2.2.2.2.2.2.1
theorem d_law_1310 : decode code 1310 = .ok (.iadd, 1) := kd_law_1284.2.2.2.2.2.2.2.2.2.2.2.2.2.2.2.2.1
theorem d_law_1311 : decode code 1311 = .ok (.iaload, 1) := kd_law_1284.2.2.2.2.2.2.2.2.2.2.2.2.2.2.2.2.2.1
theorem d_law_1312 : decode code 1312 = .ok (.invokevirtual 166, 3) := kd_law_1284.2.2.2.2.2.2.2.2.2.2.2.2.2.2.2.2.2.2.1
theorem d_law_1315 : decode code 1315 = .ok (.pop, 1) := kd_law_1284.2.2.2.2.2.2.2.2.2.2.2.2.2.2.2.2.2.2.2
theorem kd_law_1316 : decode code 1316 = .ok (.aload_n 2, 1) ∧ decode code 1317 = .ok (.aload_n 0, 1) ∧ decode code 1318 = .ok (.iload_n 3, 1) ∧ decode code 1319 = .ok (.iconst 1, 1) ∧ decode code 1320 = .ok (.iadd, 1) ∧ decode code 1321 = .ok (.iaload, 1) ∧ decode code 1322 = .ok (.invokevirtual 169, 3) ∧ decode code 1325 = .ok (.pop, 1) ∧ decode code 1326 = .ok (.goto 3, 3) ∧ decode code 1329 = .ok (.iinc 3 5, 3) ∧ decode code 1332 = .ok (.goto (-1314), 3) ∧ decode code 1335 = .ok (.iconst 1, 1) ∧ decode code 1336 = .ok (.ireturn, 1) := by decide +kernel
theorem d_law_1316 : decode code 1316 = .ok (.aload_n 2, 1) := kd_law_1316.1
theorem d_law_1317 : decode code 1317 = .ok (.aload_n 0, 1) := kd_law_1316.2.1
theorem d_law_1318 : decode code 1318 = .ok (.iload_n 3, 1) := kd_law_1316.2.2.1
theorem d_law_1319 : decode code 1319 = .ok (.iconst 1, 1) := kd_law_1316.2.2.2.1
theorem d_law_1320 : decode code 1320 = .ok (.iadd, 1) := kd_law_1316.2.2.2.2.1
theorem d_law_1321 : decode code 1321 = .ok (.iaload, 1) := kd_law_1316.2.2.2.2.2.1
theorem d_law_1322 : decode code 1322 = .ok (.invokevirtual 169, 3) := kd_law_1316.2.2.2.2.2.2.1
theorem d_law_1325 : decode code 1325 = .ok (.pop, 1) := kd_law_1316.2.2.2.2.2.2.2.1
theorem d_law_1326 : decode code 1326 = .ok (.goto 3, 3) := kd_law_1316.2.2.2.2.2.2.2.2.1
theorem d_law_1329 : decode code 1329 = .ok (.iinc 3 5, 3) := kd_law_1316.2.2.2.2.2.2.2.2.2.1
theorem d_law_1332 : decode code 1332 = .ok (.goto (-1314), 3) := kd_law_1316.2.2.2.2.2.2.2.2.2.2.1
theorem d_law_1335 : decode code 1335 = .ok (.iconst 1, 1) := kd_law_1316.2.2.2.2.2.2.2.2.2.2.2.1
theorem d_law_1336 : decode code 1336 = .ok (.ireturn, 1) := kd_law_1316.2.2.2.2.2.2.2.2.2.2.2.2

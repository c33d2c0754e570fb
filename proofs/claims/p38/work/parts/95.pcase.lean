/-! THE LAW: its cases -/
set_option maxHeartbeats 4000000 in
theorem law_case_0 {L : Nat} {xs : Nat → Int32} {i : Int32} (h0 : vp_in i L) (h1 : vp_in (i + 1) L) (h2 : vp_in (i + 2) L) (h3 : vp_in (i + 3) L) (h4 : vp_in (i + 4) L) {Mx Mm : Mem} (hR : Rel Mx Mm) (hend : ∀ Mx2 Mm2, Rel Mx2 Mm2 → JL L xs 1329 [(0, .ref 301), (1, .ref 0), (2, .ref 300), (3, .int i)] [] Mx2 Mm2) : JL L xs 196 [(0, .ref 301), (1, .ref 0), (2, .ref 300), (3, .int i)] [] Mx Mm := by
  refine l_aload_n (pc := 196) (q := 1) d_law_196 rfl rfl ?_
  refine l_aload_n (pc := 197) (q := 0) d_law_197 rfl rfl ?_
  refine l_iload_n (pc := 198) (q := 3) d_law_198 rfl rfl ?_
  refine l_iconst (pc := 199) d_law_199 k_i_1 ?_
  refine l_iadd (pc := 200) d_law_200 ?_
  refine l_ald (pc := 201) d_law_201 (h1) ?_
  refine l_i2l (pc := 202) d_law_202 ?_
  refine l_bipush (pc := 203) d_law_203 k_b_32 ?_
  refine l_lshl (pc := 205) d_law_205 ?_
  refine l_aload_n (pc := 206) (q := 0) d_law_206 rfl rfl ?_
  refine l_iload_n (pc := 207) (q := 3) d_law_207 rfl rfl ?_
  refine l_iconst (pc := 208) d_law_208 k_i_2 ?_
  refine l_iadd (pc := 209) d_law_209 ?_
  refine l_ald (pc := 210) d_law_210 (h2) ?_
  refine l_i2l (pc := 211) d_law_211 ?_
  refine l_ldc2 (pc := 212) d_law_212 cl_Law_13 ?_
  refine l_land (pc := 215) d_law_215 ?_
  refine l_lor (pc := 216) d_law_216 ?_
  obtain ⟨r, Mx2, Mm2, hFx, hFm, hR2⟩ := sim_feed ((((xs (i + 1).toNatClampNeg).toInt64) <<< ((32 : Int32).toInt64 &&& 63)) ||| (((xs (i + 2).toNatClampNeg).toInt64) &&& 4294967295)) _ _ hR
  refine l_callX (pc := 217) (as := [.long ((((xs (i + 1).toNatClampNeg).toInt64) <<< ((32 : Int32).toInt64 &&& 63)) ||| (((xs (i + 2).toNatClampNeg).toInt64) &&& 4294967295))]) d_law_217 (C_ShakeHands_feed fuel ((((xs (i + 1).toNatClampNeg).toInt64) <<< ((32 : Int32).toInt64 &&& 63)) ||| (((xs (i + 2).toNatClampNeg).toInt64) &&& 4294967295)) _) hFx cV_Law_15 cd_ShakeHands_feed dn_ShakeHands_feed rfl rfl (by decide) (by decide) (Nat.le_of_ble_eq_true rfl) rfl (fun _ _ => rfl) ?_
  refine l_pop (pc := 220) d_law_220 ?_
  refine l_aload_n (pc := 221) (q := 2) d_law_221 rfl rfl ?_
  refine l_aload_n (pc := 222) (q := 0) d_law_222 rfl rfl ?_
  refine l_iload_n (pc := 223) (q := 3) d_law_223 rfl rfl ?_
  refine l_iconst (pc := 224) d_law_224 k_i_1 ?_
  refine l_iadd (pc := 225) d_law_225 ?_
  refine l_ald (pc := 226) d_law_226 (h1) ?_
  refine l_i2l (pc := 227) d_law_227 ?_
  refine l_bipush (pc := 228) d_law_228 k_b_32 ?_
  refine l_lshl (pc := 230) d_law_230 ?_
  refine l_aload_n (pc := 231) (q := 0) d_law_231 rfl rfl ?_
  refine l_iload_n (pc := 232) (q := 3) d_law_232 rfl rfl ?_
  refine l_iconst (pc := 233) d_law_233 k_i_2 ?_
  refine l_iadd (pc := 234) d_law_234 ?_
  refine l_ald (pc := 235) d_law_235 (h2) ?_
  refine l_i2l (pc := 236) d_law_236 ?_
  refine l_ldc2 (pc := 237) d_law_237 cl_Law_13 ?_
  refine l_land (pc := 240) d_law_240 ?_
  refine l_lor (pc := 241) d_law_241 ?_
  refine l_callM (pc := 242) (as := [.long ((((xs (i + 1).toNatClampNeg).toInt64) <<< ((32 : Int32).toInt64 &&& 63)) ||| (((xs (i + 2).toNatClampNeg).toInt64) &&& 4294967295))]) d_law_242 (C_Model_feed fuel ((((xs (i + 1).toNatClampNeg).toInt64) <<< ((32 : Int32).toInt64 &&& 63)) ||| (((xs (i + 2).toNatClampNeg).toInt64) &&& 4294967295)) _) hFm cV_Law_19 cd_Model_feed dn_Model_feed rfl rfl (by decide) (by decide) (Nat.le_of_ble_eq_true rfl) rfl (fun _ _ => rfl) ?_
  refine l_pop (pc := 245) d_law_245 ?_
  refine l_goto (pc := 246) (tgt := 1329) d_law_246 (by decide) ?_
  exact hend _ _ hR2
set_option maxHeartbeats 4000000 in
theorem law_case_1 {L : Nat} {xs : Nat → Int32} {i : Int32} (h0 : vp_in i L) (h1 : vp_in (i + 1) L) (h2 : vp_in (i + 2) L) (h3 : vp_in (i + 3) L) (h4 : vp_in (i + 4) L) {Mx Mm : Mem} (hR : Rel Mx Mm) (hend : ∀ Mx2 Mm2, Rel Mx2 Mm2 → JL L xs 1329 [(0, .ref 301), (1, .ref 0), (2, .ref 300), (3, .int i)] [] Mx2 Mm2) : JL L xs 249 [(0, .ref 301), (1, .ref 0), (2, .ref 300), (3, .int i)] [] Mx Mm := by
  refine l_aload_n (pc := 249) (q := 1) d_law_249 rfl rfl ?_
  refine l_aload_n (pc := 250) (q := 0) d_law_250 rfl rfl ?_
  refine l_iload_n (pc := 251) (q := 3) d_law_251 rfl rfl ?_
  refine l_iconst (pc := 252) d_law_252 k_i_1 ?_
  refine l_iadd (pc := 253) d_law_253 ?_
  refine l_ald (pc := 254) d_law_254 (h1) ?_
  obtain ⟨r, Mx2, Mm2, hFx, hFm, hR2⟩ := sim_end (xs (i + 1).toNatClampNeg) _ _ hR
  refine l_callX (pc := 255) (as := [.int (xs (i + 1).toNatClampNeg)]) d_law_255 (C_ShakeHands_end fuel (xs (i + 1).toNatClampNeg) _) hFx cV_Law_20 cd_ShakeHands_end dn_ShakeHands_end rfl rfl (by decide) (by decide) (Nat.le_of_ble_eq_true rfl) rfl (fun _ _ => rfl) ?_
  refine l_pop (pc := 258) d_law_258 ?_
  refine l_aload_n (pc := 259) (q := 2) d_law_259 rfl rfl ?_
  refine l_aload_n (pc := 260) (q := 0) d_law_260 rfl rfl ?_
  refine l_iload_n (pc := 261) (q := 3) d_law_261 rfl rfl ?_
  refine l_iconst (pc := 262) d_law_262 k_i_1 ?_
  refine l_iadd (pc := 263) d_law_263 ?_
  refine l_ald (pc := 264) d_law_264 (h1) ?_
  refine l_callM (pc := 265) (as := [.int (xs (i + 1).toNatClampNeg)]) d_law_265 (C_Model_end fuel (xs (i + 1).toNatClampNeg) _) hFm cV_Law_24 cd_Model_end dn_Model_end rfl rfl (by decide) (by decide) (Nat.le_of_ble_eq_true rfl) rfl (fun _ _ => rfl) ?_
  refine l_pop (pc := 268) d_law_268 ?_
  refine l_goto (pc := 269) (tgt := 1329) d_law_269 (by decide) ?_
  exact hend _ _ hR2
set_option maxHeartbeats 4000000 in
theorem law_case_2 {L : Nat} {xs : Nat → Int32} {i : Int32} (h0 : vp_in i L) (h1 : vp_in (i + 1) L) (h2 : vp_in (i + 2) L) (h3 : vp_in (i + 3) L) (h4 : vp_in (i + 4) L) {Mx Mm : Mem} (hR : Rel Mx Mm) (hend : ∀ Mx2 Mm2, Rel Mx2 Mm2 → JL L xs 1329 [(0, .ref 301), (1, .ref 0), (2, .ref 300), (3, .int i)] [] Mx2 Mm2) : JL L xs 272 [(0, .ref 301), (1, .ref 0), (2, .ref 300), (3, .int i)] [] Mx Mm := by
  refine l_aload_n (pc := 272) (q := 1) d_law_272 rfl rfl ?_
  obtain ⟨r, Mx2, Mm2, hFx, hFm, hR2⟩ := sim_text _ _ hR
  refine l_callX (pc := 273) (as := []) d_law_273 (C_ShakeHands_text fuel _) hFx cV_Law_25 cd_ShakeHands_text dn_ShakeHands_text rfl rfl (by decide) (by decide) (Nat.le_of_ble_eq_true rfl) rfl (fun _ _ => rfl) ?_
  refine l_pop (pc := 276) d_law_276 ?_
  refine l_aload_n (pc := 277) (q := 2) d_law_277 rfl rfl ?_
  refine l_callM (pc := 278) (as := []) d_law_278 (C_Model_text fuel _) hFm cV_Law_29 cd_Model_text dn_Model_text rfl rfl (by decide) (by decide) (Nat.le_of_ble_eq_true rfl) rfl (fun _ _ => rfl) ?_
  refine l_pop (pc := 281) d_law_281 ?_
  refine l_goto (pc := 282) (tgt := 1329) d_law_282 (by decide) ?_
  exact hend _ _ hR2
set_option maxHeartbeats 4000000 in
theorem law_case_3 {L : Nat} {xs : Nat → Int32} {i : Int32} (h0 : vp_in i L) (h1 : vp_in (i + 1) L) (h2 : vp_in (i + 2) L) (h3 : vp_in (i + 3) L) (h4 : vp_in (i + 4) L) {Mx Mm : Mem} (hR : Rel Mx Mm) (hend : ∀ Mx2 Mm2, Rel Mx2 Mm2 → JL L xs 1329 [(0, .ref 301), (1, .ref 0), (2, .ref 300), (3, .int i)] [] Mx2 Mm2) : JL L xs 285 [(0, .ref 301), (1, .ref 0), (2, .ref 300), (3, .int i)] [] Mx Mm := by
  refine l_aload_n (pc := 285) (q := 1) d_law_285 rfl rfl ?_
  obtain ⟨r, r', Mx2, Mm2, hFx, hFm, hR2⟩ := sim_fault _ _ hR
  refine l_callX (pc := 286) (as := []) d_law_286 (C_ShakeHands_fault fuel _) hFx cV_Law_30 cd_ShakeHands_fault dn_ShakeHands_fault rfl rfl (by decide) (by decide) (Nat.le_of_ble_eq_true rfl) rfl (fun _ _ => rfl) ?_
  refine l_pop (pc := 289) d_law_289 ?_
  refine l_aload_n (pc := 290) (q := 2) d_law_290 rfl rfl ?_
  refine l_callM (pc := 291) (as := []) d_law_291 (C_Model_fault fuel _) hFm cV_Law_33 cd_Model_fault dn_Model_fault rfl rfl (by decide) (by decide) (Nat.le_of_ble_eq_true rfl) rfl (fun _ _ => rfl) ?_
  refine l_pop (pc := 294) d_law_294 ?_
  refine l_goto (pc := 295) (tgt := 1329) d_law_295 (by decide) ?_
  exact hend _ _ hR2
set_option maxHeartbeats 4000000 in
theorem law_case_4 {L : Nat} {xs : Nat → Int32} {i : Int32} (h0 : vp_in i L) (h1 : vp_in (i + 1) L) (h2 : vp_in (i + 2) L) (h3 : vp_in (i + 3) L) (h4 : vp_in (i + 4) L) {Mx Mm : Mem} (hR : Rel Mx Mm) (hend : ∀ Mx2 Mm2, Rel Mx2 Mm2 → JL L xs 1329 [(0, .ref 301), (1, .ref 0), (2, .ref 300), (3, .int i)] [] Mx2 Mm2) : JL L xs 298 [(0, .ref 301), (1, .ref 0), (2, .ref 300), (3, .int i)] [] Mx Mm := by
  refine l_aload_n (pc := 298) (q := 1) d_law_298 rfl rfl ?_
  refine l_aload_n (pc := 299) (q := 0) d_law_299 rfl rfl ?_
  refine l_iload_n (pc := 300) (q := 3) d_law_300 rfl rfl ?_
  refine l_iconst (pc := 301) d_law_301 k_i_1 ?_
  refine l_iadd (pc := 302) d_law_302 ?_
  refine l_ald (pc := 303) d_law_303 (h1) ?_
  obtain ⟨r, Mx2, Mm2, hFx, hFm, hR2⟩ := sim_rule (xs (i + 1).toNatClampNeg) _ _ hR
  refine l_callX (pc := 304) (as := [.int (xs (i + 1).toNatClampNeg)]) d_law_304 (C_ShakeHands_rule fuel (xs (i + 1).toNatClampNeg) _) hFx cV_Law_34 cd_ShakeHands_rule dn_ShakeHands_rule rfl rfl (by decide) (by decide) (Nat.le_of_ble_eq_true rfl) rfl (fun _ _ => rfl) ?_
  refine l_pop (pc := 307) d_law_307 ?_
  refine l_aload_n (pc := 308) (q := 2) d_law_308 rfl rfl ?_
  refine l_aload_n (pc := 309) (q := 0) d_law_309 rfl rfl ?_
  refine l_iload_n (pc := 310) (q := 3) d_law_310 rfl rfl ?_
  refine l_iconst (pc := 311) d_law_311 k_i_1 ?_
  refine l_iadd (pc := 312) d_law_312 ?_
  refine l_ald (pc := 313) d_law_313 (h1) ?_
  refine l_callM (pc := 314) (as := [.int (xs (i + 1).toNatClampNeg)]) d_law_314 (C_Model_rule fuel (xs (i + 1).toNatClampNeg) _) hFm cV_Law_37 cd_Model_rule dn_Model_rule rfl rfl (by decide) (by decide) (Nat.le_of_ble_eq_true rfl) rfl (fun _ _ => rfl) ?_
  refine l_pop (pc := 317) d_law_317 ?_
  refine l_goto (pc := 318) (tgt := 1329) d_law_318 (by decide) ?_
  exact hend _ _ hR2
set_option maxHeartbeats 4000000 in
theorem law_case_5 {L : Nat} {xs : Nat → Int32} {i : Int32} (h0 : vp_in i L) (h1 : vp_in (i + 1) L) (h2 : vp_in (i + 2) L) (h3 : vp_in (i + 3) L) (h4 : vp_in (i + 4) L) {Mx Mm : Mem} (hR : Rel Mx Mm) (hend : ∀ Mx2 Mm2, Rel Mx2 Mm2 → JL L xs 1329 [(0, .ref 301), (1, .ref 0), (2, .ref 300), (3, .int i)] [] Mx2 Mm2) : JL L xs 321 [(0, .ref 301), (1, .ref 0), (2, .ref 300), (3, .int i)] [] Mx Mm := by
  refine l_aload_n (pc := 321) (q := 1) d_law_321 rfl rfl ?_
  refine l_aload_n (pc := 322) (q := 0) d_law_322 rfl rfl ?_
  refine l_iload_n (pc := 323) (q := 3) d_law_323 rfl rfl ?_
  refine l_iconst (pc := 324) d_law_324 k_i_1 ?_
  refine l_iadd (pc := 325) d_law_325 ?_
  refine l_ald (pc := 326) d_law_326 (h1) ?_
  refine l_aload_n (pc := 327) (q := 0) d_law_327 rfl rfl ?_
  refine l_iload_n (pc := 328) (q := 3) d_law_328 rfl rfl ?_
  refine l_iconst (pc := 329) d_law_329 k_i_2 ?_
  refine l_iadd (pc := 330) d_law_330 ?_
  refine l_ald (pc := 331) d_law_331 (h2) ?_
  by_cases hc : xs (i + 2).toNatClampNeg = 0
  · refine l_ifeq_t (pc := 332) (tgt := 339) d_law_332 (by decide) hc ?_
    refine l_iconst (pc := 339) d_law_339 k_i_0 ?_
    obtain ⟨r, Mx2, Mm2, hFx, hFm, hR2⟩ := sim_hand (xs (i + 1).toNatClampNeg) (0 : Int32) _ _ hR
    refine l_callX (pc := 340) (as := [.int (xs (i + 1).toNatClampNeg), .int 0]) d_law_340 (C_ShakeHands_hand fuel (xs (i + 1).toNatClampNeg) 0 _) hFx cV_Law_38 cd_ShakeHands_hand dn_ShakeHands_hand rfl rfl (by decide) (by decide) (Nat.le_of_ble_eq_true rfl) rfl (fun _ _ => rfl) ?_
    refine l_pop (pc := 343) d_law_343 ?_
    refine l_aload_n (pc := 344) (q := 2) d_law_344 rfl rfl ?_
    refine l_aload_n (pc := 345) (q := 0) d_law_345 rfl rfl ?_
    refine l_iload_n (pc := 346) (q := 3) d_law_346 rfl rfl ?_
    refine l_iconst (pc := 347) d_law_347 k_i_1 ?_
    refine l_iadd (pc := 348) d_law_348 ?_
    refine l_ald (pc := 349) d_law_349 (h1) ?_
    refine l_aload_n (pc := 350) (q := 0) d_law_350 rfl rfl ?_
    refine l_iload_n (pc := 351) (q := 3) d_law_351 rfl rfl ?_
    refine l_iconst (pc := 352) d_law_352 k_i_2 ?_
    refine l_iadd (pc := 353) d_law_353 ?_
    refine l_ald (pc := 354) d_law_354 (h2) ?_
    refine l_ifeq_t (pc := 355) (tgt := 362) d_law_355 (by decide) hc ?_
    refine l_iconst (pc := 362) d_law_362 k_i_0 ?_
    refine l_callM (pc := 363) (as := [.int (xs (i + 1).toNatClampNeg), .int 0]) d_law_363 (C_Model_hand fuel (xs (i + 1).toNatClampNeg) 0 _) hFm cV_Law_42 cd_Model_hand dn_Model_hand rfl rfl (by decide) (by decide) (Nat.le_of_ble_eq_true rfl) rfl (fun _ _ => rfl) ?_
    refine l_pop (pc := 366) d_law_366 ?_
    refine l_goto (pc := 367) (tgt := 1329) d_law_367 (by decide) ?_
    exact hend _ _ hR2
  · refine l_ifeq_f (pc := 332) (tgt := 339) d_law_332 (by decide) hc ?_
    refine l_iconst (pc := 335) d_law_335 k_i_1 ?_
    refine l_goto (pc := 336) (tgt := 340) d_law_336 (by decide) ?_
    obtain ⟨r, Mx2, Mm2, hFx, hFm, hR2⟩ := sim_hand (xs (i + 1).toNatClampNeg) (1 : Int32) _ _ hR
    refine l_callX (pc := 340) (as := [.int (xs (i + 1).toNatClampNeg), .int 1]) d_law_340 (C_ShakeHands_hand fuel (xs (i + 1).toNatClampNeg) 1 _) hFx cV_Law_38 cd_ShakeHands_hand dn_ShakeHands_hand rfl rfl (by decide) (by decide) (Nat.le_of_ble_eq_true rfl) rfl (fun _ _ => rfl) ?_
    refine l_pop (pc := 343) d_law_343 ?_
    refine l_aload_n (pc := 344) (q := 2) d_law_344 rfl rfl ?_
    refine l_aload_n (pc := 345) (q := 0) d_law_345 rfl rfl ?_
    refine l_iload_n (pc := 346) (q := 3) d_law_346 rfl rfl ?_
    refine l_iconst (pc := 347) d_law_347 k_i_1 ?_
    refine l_iadd (pc := 348) d_law_348 ?_
    refine l_ald (pc := 349) d_law_349 (h1) ?_
    refine l_aload_n (pc := 350) (q := 0) d_law_350 rfl rfl ?_
    refine l_iload_n (pc := 351) (q := 3) d_law_351 rfl rfl ?_
    refine l_iconst (pc := 352) d_law_352 k_i_2 ?_
    refine l_iadd (pc := 353) d_law_353 ?_
    refine l_ald (pc := 354) d_law_354 (h2) ?_
    refine l_ifeq_f (pc := 355) (tgt := 362) d_law_355 (by decide) hc ?_
    refine l_iconst (pc := 358) d_law_358 k_i_1 ?_
    refine l_goto (pc := 359) (tgt := 363) d_law_359 (by decide) ?_
    refine l_callM (pc := 363) (as := [.int (xs (i + 1).toNatClampNeg), .int 1]) d_law_363 (C_Model_hand fuel (xs (i + 1).toNatClampNeg) 1 _) hFm cV_Law_42 cd_Model_hand dn_Model_hand rfl rfl (by decide) (by decide) (Nat.le_of_ble_eq_true rfl) rfl (fun _ _ => rfl) ?_
    refine l_pop (pc := 366) d_law_366 ?_
    refine l_goto (pc := 367) (tgt := 1329) d_law_367 (by decide) ?_
    exact hend _ _ hR2
set_option maxHeartbeats 4000000 in
theorem law_case_6 {L : Nat} {xs : Nat → Int32} {i : Int32} (h0 : vp_in i L) (h1 : vp_in (i + 1) L) (h2 : vp_in (i + 2) L) (h3 : vp_in (i + 3) L) (h4 : vp_in (i + 4) L) {Mx Mm : Mem} (hR : Rel Mx Mm) (hend : ∀ Mx2 Mm2, Rel Mx2 Mm2 → JL L xs 1329 [(0, .ref 301), (1, .ref 0), (2, .ref 300), (3, .int i)] [] Mx2 Mm2) : JL L xs 370 [(0, .ref 301), (1, .ref 0), (2, .ref 300), (3, .int i)] [] Mx Mm := by
  refine l_aload_n (pc := 370) (q := 1) d_law_370 rfl rfl ?_
  refine l_aload_n (pc := 371) (q := 0) d_law_371 rfl rfl ?_
  refine l_iload_n (pc := 372) (q := 3) d_law_372 rfl rfl ?_
  refine l_iconst (pc := 373) d_law_373 k_i_1 ?_
  refine l_iadd (pc := 374) d_law_374 ?_
  refine l_ald (pc := 375) d_law_375 (h1) ?_
  refine l_aload_n (pc := 376) (q := 0) d_law_376 rfl rfl ?_
  refine l_iload_n (pc := 377) (q := 3) d_law_377 rfl rfl ?_
  refine l_iconst (pc := 378) d_law_378 k_i_2 ?_
  refine l_iadd (pc := 379) d_law_379 ?_
  refine l_ald (pc := 380) d_law_380 (h2) ?_
  obtain ⟨r, Mx2, Mm2, hFx, hFm, hR2⟩ := sim_join (xs (i + 1).toNatClampNeg) (xs (i + 2).toNatClampNeg) _ _ hR
  refine l_callX (pc := 381) (as := [.int (xs (i + 1).toNatClampNeg), .int (xs (i + 2).toNatClampNeg)]) d_law_381 (C_ShakeHands_join fuel (xs (i + 1).toNatClampNeg) (xs (i + 2).toNatClampNeg) _) hFx cV_Law_43 cd_ShakeHands_join dn_ShakeHands_join rfl rfl (by decide) (by decide) (Nat.le_of_ble_eq_true rfl) rfl (fun _ _ => rfl) ?_
  refine l_pop (pc := 384) d_law_384 ?_
  refine l_aload_n (pc := 385) (q := 2) d_law_385 rfl rfl ?_
  refine l_aload_n (pc := 386) (q := 0) d_law_386 rfl rfl ?_
  refine l_iload_n (pc := 387) (q := 3) d_law_387 rfl rfl ?_
  refine l_iconst (pc := 388) d_law_388 k_i_1 ?_
  refine l_iadd (pc := 389) d_law_389 ?_
  refine l_ald (pc := 390) d_law_390 (h1) ?_
  refine l_aload_n (pc := 391) (q := 0) d_law_391 rfl rfl ?_
  refine l_iload_n (pc := 392) (q := 3) d_law_392 rfl rfl ?_
  refine l_iconst (pc := 393) d_law_393 k_i_2 ?_
  refine l_iadd (pc := 394) d_law_394 ?_
  refine l_ald (pc := 395) d_law_395 (h2) ?_
  refine l_callM (pc := 396) (as := [.int (xs (i + 1).toNatClampNeg), .int (xs (i + 2).toNatClampNeg)]) d_law_396 (C_Model_join fuel (xs (i + 1).toNatClampNeg) (xs (i + 2).toNatClampNeg) _) hFm cV_Law_47 cd_Model_join dn_Model_join rfl rfl (by decide) (by decide) (Nat.le_of_ble_eq_true rfl) rfl (fun _ _ => rfl) ?_
  refine l_pop (pc := 399) d_law_399 ?_
  refine l_goto (pc := 400) (tgt := 1329) d_law_400 (by decide) ?_
  exact hend _ _ hR2
set_option maxHeartbeats 4000000 in
theorem law_case_7 {L : Nat} {xs : Nat → Int32} {i : Int32} (h0 : vp_in i L) (h1 : vp_in (i + 1) L) (h2 : vp_in (i + 2) L) (h3 : vp_in (i + 3) L) (h4 : vp_in (i + 4) L) {Mx Mm : Mem} (hR : Rel Mx Mm) (hend : ∀ Mx2 Mm2, Rel Mx2 Mm2 → JL L xs 1329 [(0, .ref 301), (1, .ref 0), (2, .ref 300), (3, .int i)] [] Mx2 Mm2) : JL L xs 403 [(0, .ref 301), (1, .ref 0), (2, .ref 300), (3, .int i)] [] Mx Mm := by
  refine l_aload_n (pc := 403) (q := 1) d_law_403 rfl rfl ?_
  refine l_aload_n (pc := 404) (q := 0) d_law_404 rfl rfl ?_
  refine l_iload_n (pc := 405) (q := 3) d_law_405 rfl rfl ?_
  refine l_iconst (pc := 406) d_law_406 k_i_1 ?_
  refine l_iadd (pc := 407) d_law_407 ?_
  refine l_ald (pc := 408) d_law_408 (h1) ?_
  obtain ⟨r, Mx2, Mm2, hFx, hFm, hR2⟩ := sim_knows (xs (i + 1).toNatClampNeg) _ _ hR
  refine l_callX (pc := 409) (as := [.int (xs (i + 1).toNatClampNeg)]) d_law_409 (C_ShakeHands_knows fuel (xs (i + 1).toNatClampNeg) _) hFx cV_Law_48 cd_ShakeHands_knows dn_ShakeHands_knows rfl rfl (by decide) (by decide) (Nat.le_of_ble_eq_true rfl) rfl (fun _ _ => rfl) ?_
  refine l_pop (pc := 412) d_law_412 ?_
  refine l_aload_n (pc := 413) (q := 2) d_law_413 rfl rfl ?_
  refine l_aload_n (pc := 414) (q := 0) d_law_414 rfl rfl ?_
  refine l_iload_n (pc := 415) (q := 3) d_law_415 rfl rfl ?_
  refine l_iconst (pc := 416) d_law_416 k_i_1 ?_
  refine l_iadd (pc := 417) d_law_417 ?_
  refine l_ald (pc := 418) d_law_418 (h1) ?_
  refine l_callM (pc := 419) (as := [.int (xs (i + 1).toNatClampNeg)]) d_law_419 (C_Model_knows fuel (xs (i + 1).toNatClampNeg) _) hFm cV_Law_51 cd_Model_knows dn_Model_knows rfl rfl (by decide) (by decide) (Nat.le_of_ble_eq_true rfl) rfl (fun _ _ => rfl) ?_
  refine l_pop (pc := 422) d_law_422 ?_
  refine l_goto (pc := 423) (tgt := 1329) d_law_423 (by decide) ?_
  exact hend _ _ hR2
set_option maxHeartbeats 4000000 in
theorem law_case_8 {L : Nat} {xs : Nat → Int32} {i : Int32} (h0 : vp_in i L) (h1 : vp_in (i + 1) L) (h2 : vp_in (i + 2) L) (h3 : vp_in (i + 3) L) (h4 : vp_in (i + 4) L) {Mx Mm : Mem} (hR : Rel Mx Mm) (hend : ∀ Mx2 Mm2, Rel Mx2 Mm2 → JL L xs 1329 [(0, .ref 301), (1, .ref 0), (2, .ref 300), (3, .int i)] [] Mx2 Mm2) : JL L xs 426 [(0, .ref 301), (1, .ref 0), (2, .ref 300), (3, .int i)] [] Mx Mm := by
  refine l_aload_n (pc := 426) (q := 1) d_law_426 rfl rfl ?_
  refine l_aload_n (pc := 427) (q := 0) d_law_427 rfl rfl ?_
  refine l_iload_n (pc := 428) (q := 3) d_law_428 rfl rfl ?_
  refine l_iconst (pc := 429) d_law_429 k_i_1 ?_
  refine l_iadd (pc := 430) d_law_430 ?_
  refine l_ald (pc := 431) d_law_431 (h1) ?_
  refine l_aload_n (pc := 432) (q := 0) d_law_432 rfl rfl ?_
  refine l_iload_n (pc := 433) (q := 3) d_law_433 rfl rfl ?_
  refine l_iconst (pc := 434) d_law_434 k_i_2 ?_
  refine l_iadd (pc := 435) d_law_435 ?_
  refine l_ald (pc := 436) d_law_436 (h2) ?_
  obtain ⟨r, Mx2, Mm2, hFx, hFm, hR2⟩ := sim_row (xs (i + 1).toNatClampNeg) (xs (i + 2).toNatClampNeg) _ _ hR
  refine l_callX (pc := 437) (as := [.int (xs (i + 1).toNatClampNeg), .int (xs (i + 2).toNatClampNeg)]) d_law_437 (C_ShakeHands_row fuel (xs (i + 1).toNatClampNeg) (xs (i + 2).toNatClampNeg) _) hFx cV_Law_52 cd_ShakeHands_row dn_ShakeHands_row rfl rfl (by decide) (by decide) (Nat.le_of_ble_eq_true rfl) rfl (fun _ _ => rfl) ?_
  refine l_pop (pc := 440) d_law_440 ?_
  refine l_aload_n (pc := 441) (q := 2) d_law_441 rfl rfl ?_
  refine l_aload_n (pc := 442) (q := 0) d_law_442 rfl rfl ?_
  refine l_iload_n (pc := 443) (q := 3) d_law_443 rfl rfl ?_
  refine l_iconst (pc := 444) d_law_444 k_i_1 ?_
  refine l_iadd (pc := 445) d_law_445 ?_
  refine l_ald (pc := 446) d_law_446 (h1) ?_
  refine l_aload_n (pc := 447) (q := 0) d_law_447 rfl rfl ?_
  refine l_iload_n (pc := 448) (q := 3) d_law_448 rfl rfl ?_
  refine l_iconst (pc := 449) d_law_449 k_i_2 ?_
  refine l_iadd (pc := 450) d_law_450 ?_
  refine l_ald (pc := 451) d_law_451 (h2) ?_
  refine l_callM (pc := 452) (as := [.int (xs (i + 1).toNatClampNeg), .int (xs (i + 2).toNatClampNeg)]) d_law_452 (C_Model_row fuel (xs (i + 1).toNatClampNeg) (xs (i + 2).toNatClampNeg) _) hFm cV_Law_55 cd_Model_row dn_Model_row rfl rfl (by decide) (by decide) (Nat.le_of_ble_eq_true rfl) rfl (fun _ _ => rfl) ?_
  refine l_pop (pc := 455) d_law_455 ?_
  refine l_goto (pc := 456) (tgt := 1329) d_law_456 (by decide) ?_
  exact hend _ _ hR2
set_option maxHeartbeats 4000000 in
theorem law_case_9 {L : Nat} {xs : Nat → Int32} {i : Int32} (h0 : vp_in i L) (h1 : vp_in (i + 1) L) (h2 : vp_in (i + 2) L) (h3 : vp_in (i + 3) L) (h4 : vp_in (i + 4) L) {Mx Mm : Mem} (hR : Rel Mx Mm) (hend : ∀ Mx2 Mm2, Rel Mx2 Mm2 → JL L xs 1329 [(0, .ref 301), (1, .ref 0), (2, .ref 300), (3, .int i)] [] Mx2 Mm2) : JL L xs 459 [(0, .ref 301), (1, .ref 0), (2, .ref 300), (3, .int i)] [] Mx Mm := by
  refine l_aload_n (pc := 459) (q := 1) d_law_459 rfl rfl ?_
  refine l_aload_n (pc := 460) (q := 0) d_law_460 rfl rfl ?_
  refine l_iload_n (pc := 461) (q := 3) d_law_461 rfl rfl ?_
  refine l_iconst (pc := 462) d_law_462 k_i_1 ?_
  refine l_iadd (pc := 463) d_law_463 ?_
  refine l_ald (pc := 464) d_law_464 (h1) ?_
  obtain ⟨r, Mx2, Mm2, hFx, hFm, hR2⟩ := sim_who (xs (i + 1).toNatClampNeg) _ _ hR
  refine l_callX (pc := 465) (as := [.int (xs (i + 1).toNatClampNeg)]) d_law_465 (C_ShakeHands_who fuel (xs (i + 1).toNatClampNeg) _) hFx cV_Law_56 cd_ShakeHands_who dn_ShakeHands_who rfl rfl (by decide) (by decide) (Nat.le_of_ble_eq_true rfl) rfl (fun _ _ => rfl) ?_
  refine l_pop (pc := 468) d_law_468 ?_
  refine l_aload_n (pc := 469) (q := 2) d_law_469 rfl rfl ?_
  refine l_aload_n (pc := 470) (q := 0) d_law_470 rfl rfl ?_
  refine l_iload_n (pc := 471) (q := 3) d_law_471 rfl rfl ?_
  refine l_iconst (pc := 472) d_law_472 k_i_1 ?_
  refine l_iadd (pc := 473) d_law_473 ?_
  refine l_ald (pc := 474) d_law_474 (h1) ?_
  refine l_callM (pc := 475) (as := [.int (xs (i + 1).toNatClampNeg)]) d_law_475 (C_Model_who fuel (xs (i + 1).toNatClampNeg) _) hFm cV_Law_59 cd_Model_who dn_Model_who rfl rfl (by decide) (by decide) (Nat.le_of_ble_eq_true rfl) rfl (fun _ _ => rfl) ?_
  refine l_pop (pc := 478) d_law_478 ?_
  refine l_goto (pc := 479) (tgt := 1329) d_law_479 (by decide) ?_
  exact hend _ _ hR2
set_option maxHeartbeats 4000000 in
theorem law_case_10 {L : Nat} {xs : Nat → Int32} {i : Int32} (h0 : vp_in i L) (h1 : vp_in (i + 1) L) (h2 : vp_in (i + 2) L) (h3 : vp_in (i + 3) L) (h4 : vp_in (i + 4) L) {Mx Mm : Mem} (hR : Rel Mx Mm) (hend : ∀ Mx2 Mm2, Rel Mx2 Mm2 → JL L xs 1329 [(0, .ref 301), (1, .ref 0), (2, .ref 300), (3, .int i)] [] Mx2 Mm2) : JL L xs 482 [(0, .ref 301), (1, .ref 0), (2, .ref 300), (3, .int i)] [] Mx Mm := by
  refine l_aload_n (pc := 482) (q := 1) d_law_482 rfl rfl ?_
  refine l_aload_n (pc := 483) (q := 0) d_law_483 rfl rfl ?_
  refine l_iload_n (pc := 484) (q := 3) d_law_484 rfl rfl ?_
  refine l_iconst (pc := 485) d_law_485 k_i_1 ?_
  refine l_iadd (pc := 486) d_law_486 ?_
  refine l_ald (pc := 487) d_law_487 (h1) ?_
  refine l_aload_n (pc := 488) (q := 0) d_law_488 rfl rfl ?_
  refine l_iload_n (pc := 489) (q := 3) d_law_489 rfl rfl ?_
  refine l_iconst (pc := 490) d_law_490 k_i_2 ?_
  refine l_iadd (pc := 491) d_law_491 ?_
  refine l_ald (pc := 492) d_law_492 (h2) ?_
  obtain ⟨r, Mx2, Mm2, hFx, hFm, hR2⟩ := sim_learn (xs (i + 1).toNatClampNeg) (xs (i + 2).toNatClampNeg) _ _ hR
  refine l_callX (pc := 493) (as := [.int (xs (i + 1).toNatClampNeg), .int (xs (i + 2).toNatClampNeg)]) d_law_493 (C_ShakeHands_learn fuel (xs (i + 1).toNatClampNeg) (xs (i + 2).toNatClampNeg) _) hFx cV_Law_60 cd_ShakeHands_learn dn_ShakeHands_learn rfl rfl (by decide) (by decide) (Nat.le_of_ble_eq_true rfl) rfl (fun _ _ => rfl) ?_
  refine l_pop (pc := 496) d_law_496 ?_
  refine l_aload_n (pc := 497) (q := 2) d_law_497 rfl rfl ?_
  refine l_aload_n (pc := 498) (q := 0) d_law_498 rfl rfl ?_
  refine l_iload_n (pc := 499) (q := 3) d_law_499 rfl rfl ?_
  refine l_iconst (pc := 500) d_law_500 k_i_1 ?_
  refine l_iadd (pc := 501) d_law_501 ?_
  refine l_ald (pc := 502) d_law_502 (h1) ?_
  refine l_aload_n (pc := 503) (q := 0) d_law_503 rfl rfl ?_
  refine l_iload_n (pc := 504) (q := 3) d_law_504 rfl rfl ?_
  refine l_iconst (pc := 505) d_law_505 k_i_2 ?_
  refine l_iadd (pc := 506) d_law_506 ?_
  refine l_ald (pc := 507) d_law_507 (h2) ?_
  refine l_callM (pc := 508) (as := [.int (xs (i + 1).toNatClampNeg), .int (xs (i + 2).toNatClampNeg)]) d_law_508 (C_Model_learn fuel (xs (i + 1).toNatClampNeg) (xs (i + 2).toNatClampNeg) _) hFm cV_Law_63 cd_Model_learn dn_Model_learn rfl rfl (by decide) (by decide) (Nat.le_of_ble_eq_true rfl) rfl (fun _ _ => rfl) ?_
  refine l_pop (pc := 511) d_law_511 ?_
  refine l_goto (pc := 512) (tgt := 1329) d_law_512 (by decide) ?_
  exact hend _ _ hR2
set_option maxHeartbeats 4000000 in
theorem law_case_11 {L : Nat} {xs : Nat → Int32} {i : Int32} (h0 : vp_in i L) (h1 : vp_in (i + 1) L) (h2 : vp_in (i + 2) L) (h3 : vp_in (i + 3) L) (h4 : vp_in (i + 4) L) {Mx Mm : Mem} (hR : Rel Mx Mm) (hend : ∀ Mx2 Mm2, Rel Mx2 Mm2 → JL L xs 1329 [(0, .ref 301), (1, .ref 0), (2, .ref 300), (3, .int i)] [] Mx2 Mm2) : JL L xs 515 [(0, .ref 301), (1, .ref 0), (2, .ref 300), (3, .int i)] [] Mx Mm := by
  refine l_aload_n (pc := 515) (q := 1) d_law_515 rfl rfl ?_
  refine l_aload_n (pc := 516) (q := 0) d_law_516 rfl rfl ?_
  refine l_iload_n (pc := 517) (q := 3) d_law_517 rfl rfl ?_
  refine l_iconst (pc := 518) d_law_518 k_i_1 ?_
  refine l_iadd (pc := 519) d_law_519 ?_
  refine l_ald (pc := 520) d_law_520 (h1) ?_
  refine l_aload_n (pc := 521) (q := 0) d_law_521 rfl rfl ?_
  refine l_iload_n (pc := 522) (q := 3) d_law_522 rfl rfl ?_
  refine l_iconst (pc := 523) d_law_523 k_i_2 ?_
  refine l_iadd (pc := 524) d_law_524 ?_
  refine l_ald (pc := 525) d_law_525 (h2) ?_
  obtain ⟨r, Mx2, Mm2, hFx, hFm, hR2⟩ := sim_forget (xs (i + 1).toNatClampNeg) (xs (i + 2).toNatClampNeg) _ _ hR
  refine l_callX (pc := 526) (as := [.int (xs (i + 1).toNatClampNeg), .int (xs (i + 2).toNatClampNeg)]) d_law_526 (C_ShakeHands_forget fuel (xs (i + 1).toNatClampNeg) (xs (i + 2).toNatClampNeg) _) hFx cV_Law_64 cd_ShakeHands_forget dn_ShakeHands_forget rfl rfl (by decide) (by decide) (Nat.le_of_ble_eq_true rfl) rfl (fun _ _ => rfl) ?_
  refine l_pop (pc := 529) d_law_529 ?_
  refine l_aload_n (pc := 530) (q := 2) d_law_530 rfl rfl ?_
  refine l_aload_n (pc := 531) (q := 0) d_law_531 rfl rfl ?_
  refine l_iload_n (pc := 532) (q := 3) d_law_532 rfl rfl ?_
  refine l_iconst (pc := 533) d_law_533 k_i_1 ?_
  refine l_iadd (pc := 534) d_law_534 ?_
  refine l_ald (pc := 535) d_law_535 (h1) ?_
  refine l_aload_n (pc := 536) (q := 0) d_law_536 rfl rfl ?_
  refine l_iload_n (pc := 537) (q := 3) d_law_537 rfl rfl ?_
  refine l_iconst (pc := 538) d_law_538 k_i_2 ?_
  refine l_iadd (pc := 539) d_law_539 ?_
  refine l_ald (pc := 540) d_law_540 (h2) ?_
  refine l_callM (pc := 541) (as := [.int (xs (i + 1).toNatClampNeg), .int (xs (i + 2).toNatClampNeg)]) d_law_541 (C_Model_forget fuel (xs (i + 1).toNatClampNeg) (xs (i + 2).toNatClampNeg) _) hFm cV_Law_67 cd_Model_forget dn_Model_forget rfl rfl (by decide) (by decide) (Nat.le_of_ble_eq_true rfl) rfl (fun _ _ => rfl) ?_
  refine l_pop (pc := 544) d_law_544 ?_
  refine l_goto (pc := 545) (tgt := 1329) d_law_545 (by decide) ?_
  exact hend _ _ hR2
set_option maxHeartbeats 4000000 in
theorem law_case_12 {L : Nat} {xs : Nat → Int32} {i : Int32} (h0 : vp_in i L) (h1 : vp_in (i + 1) L) (h2 : vp_in (i + 2) L) (h3 : vp_in (i + 3) L) (h4 : vp_in (i + 4) L) {Mx Mm : Mem} (hR : Rel Mx Mm) (hend : ∀ Mx2 Mm2, Rel Mx2 Mm2 → JL L xs 1329 [(0, .ref 301), (1, .ref 0), (2, .ref 300), (3, .int i)] [] Mx2 Mm2) : JL L xs 548 [(0, .ref 301), (1, .ref 0), (2, .ref 300), (3, .int i)] [] Mx Mm := by
  refine l_aload_n (pc := 548) (q := 1) d_law_548 rfl rfl ?_
  refine l_aload_n (pc := 549) (q := 0) d_law_549 rfl rfl ?_
  refine l_iload_n (pc := 550) (q := 3) d_law_550 rfl rfl ?_
  refine l_iconst (pc := 551) d_law_551 k_i_1 ?_
  refine l_iadd (pc := 552) d_law_552 ?_
  refine l_ald (pc := 553) d_law_553 (h1) ?_
  refine l_aload_n (pc := 554) (q := 0) d_law_554 rfl rfl ?_
  refine l_iload_n (pc := 555) (q := 3) d_law_555 rfl rfl ?_
  refine l_iconst (pc := 556) d_law_556 k_i_2 ?_
  refine l_iadd (pc := 557) d_law_557 ?_
  refine l_ald (pc := 558) d_law_558 (h2) ?_
  by_cases hc : xs (i + 2).toNatClampNeg = 0
  · refine l_ifeq_t (pc := 559) (tgt := 566) d_law_559 (by decide) hc ?_
    refine l_iconst (pc := 566) d_law_566 k_i_0 ?_
    obtain ⟨r, Mx2, Mm2, hFx, hFm, hR2⟩ := sim_glove (xs (i + 1).toNatClampNeg) (0 : Int32) _ _ hR
    refine l_callX (pc := 567) (as := [.int (xs (i + 1).toNatClampNeg), .int 0]) d_law_567 (C_ShakeHands_glove fuel (xs (i + 1).toNatClampNeg) 0 _) hFx cV_Law_68 cd_ShakeHands_glove dn_ShakeHands_glove rfl rfl (by decide) (by decide) (Nat.le_of_ble_eq_true rfl) rfl (fun _ _ => rfl) ?_
    refine l_pop (pc := 570) d_law_570 ?_
    refine l_aload_n (pc := 571) (q := 2) d_law_571 rfl rfl ?_
    refine l_aload_n (pc := 572) (q := 0) d_law_572 rfl rfl ?_
    refine l_iload_n (pc := 573) (q := 3) d_law_573 rfl rfl ?_
    refine l_iconst (pc := 574) d_law_574 k_i_1 ?_
    refine l_iadd (pc := 575) d_law_575 ?_
    refine l_ald (pc := 576) d_law_576 (h1) ?_
    refine l_aload_n (pc := 577) (q := 0) d_law_577 rfl rfl ?_
    refine l_iload_n (pc := 578) (q := 3) d_law_578 rfl rfl ?_
    refine l_iconst (pc := 579) d_law_579 k_i_2 ?_
    refine l_iadd (pc := 580) d_law_580 ?_
    refine l_ald (pc := 581) d_law_581 (h2) ?_
    refine l_ifeq_t (pc := 582) (tgt := 589) d_law_582 (by decide) hc ?_
    refine l_iconst (pc := 589) d_law_589 k_i_0 ?_
    refine l_callM (pc := 590) (as := [.int (xs (i + 1).toNatClampNeg), .int 0]) d_law_590 (C_Model_glove fuel (xs (i + 1).toNatClampNeg) 0 _) hFm cV_Law_71 cd_Model_glove dn_Model_glove rfl rfl (by decide) (by decide) (Nat.le_of_ble_eq_true rfl) rfl (fun _ _ => rfl) ?_
    refine l_pop (pc := 593) d_law_593 ?_
    refine l_goto (pc := 594) (tgt := 1329) d_law_594 (by decide) ?_
    exact hend _ _ hR2
  · refine l_ifeq_f (pc := 559) (tgt := 566) d_law_559 (by decide) hc ?_
    refine l_iconst (pc := 562) d_law_562 k_i_1 ?_
    refine l_goto (pc := 563) (tgt := 567) d_law_563 (by decide) ?_
    obtain ⟨r, Mx2, Mm2, hFx, hFm, hR2⟩ := sim_glove (xs (i + 1).toNatClampNeg) (1 : Int32) _ _ hR
    refine l_callX (pc := 567) (as := [.int (xs (i + 1).toNatClampNeg), .int 1]) d_law_567 (C_ShakeHands_glove fuel (xs (i + 1).toNatClampNeg) 1 _) hFx cV_Law_68 cd_ShakeHands_glove dn_ShakeHands_glove rfl rfl (by decide) (by decide) (Nat.le_of_ble_eq_true rfl) rfl (fun _ _ => rfl) ?_
    refine l_pop (pc := 570) d_law_570 ?_
    refine l_aload_n (pc := 571) (q := 2) d_law_571 rfl rfl ?_
    refine l_aload_n (pc := 572) (q := 0) d_law_572 rfl rfl ?_
    refine l_iload_n (pc := 573) (q := 3) d_law_573 rfl rfl ?_
    refine l_iconst (pc := 574) d_law_574 k_i_1 ?_
    refine l_iadd (pc := 575) d_law_575 ?_
    refine l_ald (pc := 576) d_law_576 (h1) ?_
    refine l_aload_n (pc := 577) (q := 0) d_law_577 rfl rfl ?_
    refine l_iload_n (pc := 578) (q := 3) d_law_578 rfl rfl ?_
    refine l_iconst (pc := 579) d_law_579 k_i_2 ?_
    refine l_iadd (pc := 580) d_law_580 ?_
    refine l_ald (pc := 581) d_law_581 (h2) ?_
    refine l_ifeq_f (pc := 582) (tgt := 589) d_law_582 (by decide) hc ?_
    refine l_iconst (pc := 585) d_law_585 k_i_1 ?_
    refine l_goto (pc := 586) (tgt := 590) d_law_586 (by decide) ?_
    refine l_callM (pc := 590) (as := [.int (xs (i + 1).toNatClampNeg), .int 1]) d_law_590 (C_Model_glove fuel (xs (i + 1).toNatClampNeg) 1 _) hFm cV_Law_71 cd_Model_glove dn_Model_glove rfl rfl (by decide) (by decide) (Nat.le_of_ble_eq_true rfl) rfl (fun _ _ => rfl) ?_
    refine l_pop (pc := 593) d_law_593 ?_
    refine l_goto (pc := 594) (tgt := 1329) d_law_594 (by decide) ?_
    exact hend _ _ hR2
set_option maxHeartbeats 4000000 in
theorem law_case_13 {L : Nat} {xs : Nat → Int32} {i : Int32} (h0 : vp_in i L) (h1 : vp_in (i + 1) L) (h2 : vp_in (i + 2) L) (h3 : vp_in (i + 3) L) (h4 : vp_in (i + 4) L) {Mx Mm : Mem} (hR : Rel Mx Mm) (hend : ∀ Mx2 Mm2, Rel Mx2 Mm2 → JL L xs 1329 [(0, .ref 301), (1, .ref 0), (2, .ref 300), (3, .int i)] [] Mx2 Mm2) : JL L xs 597 [(0, .ref 301), (1, .ref 0), (2, .ref 300), (3, .int i)] [] Mx Mm := by
  refine l_aload_n (pc := 597) (q := 1) d_law_597 rfl rfl ?_
  refine l_aload_n (pc := 598) (q := 0) d_law_598 rfl rfl ?_
  refine l_iload_n (pc := 599) (q := 3) d_law_599 rfl rfl ?_
  refine l_iconst (pc := 600) d_law_600 k_i_1 ?_
  refine l_iadd (pc := 601) d_law_601 ?_
  refine l_ald (pc := 602) d_law_602 (h1) ?_
  refine l_aload_n (pc := 603) (q := 0) d_law_603 rfl rfl ?_
  refine l_iload_n (pc := 604) (q := 3) d_law_604 rfl rfl ?_
  refine l_iconst (pc := 605) d_law_605 k_i_2 ?_
  refine l_iadd (pc := 606) d_law_606 ?_
  refine l_ald (pc := 607) d_law_607 (h2) ?_
  obtain ⟨r, Mx2, Mm2, hFx, hFm, hR2⟩ := sim_shake (xs (i + 1).toNatClampNeg) (xs (i + 2).toNatClampNeg) _ _ hR
  refine l_callX (pc := 608) (as := [.int (xs (i + 1).toNatClampNeg), .int (xs (i + 2).toNatClampNeg)]) d_law_608 (C_ShakeHands_shake fuel (xs (i + 1).toNatClampNeg) (xs (i + 2).toNatClampNeg) _) hFx cV_Law_72 cd_ShakeHands_shake dn_ShakeHands_shake rfl rfl (by decide) (by decide) (Nat.le_of_ble_eq_true rfl) rfl (fun _ _ => rfl) ?_
  refine l_pop (pc := 611) d_law_611 ?_
  refine l_aload_n (pc := 612) (q := 2) d_law_612 rfl rfl ?_
  refine l_aload_n (pc := 613) (q := 0) d_law_613 rfl rfl ?_
  refine l_iload_n (pc := 614) (q := 3) d_law_614 rfl rfl ?_
  refine l_iconst (pc := 615) d_law_615 k_i_1 ?_
  refine l_iadd (pc := 616) d_law_616 ?_
  refine l_ald (pc := 617) d_law_617 (h1) ?_
  refine l_aload_n (pc := 618) (q := 0) d_law_618 rfl rfl ?_
  refine l_iload_n (pc := 619) (q := 3) d_law_619 rfl rfl ?_
  refine l_iconst (pc := 620) d_law_620 k_i_2 ?_
  refine l_iadd (pc := 621) d_law_621 ?_
  refine l_ald (pc := 622) d_law_622 (h2) ?_
  refine l_callM (pc := 623) (as := [.int (xs (i + 1).toNatClampNeg), .int (xs (i + 2).toNatClampNeg)]) d_law_623 (C_Model_shake fuel (xs (i + 1).toNatClampNeg) (xs (i + 2).toNatClampNeg) _) hFm cV_Law_75 cd_Model_shake dn_Model_shake rfl rfl (by decide) (by decide) (Nat.le_of_ble_eq_true rfl) rfl (fun _ _ => rfl) ?_
  refine l_pop (pc := 626) d_law_626 ?_
  refine l_goto (pc := 627) (tgt := 1329) d_law_627 (by decide) ?_
  exact hend _ _ hR2
set_option maxHeartbeats 4000000 in
theorem law_case_14 {L : Nat} {xs : Nat → Int32} {i : Int32} (h0 : vp_in i L) (h1 : vp_in (i + 1) L) (h2 : vp_in (i + 2) L) (h3 : vp_in (i + 3) L) (h4 : vp_in (i + 4) L) {Mx Mm : Mem} (hR : Rel Mx Mm) (hend : ∀ Mx2 Mm2, Rel Mx2 Mm2 → JL L xs 1329 [(0, .ref 301), (1, .ref 0), (2, .ref 300), (3, .int i)] [] Mx2 Mm2) : JL L xs 630 [(0, .ref 301), (1, .ref 0), (2, .ref 300), (3, .int i)] [] Mx Mm := by
  refine l_aload_n (pc := 630) (q := 1) d_law_630 rfl rfl ?_
  refine l_aload_n (pc := 631) (q := 0) d_law_631 rfl rfl ?_
  refine l_iload_n (pc := 632) (q := 3) d_law_632 rfl rfl ?_
  refine l_iconst (pc := 633) d_law_633 k_i_1 ?_
  refine l_iadd (pc := 634) d_law_634 ?_
  refine l_ald (pc := 635) d_law_635 (h1) ?_
  obtain ⟨r, Mx2, Mm2, hFx, hFm, hR2⟩ := sim_feast (xs (i + 1).toNatClampNeg) _ _ hR
  refine l_callX (pc := 636) (as := [.int (xs (i + 1).toNatClampNeg)]) d_law_636 (C_ShakeHands_feast fuel (xs (i + 1).toNatClampNeg) _) hFx cV_Law_76 cd_ShakeHands_feast dn_ShakeHands_feast rfl rfl (by decide) (by decide) (Nat.le_of_ble_eq_true rfl) rfl (fun _ _ => rfl) ?_
  refine l_pop (pc := 639) d_law_639 ?_
  refine l_aload_n (pc := 640) (q := 2) d_law_640 rfl rfl ?_
  refine l_aload_n (pc := 641) (q := 0) d_law_641 rfl rfl ?_
  refine l_iload_n (pc := 642) (q := 3) d_law_642 rfl rfl ?_
  refine l_iconst (pc := 643) d_law_643 k_i_1 ?_
  refine l_iadd (pc := 644) d_law_644 ?_
  refine l_ald (pc := 645) d_law_645 (h1) ?_
  refine l_callM (pc := 646) (as := [.int (xs (i + 1).toNatClampNeg)]) d_law_646 (C_Model_feast fuel (xs (i + 1).toNatClampNeg) _) hFm cV_Law_79 cd_Model_feast dn_Model_feast rfl rfl (by decide) (by decide) (Nat.le_of_ble_eq_true rfl) rfl (fun _ _ => rfl) ?_
  refine l_pop (pc := 649) d_law_649 ?_
  refine l_goto (pc := 650) (tgt := 1329) d_law_650 (by decide) ?_
  exact hend _ _ hR2
set_option maxHeartbeats 4000000 in
theorem law_case_15 {L : Nat} {xs : Nat → Int32} {i : Int32} (h0 : vp_in i L) (h1 : vp_in (i + 1) L) (h2 : vp_in (i + 2) L) (h3 : vp_in (i + 3) L) (h4 : vp_in (i + 4) L) {Mx Mm : Mem} (hR : Rel Mx Mm) (hend : ∀ Mx2 Mm2, Rel Mx2 Mm2 → JL L xs 1329 [(0, .ref 301), (1, .ref 0), (2, .ref 300), (3, .int i)] [] Mx2 Mm2) : JL L xs 653 [(0, .ref 301), (1, .ref 0), (2, .ref 300), (3, .int i)] [] Mx Mm := by
  refine l_aload_n (pc := 653) (q := 1) d_law_653 rfl rfl ?_
  refine l_aload_n (pc := 654) (q := 0) d_law_654 rfl rfl ?_
  refine l_iload_n (pc := 655) (q := 3) d_law_655 rfl rfl ?_
  refine l_iconst (pc := 656) d_law_656 k_i_1 ?_
  refine l_iadd (pc := 657) d_law_657 ?_
  refine l_ald (pc := 658) d_law_658 (h1) ?_
  refine l_aload_n (pc := 659) (q := 0) d_law_659 rfl rfl ?_
  refine l_iload_n (pc := 660) (q := 3) d_law_660 rfl rfl ?_
  refine l_iconst (pc := 661) d_law_661 k_i_2 ?_
  refine l_iadd (pc := 662) d_law_662 ?_
  refine l_ald (pc := 663) d_law_663 (h2) ?_
  obtain ⟨r, Mx2, Mm2, hFx, hFm, hR2⟩ := sim_after (xs (i + 1).toNatClampNeg) (xs (i + 2).toNatClampNeg) _ _ hR
  refine l_callX (pc := 664) (as := [.int (xs (i + 1).toNatClampNeg), .int (xs (i + 2).toNatClampNeg)]) d_law_664 (C_ShakeHands_after fuel (xs (i + 1).toNatClampNeg) (xs (i + 2).toNatClampNeg) _) hFx cV_Law_80 cd_ShakeHands_after dn_ShakeHands_after rfl rfl (by decide) (by decide) (Nat.le_of_ble_eq_true rfl) rfl (fun _ _ => rfl) ?_
  refine l_pop (pc := 667) d_law_667 ?_
  refine l_aload_n (pc := 668) (q := 2) d_law_668 rfl rfl ?_
  refine l_aload_n (pc := 669) (q := 0) d_law_669 rfl rfl ?_
  refine l_iload_n (pc := 670) (q := 3) d_law_670 rfl rfl ?_
  refine l_iconst (pc := 671) d_law_671 k_i_1 ?_
  refine l_iadd (pc := 672) d_law_672 ?_
  refine l_ald (pc := 673) d_law_673 (h1) ?_
  refine l_aload_n (pc := 674) (q := 0) d_law_674 rfl rfl ?_
  refine l_iload_n (pc := 675) (q := 3) d_law_675 rfl rfl ?_
  refine l_iconst (pc := 676) d_law_676 k_i_2 ?_
  refine l_iadd (pc := 677) d_law_677 ?_
  refine l_ald (pc := 678) d_law_678 (h2) ?_
  refine l_callM (pc := 679) (as := [.int (xs (i + 1).toNatClampNeg), .int (xs (i + 2).toNatClampNeg)]) d_law_679 (C_Model_after fuel (xs (i + 1).toNatClampNeg) (xs (i + 2).toNatClampNeg) _) hFm cV_Law_83 cd_Model_after dn_Model_after rfl rfl (by decide) (by decide) (Nat.le_of_ble_eq_true rfl) rfl (fun _ _ => rfl) ?_
  refine l_pop (pc := 682) d_law_682 ?_
  refine l_goto (pc := 683) (tgt := 1329) d_law_683 (by decide) ?_
  exact hend _ _ hR2
set_option maxHeartbeats 4000000 in
theorem law_case_16 {L : Nat} {xs : Nat → Int32} {i : Int32} (h0 : vp_in i L) (h1 : vp_in (i + 1) L) (h2 : vp_in (i + 2) L) (h3 : vp_in (i + 3) L) (h4 : vp_in (i + 4) L) {Mx Mm : Mem} (hR : Rel Mx Mm) (hend : ∀ Mx2 Mm2, Rel Mx2 Mm2 → JL L xs 1329 [(0, .ref 301), (1, .ref 0), (2, .ref 300), (3, .int i)] [] Mx2 Mm2) : JL L xs 686 [(0, .ref 301), (1, .ref 0), (2, .ref 300), (3, .int i)] [] Mx Mm := by
  refine l_aload_n (pc := 686) (q := 1) d_law_686 rfl rfl ?_
  refine l_aload_n (pc := 687) (q := 0) d_law_687 rfl rfl ?_
  refine l_iload_n (pc := 688) (q := 3) d_law_688 rfl rfl ?_
  refine l_iconst (pc := 689) d_law_689 k_i_1 ?_
  refine l_iadd (pc := 690) d_law_690 ?_
  refine l_ald (pc := 691) d_law_691 (h1) ?_
  obtain ⟨r, Mx2, Mm2, hFx, hFm, hR2⟩ := sim_lost (xs (i + 1).toNatClampNeg) _ _ hR
  refine l_callX (pc := 692) (as := [.int (xs (i + 1).toNatClampNeg)]) d_law_692 (C_ShakeHands_lost fuel (xs (i + 1).toNatClampNeg) _) hFx cV_Law_84 cd_ShakeHands_lost dn_ShakeHands_lost rfl rfl (by decide) (by decide) (Nat.le_of_ble_eq_true rfl) rfl (fun _ _ => rfl) ?_
  refine l_pop (pc := 695) d_law_695 ?_
  refine l_aload_n (pc := 696) (q := 2) d_law_696 rfl rfl ?_
  refine l_aload_n (pc := 697) (q := 0) d_law_697 rfl rfl ?_
  refine l_iload_n (pc := 698) (q := 3) d_law_698 rfl rfl ?_
  refine l_iconst (pc := 699) d_law_699 k_i_1 ?_
  refine l_iadd (pc := 700) d_law_700 ?_
  refine l_ald (pc := 701) d_law_701 (h1) ?_
  refine l_callM (pc := 702) (as := [.int (xs (i + 1).toNatClampNeg)]) d_law_702 (C_Model_lost fuel (xs (i + 1).toNatClampNeg) _) hFm cV_Law_87 cd_Model_lost dn_Model_lost rfl rfl (by decide) (by decide) (Nat.le_of_ble_eq_true rfl) rfl (fun _ _ => rfl) ?_
  refine l_pop (pc := 705) d_law_705 ?_
  refine l_goto (pc := 706) (tgt := 1329) d_law_706 (by decide) ?_
  exact hend _ _ hR2
set_option maxHeartbeats 4000000 in
theorem law_case_17 {L : Nat} {xs : Nat → Int32} {i : Int32} (h0 : vp_in i L) (h1 : vp_in (i + 1) L) (h2 : vp_in (i + 2) L) (h3 : vp_in (i + 3) L) (h4 : vp_in (i + 4) L) {Mx Mm : Mem} (hR : Rel Mx Mm) (hend : ∀ Mx2 Mm2, Rel Mx2 Mm2 → JL L xs 1329 [(0, .ref 301), (1, .ref 0), (2, .ref 300), (3, .int i)] [] Mx2 Mm2) : JL L xs 709 [(0, .ref 301), (1, .ref 0), (2, .ref 300), (3, .int i)] [] Mx Mm := by
  refine l_aload_n (pc := 709) (q := 1) d_law_709 rfl rfl ?_
  refine l_aload_n (pc := 710) (q := 0) d_law_710 rfl rfl ?_
  refine l_iload_n (pc := 711) (q := 3) d_law_711 rfl rfl ?_
  refine l_iconst (pc := 712) d_law_712 k_i_1 ?_
  refine l_iadd (pc := 713) d_law_713 ?_
  refine l_ald (pc := 714) d_law_714 (h1) ?_
  refine l_aload_n (pc := 715) (q := 0) d_law_715 rfl rfl ?_
  refine l_iload_n (pc := 716) (q := 3) d_law_716 rfl rfl ?_
  refine l_iconst (pc := 717) d_law_717 k_i_2 ?_
  refine l_iadd (pc := 718) d_law_718 ?_
  refine l_ald (pc := 719) d_law_719 (h2) ?_
  obtain ⟨r, Mx2, Mm2, hFx, hFm, hR2⟩ := sim_told (xs (i + 1).toNatClampNeg) (xs (i + 2).toNatClampNeg) _ _ hR
  refine l_callX (pc := 720) (as := [.int (xs (i + 1).toNatClampNeg), .int (xs (i + 2).toNatClampNeg)]) d_law_720 (C_ShakeHands_told fuel (xs (i + 1).toNatClampNeg) (xs (i + 2).toNatClampNeg) _) hFx cV_Law_88 cd_ShakeHands_told dn_ShakeHands_told rfl rfl (by decide) (by decide) (Nat.le_of_ble_eq_true rfl) rfl (fun _ _ => rfl) ?_
  refine l_pop (pc := 723) d_law_723 ?_
  refine l_aload_n (pc := 724) (q := 2) d_law_724 rfl rfl ?_
  refine l_aload_n (pc := 725) (q := 0) d_law_725 rfl rfl ?_
  refine l_iload_n (pc := 726) (q := 3) d_law_726 rfl rfl ?_
  refine l_iconst (pc := 727) d_law_727 k_i_1 ?_
  refine l_iadd (pc := 728) d_law_728 ?_
  refine l_ald (pc := 729) d_law_729 (h1) ?_
  refine l_aload_n (pc := 730) (q := 0) d_law_730 rfl rfl ?_
  refine l_iload_n (pc := 731) (q := 3) d_law_731 rfl rfl ?_
  refine l_iconst (pc := 732) d_law_732 k_i_2 ?_
  refine l_iadd (pc := 733) d_law_733 ?_
  refine l_ald (pc := 734) d_law_734 (h2) ?_
  refine l_callM (pc := 735) (as := [.int (xs (i + 1).toNatClampNeg), .int (xs (i + 2).toNatClampNeg)]) d_law_735 (C_Model_told fuel (xs (i + 1).toNatClampNeg) (xs (i + 2).toNatClampNeg) _) hFm cV_Law_91 cd_Model_told dn_Model_told rfl rfl (by decide) (by decide) (Nat.le_of_ble_eq_true rfl) rfl (fun _ _ => rfl) ?_
  refine l_pop (pc := 738) d_law_738 ?_
  refine l_goto (pc := 739) (tgt := 1329) d_law_739 (by decide) ?_
  exact hend _ _ hR2
set_option maxHeartbeats 4000000 in
theorem law_case_18 {L : Nat} {xs : Nat → Int32} {i : Int32} (h0 : vp_in i L) (h1 : vp_in (i + 1) L) (h2 : vp_in (i + 2) L) (h3 : vp_in (i + 3) L) (h4 : vp_in (i + 4) L) {Mx Mm : Mem} (hR : Rel Mx Mm) (hend : ∀ Mx2 Mm2, Rel Mx2 Mm2 → JL L xs 1329 [(0, .ref 301), (1, .ref 0), (2, .ref 300), (3, .int i)] [] Mx2 Mm2) : JL L xs 742 [(0, .ref 301), (1, .ref 0), (2, .ref 300), (3, .int i)] [] Mx Mm := by
  refine l_aload_n (pc := 742) (q := 1) d_law_742 rfl rfl ?_
  refine l_aload_n (pc := 743) (q := 0) d_law_743 rfl rfl ?_
  refine l_iload_n (pc := 744) (q := 3) d_law_744 rfl rfl ?_
  refine l_iconst (pc := 745) d_law_745 k_i_1 ?_
  refine l_iadd (pc := 746) d_law_746 ?_
  refine l_ald (pc := 747) d_law_747 (h1) ?_
  refine l_aload_n (pc := 748) (q := 0) d_law_748 rfl rfl ?_
  refine l_iload_n (pc := 749) (q := 3) d_law_749 rfl rfl ?_
  refine l_iconst (pc := 750) d_law_750 k_i_2 ?_
  refine l_iadd (pc := 751) d_law_751 ?_
  refine l_ald (pc := 752) d_law_752 (h2) ?_
  refine l_aload_n (pc := 753) (q := 0) d_law_753 rfl rfl ?_
  refine l_iload_n (pc := 754) (q := 3) d_law_754 rfl rfl ?_
  refine l_iconst (pc := 755) d_law_755 k_i_3 ?_
  refine l_iadd (pc := 756) d_law_756 ?_
  refine l_ald (pc := 757) d_law_757 (h3) ?_
  refine l_aload_n (pc := 758) (q := 0) d_law_758 rfl rfl ?_
  refine l_iload_n (pc := 759) (q := 3) d_law_759 rfl rfl ?_
  refine l_iconst (pc := 760) d_law_760 k_i_4 ?_
  refine l_iadd (pc := 761) d_law_761 ?_
  refine l_ald (pc := 762) d_law_762 (h4) ?_
  obtain ⟨r, Mx2, Mm2, hFx, hFm, hR2⟩ := sim_fewest (xs (i + 1).toNatClampNeg) (xs (i + 2).toNatClampNeg) (xs (i + 3).toNatClampNeg) (xs (i + 4).toNatClampNeg) _ _ hR
  refine l_callX (pc := 763) (as := [.int (xs (i + 1).toNatClampNeg), .int (xs (i + 2).toNatClampNeg), .int (xs (i + 3).toNatClampNeg), .int (xs (i + 4).toNatClampNeg)]) d_law_763 (C_ShakeHands_fewest fuel (xs (i + 1).toNatClampNeg) (xs (i + 2).toNatClampNeg) (xs (i + 3).toNatClampNeg) (xs (i + 4).toNatClampNeg) _) hFx cV_Law_92 cd_ShakeHands_fewest dn_ShakeHands_fewest rfl rfl (by decide) (by decide) (Nat.le_of_ble_eq_true rfl) rfl (fun _ _ => rfl) ?_
  refine l_pop (pc := 766) d_law_766 ?_
  refine l_aload_n (pc := 767) (q := 2) d_law_767 rfl rfl ?_
  refine l_aload_n (pc := 768) (q := 0) d_law_768 rfl rfl ?_
  refine l_iload_n (pc := 769) (q := 3) d_law_769 rfl rfl ?_
  refine l_iconst (pc := 770) d_law_770 k_i_1 ?_
  refine l_iadd (pc := 771) d_law_771 ?_
  refine l_ald (pc := 772) d_law_772 (h1) ?_
  refine l_aload_n (pc := 773) (q := 0) d_law_773 rfl rfl ?_
  refine l_iload_n (pc := 774) (q := 3) d_law_774 rfl rfl ?_
  refine l_iconst (pc := 775) d_law_775 k_i_2 ?_
  refine l_iadd (pc := 776) d_law_776 ?_
  refine l_ald (pc := 777) d_law_777 (h2) ?_
  refine l_aload_n (pc := 778) (q := 0) d_law_778 rfl rfl ?_
  refine l_iload_n (pc := 779) (q := 3) d_law_779 rfl rfl ?_
  refine l_iconst (pc := 780) d_law_780 k_i_3 ?_
  refine l_iadd (pc := 781) d_law_781 ?_
  refine l_ald (pc := 782) d_law_782 (h3) ?_
  refine l_aload_n (pc := 783) (q := 0) d_law_783 rfl rfl ?_
  refine l_iload_n (pc := 784) (q := 3) d_law_784 rfl rfl ?_
  refine l_iconst (pc := 785) d_law_785 k_i_4 ?_
  refine l_iadd (pc := 786) d_law_786 ?_
  refine l_ald (pc := 787) d_law_787 (h4) ?_
  refine l_callM (pc := 788) (as := [.int (xs (i + 1).toNatClampNeg), .int (xs (i + 2).toNatClampNeg), .int (xs (i + 3).toNatClampNeg), .int (xs (i + 4).toNatClampNeg)]) d_law_788 (C_Model_fewest fuel (xs (i + 1).toNatClampNeg) (xs (i + 2).toNatClampNeg) (xs (i + 3).toNatClampNeg) (xs (i + 4).toNatClampNeg) _) hFm cV_Law_96 cd_Model_fewest dn_Model_fewest rfl rfl (by decide) (by decide) (Nat.le_of_ble_eq_true rfl) rfl (fun _ _ => rfl) ?_
  refine l_pop (pc := 791) d_law_791 ?_
  refine l_goto (pc := 792) (tgt := 1329) d_law_792 (by decide) ?_
  exact hend _ _ hR2
set_option maxHeartbeats 4000000 in
theorem law_case_19 {L : Nat} {xs : Nat → Int32} {i : Int32} (h0 : vp_in i L) (h1 : vp_in (i + 1) L) (h2 : vp_in (i + 2) L) (h3 : vp_in (i + 3) L) (h4 : vp_in (i + 4) L) {Mx Mm : Mem} (hR : Rel Mx Mm) (hend : ∀ Mx2 Mm2, Rel Mx2 Mm2 → JL L xs 1329 [(0, .ref 301), (1, .ref 0), (2, .ref 300), (3, .int i)] [] Mx2 Mm2) : JL L xs 795 [(0, .ref 301), (1, .ref 0), (2, .ref 300), (3, .int i)] [] Mx Mm := by
  refine l_aload_n (pc := 795) (q := 1) d_law_795 rfl rfl ?_
  refine l_aload_n (pc := 796) (q := 0) d_law_796 rfl rfl ?_
  refine l_iload_n (pc := 797) (q := 3) d_law_797 rfl rfl ?_
  refine l_iconst (pc := 798) d_law_798 k_i_1 ?_
  refine l_iadd (pc := 799) d_law_799 ?_
  refine l_ald (pc := 800) d_law_800 (h1) ?_
  refine l_aload_n (pc := 801) (q := 0) d_law_801 rfl rfl ?_
  refine l_iload_n (pc := 802) (q := 3) d_law_802 rfl rfl ?_
  refine l_iconst (pc := 803) d_law_803 k_i_2 ?_
  refine l_iadd (pc := 804) d_law_804 ?_
  refine l_ald (pc := 805) d_law_805 (h2) ?_
  refine l_aload_n (pc := 806) (q := 0) d_law_806 rfl rfl ?_
  refine l_iload_n (pc := 807) (q := 3) d_law_807 rfl rfl ?_
  refine l_iconst (pc := 808) d_law_808 k_i_3 ?_
  refine l_iadd (pc := 809) d_law_809 ?_
  refine l_ald (pc := 810) d_law_810 (h3) ?_
  obtain ⟨r, Mx2, Mm2, hFx, hFm, hR2⟩ := sim_rounds (xs (i + 1).toNatClampNeg) (xs (i + 2).toNatClampNeg) (xs (i + 3).toNatClampNeg) _ _ hR
  refine l_callX (pc := 811) (as := [.int (xs (i + 1).toNatClampNeg), .int (xs (i + 2).toNatClampNeg), .int (xs (i + 3).toNatClampNeg)]) d_law_811 (C_ShakeHands_rounds fuel (xs (i + 1).toNatClampNeg) (xs (i + 2).toNatClampNeg) (xs (i + 3).toNatClampNeg) _) hFx cV_Law_97 cd_ShakeHands_rounds dn_ShakeHands_rounds rfl rfl (by decide) (by decide) (Nat.le_of_ble_eq_true rfl) rfl (fun _ _ => rfl) ?_
  refine l_pop (pc := 814) d_law_814 ?_
  refine l_aload_n (pc := 815) (q := 2) d_law_815 rfl rfl ?_
  refine l_aload_n (pc := 816) (q := 0) d_law_816 rfl rfl ?_
  refine l_iload_n (pc := 817) (q := 3) d_law_817 rfl rfl ?_
  refine l_iconst (pc := 818) d_law_818 k_i_1 ?_
  refine l_iadd (pc := 819) d_law_819 ?_
  refine l_ald (pc := 820) d_law_820 (h1) ?_
  refine l_aload_n (pc := 821) (q := 0) d_law_821 rfl rfl ?_
  refine l_iload_n (pc := 822) (q := 3) d_law_822 rfl rfl ?_
  refine l_iconst (pc := 823) d_law_823 k_i_2 ?_
  refine l_iadd (pc := 824) d_law_824 ?_
  refine l_ald (pc := 825) d_law_825 (h2) ?_
  refine l_aload_n (pc := 826) (q := 0) d_law_826 rfl rfl ?_
  refine l_iload_n (pc := 827) (q := 3) d_law_827 rfl rfl ?_
  refine l_iconst (pc := 828) d_law_828 k_i_3 ?_
  refine l_iadd (pc := 829) d_law_829 ?_
  refine l_ald (pc := 830) d_law_830 (h3) ?_
  refine l_callM (pc := 831) (as := [.int (xs (i + 1).toNatClampNeg), .int (xs (i + 2).toNatClampNeg), .int (xs (i + 3).toNatClampNeg)]) d_law_831 (C_Model_rounds fuel (xs (i + 1).toNatClampNeg) (xs (i + 2).toNatClampNeg) (xs (i + 3).toNatClampNeg) _) hFm cV_Law_101 cd_Model_rounds dn_Model_rounds rfl rfl (by decide) (by decide) (Nat.le_of_ble_eq_true rfl) rfl (fun _ _ => rfl) ?_
  refine l_pop (pc := 834) d_law_834 ?_
  refine l_goto (pc := 835) (tgt := 1329) d_law_835 (by decide) ?_
  exact hend _ _ hR2
set_option maxHeartbeats 4000000 in
theorem law_case_20 {L : Nat} {xs : Nat → Int32} {i : Int32} (h0 : vp_in i L) (h1 : vp_in (i + 1) L) (h2 : vp_in (i + 2) L) (h3 : vp_in (i + 3) L) (h4 : vp_in (i + 4) L) {Mx Mm : Mem} (hR : Rel Mx Mm) (hend : ∀ Mx2 Mm2, Rel Mx2 Mm2 → JL L xs 1329 [(0, .ref 301), (1, .ref 0), (2, .ref 300), (3, .int i)] [] Mx2 Mm2) : JL L xs 838 [(0, .ref 301), (1, .ref 0), (2, .ref 300), (3, .int i)] [] Mx Mm := by
  refine l_aload_n (pc := 838) (q := 1) d_law_838 rfl rfl ?_
  refine l_aload_n (pc := 839) (q := 0) d_law_839 rfl rfl ?_
  refine l_iload_n (pc := 840) (q := 3) d_law_840 rfl rfl ?_
  refine l_iconst (pc := 841) d_law_841 k_i_1 ?_
  refine l_iadd (pc := 842) d_law_842 ?_
  refine l_ald (pc := 843) d_law_843 (h1) ?_
  obtain ⟨r, Mx2, Mm2, hFx, hFm, hR2⟩ := sim_lose (xs (i + 1).toNatClampNeg) _ _ hR
  refine l_callX (pc := 844) (as := [.int (xs (i + 1).toNatClampNeg)]) d_law_844 (C_ShakeHands_lose fuel (xs (i + 1).toNatClampNeg) _) hFx cV_Law_102 cd_ShakeHands_lose dn_ShakeHands_lose rfl rfl (by decide) (by decide) (Nat.le_of_ble_eq_true rfl) rfl (fun _ _ => rfl) ?_
  refine l_pop (pc := 847) d_law_847 ?_
  refine l_aload_n (pc := 848) (q := 2) d_law_848 rfl rfl ?_
  refine l_aload_n (pc := 849) (q := 0) d_law_849 rfl rfl ?_
  refine l_iload_n (pc := 850) (q := 3) d_law_850 rfl rfl ?_
  refine l_iconst (pc := 851) d_law_851 k_i_1 ?_
  refine l_iadd (pc := 852) d_law_852 ?_
  refine l_ald (pc := 853) d_law_853 (h1) ?_
  refine l_callM (pc := 854) (as := [.int (xs (i + 1).toNatClampNeg)]) d_law_854 (C_Model_lose fuel (xs (i + 1).toNatClampNeg) _) hFm cV_Law_105 cd_Model_lose dn_Model_lose rfl rfl (by decide) (by decide) (Nat.le_of_ble_eq_true rfl) rfl (fun _ _ => rfl) ?_
  refine l_pop (pc := 857) d_law_857 ?_
  refine l_goto (pc := 858) (tgt := 1329) d_law_858 (by decide) ?_
  exact hend _ _ hR2
set_option maxHeartbeats 4000000 in
theorem law_case_21 {L : Nat} {xs : Nat → Int32} {i : Int32} (h0 : vp_in i L) (h1 : vp_in (i + 1) L) (h2 : vp_in (i + 2) L) (h3 : vp_in (i + 3) L) (h4 : vp_in (i + 4) L) {Mx Mm : Mem} (hR : Rel Mx Mm) (hend : ∀ Mx2 Mm2, Rel Mx2 Mm2 → JL L xs 1329 [(0, .ref 301), (1, .ref 0), (2, .ref 300), (3, .int i)] [] Mx2 Mm2) : JL L xs 861 [(0, .ref 301), (1, .ref 0), (2, .ref 300), (3, .int i)] [] Mx Mm := by
  refine l_aload_n (pc := 861) (q := 1) d_law_861 rfl rfl ?_
  refine l_aload_n (pc := 862) (q := 0) d_law_862 rfl rfl ?_
  refine l_iload_n (pc := 863) (q := 3) d_law_863 rfl rfl ?_
  refine l_iconst (pc := 864) d_law_864 k_i_1 ?_
  refine l_iadd (pc := 865) d_law_865 ?_
  refine l_ald (pc := 866) d_law_866 (h1) ?_
  obtain ⟨r, Mx2, Mm2, hFx, hFm, hR2⟩ := sim_lives (xs (i + 1).toNatClampNeg) _ _ hR
  refine l_callX (pc := 867) (as := [.int (xs (i + 1).toNatClampNeg)]) d_law_867 (C_ShakeHands_lives fuel (xs (i + 1).toNatClampNeg) _) hFx cV_Law_106 cd_ShakeHands_lives dn_ShakeHands_lives rfl rfl (by decide) (by decide) (Nat.le_of_ble_eq_true rfl) rfl (fun _ _ => rfl) ?_
  refine l_pop (pc := 870) d_law_870 ?_
  refine l_aload_n (pc := 871) (q := 2) d_law_871 rfl rfl ?_
  refine l_aload_n (pc := 872) (q := 0) d_law_872 rfl rfl ?_
  refine l_iload_n (pc := 873) (q := 3) d_law_873 rfl rfl ?_
  refine l_iconst (pc := 874) d_law_874 k_i_1 ?_
  refine l_iadd (pc := 875) d_law_875 ?_
  refine l_ald (pc := 876) d_law_876 (h1) ?_
  refine l_callM (pc := 877) (as := [.int (xs (i + 1).toNatClampNeg)]) d_law_877 (C_Model_lives fuel (xs (i + 1).toNatClampNeg) _) hFm cV_Law_109 cd_Model_lives dn_Model_lives rfl rfl (by decide) (by decide) (Nat.le_of_ble_eq_true rfl) rfl (fun _ _ => rfl) ?_
  refine l_pop (pc := 880) d_law_880 ?_
  refine l_goto (pc := 881) (tgt := 1329) d_law_881 (by decide) ?_
  exact hend _ _ hR2
set_option maxHeartbeats 4000000 in
theorem law_case_22 {L : Nat} {xs : Nat → Int32} {i : Int32} (h0 : vp_in i L) (h1 : vp_in (i + 1) L) (h2 : vp_in (i + 2) L) (h3 : vp_in (i + 3) L) (h4 : vp_in (i + 4) L) {Mx Mm : Mem} (hR : Rel Mx Mm) (hend : ∀ Mx2 Mm2, Rel Mx2 Mm2 → JL L xs 1329 [(0, .ref 301), (1, .ref 0), (2, .ref 300), (3, .int i)] [] Mx2 Mm2) : JL L xs 884 [(0, .ref 301), (1, .ref 0), (2, .ref 300), (3, .int i)] [] Mx Mm := by
  refine l_aload_n (pc := 884) (q := 1) d_law_884 rfl rfl ?_
  refine l_aload_n (pc := 885) (q := 0) d_law_885 rfl rfl ?_
  refine l_iload_n (pc := 886) (q := 3) d_law_886 rfl rfl ?_
  refine l_iconst (pc := 887) d_law_887 k_i_1 ?_
  refine l_iadd (pc := 888) d_law_888 ?_
  refine l_ald (pc := 889) d_law_889 (h1) ?_
  obtain ⟨r, Mx2, Mm2, hFx, hFm, hR2⟩ := sim_comes (xs (i + 1).toNatClampNeg) _ _ hR
  refine l_callX (pc := 890) (as := [.int (xs (i + 1).toNatClampNeg)]) d_law_890 (C_ShakeHands_comes fuel (xs (i + 1).toNatClampNeg) _) hFx cV_Law_110 cd_ShakeHands_comes dn_ShakeHands_comes rfl rfl (by decide) (by decide) (Nat.le_of_ble_eq_true rfl) rfl (fun _ _ => rfl) ?_
  refine l_pop (pc := 893) d_law_893 ?_
  refine l_aload_n (pc := 894) (q := 2) d_law_894 rfl rfl ?_
  refine l_aload_n (pc := 895) (q := 0) d_law_895 rfl rfl ?_
  refine l_iload_n (pc := 896) (q := 3) d_law_896 rfl rfl ?_
  refine l_iconst (pc := 897) d_law_897 k_i_1 ?_
  refine l_iadd (pc := 898) d_law_898 ?_
  refine l_ald (pc := 899) d_law_899 (h1) ?_
  refine l_callM (pc := 900) (as := [.int (xs (i + 1).toNatClampNeg)]) d_law_900 (C_Model_comes fuel (xs (i + 1).toNatClampNeg) _) hFm cV_Law_113 cd_Model_comes dn_Model_comes rfl rfl (by decide) (by decide) (Nat.le_of_ble_eq_true rfl) rfl (fun _ _ => rfl) ?_
  refine l_pop (pc := 903) d_law_903 ?_
  refine l_goto (pc := 904) (tgt := 1329) d_law_904 (by decide) ?_
  exact hend _ _ hR2
set_option maxHeartbeats 4000000 in
theorem law_case_23 {L : Nat} {xs : Nat → Int32} {i : Int32} (h0 : vp_in i L) (h1 : vp_in (i + 1) L) (h2 : vp_in (i + 2) L) (h3 : vp_in (i + 3) L) (h4 : vp_in (i + 4) L) {Mx Mm : Mem} (hR : Rel Mx Mm) (hend : ∀ Mx2 Mm2, Rel Mx2 Mm2 → JL L xs 1329 [(0, .ref 301), (1, .ref 0), (2, .ref 300), (3, .int i)] [] Mx2 Mm2) : JL L xs 907 [(0, .ref 301), (1, .ref 0), (2, .ref 300), (3, .int i)] [] Mx Mm := by
  refine l_aload_n (pc := 907) (q := 1) d_law_907 rfl rfl ?_
  refine l_aload_n (pc := 908) (q := 0) d_law_908 rfl rfl ?_
  refine l_iload_n (pc := 909) (q := 3) d_law_909 rfl rfl ?_
  refine l_iconst (pc := 910) d_law_910 k_i_1 ?_
  refine l_iadd (pc := 911) d_law_911 ?_
  refine l_ald (pc := 912) d_law_912 (h1) ?_
  obtain ⟨r, Mx2, Mm2, hFx, hFm, hR2⟩ := sim_days (xs (i + 1).toNatClampNeg) _ _ hR
  refine l_callX (pc := 913) (as := [.int (xs (i + 1).toNatClampNeg)]) d_law_913 (C_ShakeHands_days fuel (xs (i + 1).toNatClampNeg) _) hFx cV_Law_114 cd_ShakeHands_days dn_ShakeHands_days rfl rfl (by decide) (by decide) (Nat.le_of_ble_eq_true rfl) rfl (fun _ _ => rfl) ?_
  refine l_pop (pc := 916) d_law_916 ?_
  refine l_aload_n (pc := 917) (q := 2) d_law_917 rfl rfl ?_
  refine l_aload_n (pc := 918) (q := 0) d_law_918 rfl rfl ?_
  refine l_iload_n (pc := 919) (q := 3) d_law_919 rfl rfl ?_
  refine l_iconst (pc := 920) d_law_920 k_i_1 ?_
  refine l_iadd (pc := 921) d_law_921 ?_
  refine l_ald (pc := 922) d_law_922 (h1) ?_
  refine l_callM (pc := 923) (as := [.int (xs (i + 1).toNatClampNeg)]) d_law_923 (C_Model_days fuel (xs (i + 1).toNatClampNeg) _) hFm cV_Law_117 cd_Model_days dn_Model_days rfl rfl (by decide) (by decide) (Nat.le_of_ble_eq_true rfl) rfl (fun _ _ => rfl) ?_
  refine l_pop (pc := 926) d_law_926 ?_
  refine l_goto (pc := 927) (tgt := 1329) d_law_927 (by decide) ?_
  exact hend _ _ hR2
set_option maxHeartbeats 4000000 in
theorem law_case_24 {L : Nat} {xs : Nat → Int32} {i : Int32} (h0 : vp_in i L) (h1 : vp_in (i + 1) L) (h2 : vp_in (i + 2) L) (h3 : vp_in (i + 3) L) (h4 : vp_in (i + 4) L) {Mx Mm : Mem} (hR : Rel Mx Mm) (hend : ∀ Mx2 Mm2, Rel Mx2 Mm2 → JL L xs 1329 [(0, .ref 301), (1, .ref 0), (2, .ref 300), (3, .int i)] [] Mx2 Mm2) : JL L xs 930 [(0, .ref 301), (1, .ref 0), (2, .ref 300), (3, .int i)] [] Mx Mm := by
  refine l_aload_n (pc := 930) (q := 1) d_law_930 rfl rfl ?_
  refine l_aload_n (pc := 931) (q := 0) d_law_931 rfl rfl ?_
  refine l_iload_n (pc := 932) (q := 3) d_law_932 rfl rfl ?_
  refine l_iconst (pc := 933) d_law_933 k_i_1 ?_
  refine l_iadd (pc := 934) d_law_934 ?_
  refine l_ald (pc := 935) d_law_935 (h1) ?_
  refine l_aload_n (pc := 936) (q := 0) d_law_936 rfl rfl ?_
  refine l_iload_n (pc := 937) (q := 3) d_law_937 rfl rfl ?_
  refine l_iconst (pc := 938) d_law_938 k_i_2 ?_
  refine l_iadd (pc := 939) d_law_939 ?_
  refine l_ald (pc := 940) d_law_940 (h2) ?_
  obtain ⟨r, Mx2, Mm2, hFx, hFm, hR2⟩ := sim_saw (xs (i + 1).toNatClampNeg) (xs (i + 2).toNatClampNeg) _ _ hR
  refine l_callX (pc := 941) (as := [.int (xs (i + 1).toNatClampNeg), .int (xs (i + 2).toNatClampNeg)]) d_law_941 (C_ShakeHands_saw fuel (xs (i + 1).toNatClampNeg) (xs (i + 2).toNatClampNeg) _) hFx cV_Law_118 cd_ShakeHands_saw dn_ShakeHands_saw rfl rfl (by decide) (by decide) (Nat.le_of_ble_eq_true rfl) rfl (fun _ _ => rfl) ?_
  refine l_pop (pc := 944) d_law_944 ?_
  refine l_aload_n (pc := 945) (q := 2) d_law_945 rfl rfl ?_
  refine l_aload_n (pc := 946) (q := 0) d_law_946 rfl rfl ?_
  refine l_iload_n (pc := 947) (q := 3) d_law_947 rfl rfl ?_
  refine l_iconst (pc := 948) d_law_948 k_i_1 ?_
  refine l_iadd (pc := 949) d_law_949 ?_
  refine l_ald (pc := 950) d_law_950 (h1) ?_
  refine l_aload_n (pc := 951) (q := 0) d_law_951 rfl rfl ?_
  refine l_iload_n (pc := 952) (q := 3) d_law_952 rfl rfl ?_
  refine l_iconst (pc := 953) d_law_953 k_i_2 ?_
  refine l_iadd (pc := 954) d_law_954 ?_
  refine l_ald (pc := 955) d_law_955 (h2) ?_
  refine l_callM (pc := 956) (as := [.int (xs (i + 1).toNatClampNeg), .int (xs (i + 2).toNatClampNeg)]) d_law_956 (C_Model_saw fuel (xs (i + 1).toNatClampNeg) (xs (i + 2).toNatClampNeg) _) hFm cV_Law_121 cd_Model_saw dn_Model_saw rfl rfl (by decide) (by decide) (Nat.le_of_ble_eq_true rfl) rfl (fun _ _ => rfl) ?_
  refine l_pop (pc := 959) d_law_959 ?_
  refine l_goto (pc := 960) (tgt := 1329) d_law_960 (by decide) ?_
  exact hend _ _ hR2
set_option maxHeartbeats 4000000 in
theorem law_case_25 {L : Nat} {xs : Nat → Int32} {i : Int32} (h0 : vp_in i L) (h1 : vp_in (i + 1) L) (h2 : vp_in (i + 2) L) (h3 : vp_in (i + 3) L) (h4 : vp_in (i + 4) L) {Mx Mm : Mem} (hR : Rel Mx Mm) (hend : ∀ Mx2 Mm2, Rel Mx2 Mm2 → JL L xs 1329 [(0, .ref 301), (1, .ref 0), (2, .ref 300), (3, .int i)] [] Mx2 Mm2) : JL L xs 963 [(0, .ref 301), (1, .ref 0), (2, .ref 300), (3, .int i)] [] Mx Mm := by
  refine l_aload_n (pc := 963) (q := 1) d_law_963 rfl rfl ?_
  obtain ⟨r, Mx2, Mm2, hFx, hFm, hR2⟩ := sim_blind _ _ hR
  refine l_callX (pc := 964) (as := []) d_law_964 (C_ShakeHands_blind fuel _) hFx cV_Law_122 cd_ShakeHands_blind dn_ShakeHands_blind rfl rfl (by decide) (by decide) (Nat.le_of_ble_eq_true rfl) rfl (fun _ _ => rfl) ?_
  refine l_pop (pc := 967) d_law_967 ?_
  refine l_aload_n (pc := 968) (q := 2) d_law_968 rfl rfl ?_
  refine l_callM (pc := 969) (as := []) d_law_969 (C_Model_blind fuel _) hFm cV_Law_125 cd_Model_blind dn_Model_blind rfl rfl (by decide) (by decide) (Nat.le_of_ble_eq_true rfl) rfl (fun _ _ => rfl) ?_
  refine l_pop (pc := 972) d_law_972 ?_
  refine l_goto (pc := 973) (tgt := 1329) d_law_973 (by decide) ?_
  exact hend _ _ hR2
set_option maxHeartbeats 4000000 in
theorem law_case_26 {L : Nat} {xs : Nat → Int32} {i : Int32} (h0 : vp_in i L) (h1 : vp_in (i + 1) L) (h2 : vp_in (i + 2) L) (h3 : vp_in (i + 3) L) (h4 : vp_in (i + 4) L) {Mx Mm : Mem} (hR : Rel Mx Mm) (hend : ∀ Mx2 Mm2, Rel Mx2 Mm2 → JL L xs 1329 [(0, .ref 301), (1, .ref 0), (2, .ref 300), (3, .int i)] [] Mx2 Mm2) : JL L xs 976 [(0, .ref 301), (1, .ref 0), (2, .ref 300), (3, .int i)] [] Mx Mm := by
  refine l_aload_n (pc := 976) (q := 1) d_law_976 rfl rfl ?_
  refine l_aload_n (pc := 977) (q := 0) d_law_977 rfl rfl ?_
  refine l_iload_n (pc := 978) (q := 3) d_law_978 rfl rfl ?_
  refine l_iconst (pc := 979) d_law_979 k_i_1 ?_
  refine l_iadd (pc := 980) d_law_980 ?_
  refine l_ald (pc := 981) d_law_981 (h1) ?_
  refine l_aload_n (pc := 982) (q := 0) d_law_982 rfl rfl ?_
  refine l_iload_n (pc := 983) (q := 3) d_law_983 rfl rfl ?_
  refine l_iconst (pc := 984) d_law_984 k_i_2 ?_
  refine l_iadd (pc := 985) d_law_985 ?_
  refine l_ald (pc := 986) d_law_986 (h2) ?_
  obtain ⟨r, Mx2, Mm2, hFx, hFm, hR2⟩ := sim_fits (xs (i + 1).toNatClampNeg) (xs (i + 2).toNatClampNeg) _ _ hR
  refine l_callX (pc := 987) (as := [.int (xs (i + 1).toNatClampNeg), .int (xs (i + 2).toNatClampNeg)]) d_law_987 (C_ShakeHands_fits fuel (xs (i + 1).toNatClampNeg) (xs (i + 2).toNatClampNeg) _) hFx cV_Law_126 cd_ShakeHands_fits dn_ShakeHands_fits rfl rfl (by decide) (by decide) (Nat.le_of_ble_eq_true rfl) rfl (fun _ _ => rfl) ?_
  refine l_pop (pc := 990) d_law_990 ?_
  refine l_aload_n (pc := 991) (q := 2) d_law_991 rfl rfl ?_
  refine l_aload_n (pc := 992) (q := 0) d_law_992 rfl rfl ?_
  refine l_iload_n (pc := 993) (q := 3) d_law_993 rfl rfl ?_
  refine l_iconst (pc := 994) d_law_994 k_i_1 ?_
  refine l_iadd (pc := 995) d_law_995 ?_
  refine l_ald (pc := 996) d_law_996 (h1) ?_
  refine l_aload_n (pc := 997) (q := 0) d_law_997 rfl rfl ?_
  refine l_iload_n (pc := 998) (q := 3) d_law_998 rfl rfl ?_
  refine l_iconst (pc := 999) d_law_999 k_i_2 ?_
  refine l_iadd (pc := 1000) d_law_1000 ?_
  refine l_ald (pc := 1001) d_law_1001 (h2) ?_
  refine l_callM (pc := 1002) (as := [.int (xs (i + 1).toNatClampNeg), .int (xs (i + 2).toNatClampNeg)]) d_law_1002 (C_Model_fits fuel (xs (i + 1).toNatClampNeg) (xs (i + 2).toNatClampNeg) _) hFm cV_Law_129 cd_Model_fits dn_Model_fits rfl rfl (by decide) (by decide) (Nat.le_of_ble_eq_true rfl) rfl (fun _ _ => rfl) ?_
  refine l_pop (pc := 1005) d_law_1005 ?_
  refine l_goto (pc := 1006) (tgt := 1329) d_law_1006 (by decide) ?_
  exact hend _ _ hR2
set_option maxHeartbeats 4000000 in
theorem law_case_27 {L : Nat} {xs : Nat → Int32} {i : Int32} (h0 : vp_in i L) (h1 : vp_in (i + 1) L) (h2 : vp_in (i + 2) L) (h3 : vp_in (i + 3) L) (h4 : vp_in (i + 4) L) {Mx Mm : Mem} (hR : Rel Mx Mm) (hend : ∀ Mx2 Mm2, Rel Mx2 Mm2 → JL L xs 1329 [(0, .ref 301), (1, .ref 0), (2, .ref 300), (3, .int i)] [] Mx2 Mm2) : JL L xs 1009 [(0, .ref 301), (1, .ref 0), (2, .ref 300), (3, .int i)] [] Mx Mm := by
  refine l_aload_n (pc := 1009) (q := 1) d_law_1009 rfl rfl ?_
  obtain ⟨r, Mx2, Mm2, hFx, hFm, hR2⟩ := sim_least _ _ hR
  refine l_callX (pc := 1010) (as := []) d_law_1010 (C_ShakeHands_least fuel _) hFx cV_Law_130 cd_ShakeHands_least dn_ShakeHands_least rfl rfl (by decide) (by decide) (Nat.le_of_ble_eq_true rfl) rfl (fun _ _ => rfl) ?_
  refine l_pop (pc := 1013) d_law_1013 ?_
  refine l_aload_n (pc := 1014) (q := 2) d_law_1014 rfl rfl ?_
  refine l_callM (pc := 1015) (as := []) d_law_1015 (C_Model_least fuel _) hFm cV_Law_133 cd_Model_least dn_Model_least rfl rfl (by decide) (by decide) (Nat.le_of_ble_eq_true rfl) rfl (fun _ _ => rfl) ?_
  refine l_pop (pc := 1018) d_law_1018 ?_
  refine l_goto (pc := 1019) (tgt := 1329) d_law_1019 (by decide) ?_
  exact hend _ _ hR2
set_option maxHeartbeats 4000000 in
theorem law_case_28 {L : Nat} {xs : Nat → Int32} {i : Int32} (h0 : vp_in i L) (h1 : vp_in (i + 1) L) (h2 : vp_in (i + 2) L) (h3 : vp_in (i + 3) L) (h4 : vp_in (i + 4) L) {Mx Mm : Mem} (hR : Rel Mx Mm) (hend : ∀ Mx2 Mm2, Rel Mx2 Mm2 → JL L xs 1329 [(0, .ref 301), (1, .ref 0), (2, .ref 300), (3, .int i)] [] Mx2 Mm2) : JL L xs 1022 [(0, .ref 301), (1, .ref 0), (2, .ref 300), (3, .int i)] [] Mx Mm := by
  refine l_aload_n (pc := 1022) (q := 1) d_law_1022 rfl rfl ?_
  refine l_aload_n (pc := 1023) (q := 0) d_law_1023 rfl rfl ?_
  refine l_iload_n (pc := 1024) (q := 3) d_law_1024 rfl rfl ?_
  refine l_iconst (pc := 1025) d_law_1025 k_i_1 ?_
  refine l_iadd (pc := 1026) d_law_1026 ?_
  refine l_ald (pc := 1027) d_law_1027 (h1) ?_
  refine l_aload_n (pc := 1028) (q := 0) d_law_1028 rfl rfl ?_
  refine l_iload_n (pc := 1029) (q := 3) d_law_1029 rfl rfl ?_
  refine l_iconst (pc := 1030) d_law_1030 k_i_2 ?_
  refine l_iadd (pc := 1031) d_law_1031 ?_
  refine l_ald (pc := 1032) d_law_1032 (h2) ?_
  refine l_aload_n (pc := 1033) (q := 0) d_law_1033 rfl rfl ?_
  refine l_iload_n (pc := 1034) (q := 3) d_law_1034 rfl rfl ?_
  refine l_iconst (pc := 1035) d_law_1035 k_i_3 ?_
  refine l_iadd (pc := 1036) d_law_1036 ?_
  refine l_ald (pc := 1037) d_law_1037 (h3) ?_
  obtain ⟨r, Mx2, Mm2, hFx, hFm, hR2⟩ := sim_seats (xs (i + 1).toNatClampNeg) (xs (i + 2).toNatClampNeg) (xs (i + 3).toNatClampNeg) _ _ hR
  refine l_callX (pc := 1038) (as := [.int (xs (i + 1).toNatClampNeg), .int (xs (i + 2).toNatClampNeg), .int (xs (i + 3).toNatClampNeg)]) d_law_1038 (C_ShakeHands_seats fuel (xs (i + 1).toNatClampNeg) (xs (i + 2).toNatClampNeg) (xs (i + 3).toNatClampNeg) _) hFx cV_Law_134 cd_ShakeHands_seats dn_ShakeHands_seats rfl rfl (by decide) (by decide) (Nat.le_of_ble_eq_true rfl) rfl (fun _ _ => rfl) ?_
  refine l_pop (pc := 1041) d_law_1041 ?_
  refine l_aload_n (pc := 1042) (q := 2) d_law_1042 rfl rfl ?_
  refine l_aload_n (pc := 1043) (q := 0) d_law_1043 rfl rfl ?_
  refine l_iload_n (pc := 1044) (q := 3) d_law_1044 rfl rfl ?_
  refine l_iconst (pc := 1045) d_law_1045 k_i_1 ?_
  refine l_iadd (pc := 1046) d_law_1046 ?_
  refine l_ald (pc := 1047) d_law_1047 (h1) ?_
  refine l_aload_n (pc := 1048) (q := 0) d_law_1048 rfl rfl ?_
  refine l_iload_n (pc := 1049) (q := 3) d_law_1049 rfl rfl ?_
  refine l_iconst (pc := 1050) d_law_1050 k_i_2 ?_
  refine l_iadd (pc := 1051) d_law_1051 ?_
  refine l_ald (pc := 1052) d_law_1052 (h2) ?_
  refine l_aload_n (pc := 1053) (q := 0) d_law_1053 rfl rfl ?_
  refine l_iload_n (pc := 1054) (q := 3) d_law_1054 rfl rfl ?_
  refine l_iconst (pc := 1055) d_law_1055 k_i_3 ?_
  refine l_iadd (pc := 1056) d_law_1056 ?_
  refine l_ald (pc := 1057) d_law_1057 (h3) ?_
  refine l_callM (pc := 1058) (as := [.int (xs (i + 1).toNatClampNeg), .int (xs (i + 2).toNatClampNeg), .int (xs (i + 3).toNatClampNeg)]) d_law_1058 (C_Model_seats fuel (xs (i + 1).toNatClampNeg) (xs (i + 2).toNatClampNeg) (xs (i + 3).toNatClampNeg) _) hFm cV_Law_137 cd_Model_seats dn_Model_seats rfl rfl (by decide) (by decide) (Nat.le_of_ble_eq_true rfl) rfl (fun _ _ => rfl) ?_
  refine l_pop (pc := 1061) d_law_1061 ?_
  refine l_goto (pc := 1062) (tgt := 1329) d_law_1062 (by decide) ?_
  exact hend _ _ hR2
set_option maxHeartbeats 4000000 in
theorem law_case_29 {L : Nat} {xs : Nat → Int32} {i : Int32} (h0 : vp_in i L) (h1 : vp_in (i + 1) L) (h2 : vp_in (i + 2) L) (h3 : vp_in (i + 3) L) (h4 : vp_in (i + 4) L) {Mx Mm : Mem} (hR : Rel Mx Mm) (hend : ∀ Mx2 Mm2, Rel Mx2 Mm2 → JL L xs 1329 [(0, .ref 301), (1, .ref 0), (2, .ref 300), (3, .int i)] [] Mx2 Mm2) : JL L xs 1065 [(0, .ref 301), (1, .ref 0), (2, .ref 300), (3, .int i)] [] Mx Mm := by
  refine l_aload_n (pc := 1065) (q := 1) d_law_1065 rfl rfl ?_
  refine l_aload_n (pc := 1066) (q := 0) d_law_1066 rfl rfl ?_
  refine l_iload_n (pc := 1067) (q := 3) d_law_1067 rfl rfl ?_
  refine l_iconst (pc := 1068) d_law_1068 k_i_1 ?_
  refine l_iadd (pc := 1069) d_law_1069 ?_
  refine l_ald (pc := 1070) d_law_1070 (h1) ?_
  refine l_aload_n (pc := 1071) (q := 0) d_law_1071 rfl rfl ?_
  refine l_iload_n (pc := 1072) (q := 3) d_law_1072 rfl rfl ?_
  refine l_iconst (pc := 1073) d_law_1073 k_i_2 ?_
  refine l_iadd (pc := 1074) d_law_1074 ?_
  refine l_ald (pc := 1075) d_law_1075 (h2) ?_
  refine l_aload_n (pc := 1076) (q := 0) d_law_1076 rfl rfl ?_
  refine l_iload_n (pc := 1077) (q := 3) d_law_1077 rfl rfl ?_
  refine l_iconst (pc := 1078) d_law_1078 k_i_3 ?_
  refine l_iadd (pc := 1079) d_law_1079 ?_
  refine l_ald (pc := 1080) d_law_1080 (h3) ?_
  obtain ⟨r, Mx2, Mm2, hFx, hFm, hR2⟩ := sim_gloves (xs (i + 1).toNatClampNeg) (xs (i + 2).toNatClampNeg) (xs (i + 3).toNatClampNeg) _ _ hR
  refine l_callX (pc := 1081) (as := [.int (xs (i + 1).toNatClampNeg), .int (xs (i + 2).toNatClampNeg), .int (xs (i + 3).toNatClampNeg)]) d_law_1081 (C_ShakeHands_gloves fuel (xs (i + 1).toNatClampNeg) (xs (i + 2).toNatClampNeg) (xs (i + 3).toNatClampNeg) _) hFx cV_Law_138 cd_ShakeHands_gloves dn_ShakeHands_gloves rfl rfl (by decide) (by decide) (Nat.le_of_ble_eq_true rfl) rfl (fun _ _ => rfl) ?_
  refine l_pop (pc := 1084) d_law_1084 ?_
  refine l_aload_n (pc := 1085) (q := 2) d_law_1085 rfl rfl ?_
  refine l_aload_n (pc := 1086) (q := 0) d_law_1086 rfl rfl ?_
  refine l_iload_n (pc := 1087) (q := 3) d_law_1087 rfl rfl ?_
  refine l_iconst (pc := 1088) d_law_1088 k_i_1 ?_
  refine l_iadd (pc := 1089) d_law_1089 ?_
  refine l_ald (pc := 1090) d_law_1090 (h1) ?_
  refine l_aload_n (pc := 1091) (q := 0) d_law_1091 rfl rfl ?_
  refine l_iload_n (pc := 1092) (q := 3) d_law_1092 rfl rfl ?_
  refine l_iconst (pc := 1093) d_law_1093 k_i_2 ?_
  refine l_iadd (pc := 1094) d_law_1094 ?_
  refine l_ald (pc := 1095) d_law_1095 (h2) ?_
  refine l_aload_n (pc := 1096) (q := 0) d_law_1096 rfl rfl ?_
  refine l_iload_n (pc := 1097) (q := 3) d_law_1097 rfl rfl ?_
  refine l_iconst (pc := 1098) d_law_1098 k_i_3 ?_
  refine l_iadd (pc := 1099) d_law_1099 ?_
  refine l_ald (pc := 1100) d_law_1100 (h3) ?_
  refine l_callM (pc := 1101) (as := [.int (xs (i + 1).toNatClampNeg), .int (xs (i + 2).toNatClampNeg), .int (xs (i + 3).toNatClampNeg)]) d_law_1101 (C_Model_gloves fuel (xs (i + 1).toNatClampNeg) (xs (i + 2).toNatClampNeg) (xs (i + 3).toNatClampNeg) _) hFm cV_Law_141 cd_Model_gloves dn_Model_gloves rfl rfl (by decide) (by decide) (Nat.le_of_ble_eq_true rfl) rfl (fun _ _ => rfl) ?_
  refine l_pop (pc := 1104) d_law_1104 ?_
  refine l_goto (pc := 1105) (tgt := 1329) d_law_1105 (by decide) ?_
  exact hend _ _ hR2
set_option maxHeartbeats 4000000 in
theorem law_case_30 {L : Nat} {xs : Nat → Int32} {i : Int32} (h0 : vp_in i L) (h1 : vp_in (i + 1) L) (h2 : vp_in (i + 2) L) (h3 : vp_in (i + 3) L) (h4 : vp_in (i + 4) L) {Mx Mm : Mem} (hR : Rel Mx Mm) (hend : ∀ Mx2 Mm2, Rel Mx2 Mm2 → JL L xs 1329 [(0, .ref 301), (1, .ref 0), (2, .ref 300), (3, .int i)] [] Mx2 Mm2) : JL L xs 1108 [(0, .ref 301), (1, .ref 0), (2, .ref 300), (3, .int i)] [] Mx Mm := by
  refine l_aload_n (pc := 1108) (q := 1) d_law_1108 rfl rfl ?_
  refine l_aload_n (pc := 1109) (q := 0) d_law_1109 rfl rfl ?_
  refine l_iload_n (pc := 1110) (q := 3) d_law_1110 rfl rfl ?_
  refine l_iconst (pc := 1111) d_law_1111 k_i_1 ?_
  refine l_iadd (pc := 1112) d_law_1112 ?_
  refine l_ald (pc := 1113) d_law_1113 (h1) ?_
  obtain ⟨r, Mx2, Mm2, hFx, hFm, hR2⟩ := sim_keep (xs (i + 1).toNatClampNeg) _ _ hR
  refine l_callX (pc := 1114) (as := [.int (xs (i + 1).toNatClampNeg)]) d_law_1114 (C_ShakeHands_keep fuel (xs (i + 1).toNatClampNeg) _) hFx cV_Law_142 cd_ShakeHands_keep dn_ShakeHands_keep rfl rfl (by decide) (by decide) (Nat.le_of_ble_eq_true rfl) rfl (fun _ _ => rfl) ?_
  refine l_pop (pc := 1117) d_law_1117 ?_
  refine l_aload_n (pc := 1118) (q := 2) d_law_1118 rfl rfl ?_
  refine l_aload_n (pc := 1119) (q := 0) d_law_1119 rfl rfl ?_
  refine l_iload_n (pc := 1120) (q := 3) d_law_1120 rfl rfl ?_
  refine l_iconst (pc := 1121) d_law_1121 k_i_1 ?_
  refine l_iadd (pc := 1122) d_law_1122 ?_
  refine l_ald (pc := 1123) d_law_1123 (h1) ?_
  refine l_callM (pc := 1124) (as := [.int (xs (i + 1).toNatClampNeg)]) d_law_1124 (C_Model_keep fuel (xs (i + 1).toNatClampNeg) _) hFm cV_Law_145 cd_Model_keep dn_Model_keep rfl rfl (by decide) (by decide) (Nat.le_of_ble_eq_true rfl) rfl (fun _ _ => rfl) ?_
  refine l_pop (pc := 1127) d_law_1127 ?_
  refine l_goto (pc := 1128) (tgt := 1329) d_law_1128 (by decide) ?_
  exact hend _ _ hR2
set_option maxHeartbeats 4000000 in
theorem law_case_31 {L : Nat} {xs : Nat → Int32} {i : Int32} (h0 : vp_in i L) (h1 : vp_in (i + 1) L) (h2 : vp_in (i + 2) L) (h3 : vp_in (i + 3) L) (h4 : vp_in (i + 4) L) {Mx Mm : Mem} (hR : Rel Mx Mm) (hend : ∀ Mx2 Mm2, Rel Mx2 Mm2 → JL L xs 1329 [(0, .ref 301), (1, .ref 0), (2, .ref 300), (3, .int i)] [] Mx2 Mm2) : JL L xs 1131 [(0, .ref 301), (1, .ref 0), (2, .ref 300), (3, .int i)] [] Mx Mm := by
  refine l_aload_n (pc := 1131) (q := 1) d_law_1131 rfl rfl ?_
  refine l_aload_n (pc := 1132) (q := 0) d_law_1132 rfl rfl ?_
  refine l_iload_n (pc := 1133) (q := 3) d_law_1133 rfl rfl ?_
  refine l_iconst (pc := 1134) d_law_1134 k_i_1 ?_
  refine l_iadd (pc := 1135) d_law_1135 ?_
  refine l_ald (pc := 1136) d_law_1136 (h1) ?_
  obtain ⟨r, Mx2, Mm2, hFx, hFm, hR2⟩ := sim_back (xs (i + 1).toNatClampNeg) _ _ hR
  refine l_callX (pc := 1137) (as := [.int (xs (i + 1).toNatClampNeg)]) d_law_1137 (C_ShakeHands_back fuel (xs (i + 1).toNatClampNeg) _) hFx cV_Law_146 cd_ShakeHands_back dn_ShakeHands_back rfl rfl (by decide) (by decide) (Nat.le_of_ble_eq_true rfl) rfl (fun _ _ => rfl) ?_
  refine l_pop (pc := 1140) d_law_1140 ?_
  refine l_aload_n (pc := 1141) (q := 2) d_law_1141 rfl rfl ?_
  refine l_aload_n (pc := 1142) (q := 0) d_law_1142 rfl rfl ?_
  refine l_iload_n (pc := 1143) (q := 3) d_law_1143 rfl rfl ?_
  refine l_iconst (pc := 1144) d_law_1144 k_i_1 ?_
  refine l_iadd (pc := 1145) d_law_1145 ?_
  refine l_ald (pc := 1146) d_law_1146 (h1) ?_
  refine l_callM (pc := 1147) (as := [.int (xs (i + 1).toNatClampNeg)]) d_law_1147 (C_Model_back fuel (xs (i + 1).toNatClampNeg) _) hFm cV_Law_149 cd_Model_back dn_Model_back rfl rfl (by decide) (by decide) (Nat.le_of_ble_eq_true rfl) rfl (fun _ _ => rfl) ?_
  refine l_pop (pc := 1150) d_law_1150 ?_
  refine l_goto (pc := 1151) (tgt := 1329) d_law_1151 (by decide) ?_
  exact hend _ _ hR2
set_option maxHeartbeats 4000000 in
theorem law_case_32 {L : Nat} {xs : Nat → Int32} {i : Int32} (h0 : vp_in i L) (h1 : vp_in (i + 1) L) (h2 : vp_in (i + 2) L) (h3 : vp_in (i + 3) L) (h4 : vp_in (i + 4) L) {Mx Mm : Mem} (hR : Rel Mx Mm) (hend : ∀ Mx2 Mm2, Rel Mx2 Mm2 → JL L xs 1329 [(0, .ref 301), (1, .ref 0), (2, .ref 300), (3, .int i)] [] Mx2 Mm2) : JL L xs 1154 [(0, .ref 301), (1, .ref 0), (2, .ref 300), (3, .int i)] [] Mx Mm := by
  refine l_aload_n (pc := 1154) (q := 1) d_law_1154 rfl rfl ?_
  refine l_aload_n (pc := 1155) (q := 0) d_law_1155 rfl rfl ?_
  refine l_iload_n (pc := 1156) (q := 3) d_law_1156 rfl rfl ?_
  refine l_iconst (pc := 1157) d_law_1157 k_i_1 ?_
  refine l_iadd (pc := 1158) d_law_1158 ?_
  refine l_ald (pc := 1159) d_law_1159 (h1) ?_
  refine l_aload_n (pc := 1160) (q := 0) d_law_1160 rfl rfl ?_
  refine l_iload_n (pc := 1161) (q := 3) d_law_1161 rfl rfl ?_
  refine l_iconst (pc := 1162) d_law_1162 k_i_2 ?_
  refine l_iadd (pc := 1163) d_law_1163 ?_
  refine l_ald (pc := 1164) d_law_1164 (h2) ?_
  refine l_aload_n (pc := 1165) (q := 0) d_law_1165 rfl rfl ?_
  refine l_iload_n (pc := 1166) (q := 3) d_law_1166 rfl rfl ?_
  refine l_iconst (pc := 1167) d_law_1167 k_i_3 ?_
  refine l_iadd (pc := 1168) d_law_1168 ?_
  refine l_ald (pc := 1169) d_law_1169 (h3) ?_
  obtain ⟨r, Mx2, Mm2, hFx, hFm, hR2⟩ := sim_sheet (xs (i + 1).toNatClampNeg) (xs (i + 2).toNatClampNeg) (xs (i + 3).toNatClampNeg) _ _ hR
  refine l_callX (pc := 1170) (as := [.int (xs (i + 1).toNatClampNeg), .int (xs (i + 2).toNatClampNeg), .int (xs (i + 3).toNatClampNeg)]) d_law_1170 (C_ShakeHands_sheet fuel (xs (i + 1).toNatClampNeg) (xs (i + 2).toNatClampNeg) (xs (i + 3).toNatClampNeg) _) hFx cV_Law_150 cd_ShakeHands_sheet dn_ShakeHands_sheet rfl rfl (by decide) (by decide) (Nat.le_of_ble_eq_true rfl) rfl (fun _ _ => rfl) ?_
  refine l_pop (pc := 1173) d_law_1173 ?_
  refine l_aload_n (pc := 1174) (q := 2) d_law_1174 rfl rfl ?_
  refine l_aload_n (pc := 1175) (q := 0) d_law_1175 rfl rfl ?_
  refine l_iload_n (pc := 1176) (q := 3) d_law_1176 rfl rfl ?_
  refine l_iconst (pc := 1177) d_law_1177 k_i_1 ?_
  refine l_iadd (pc := 1178) d_law_1178 ?_
  refine l_ald (pc := 1179) d_law_1179 (h1) ?_
  refine l_aload_n (pc := 1180) (q := 0) d_law_1180 rfl rfl ?_
  refine l_iload_n (pc := 1181) (q := 3) d_law_1181 rfl rfl ?_
  refine l_iconst (pc := 1182) d_law_1182 k_i_2 ?_
  refine l_iadd (pc := 1183) d_law_1183 ?_
  refine l_ald (pc := 1184) d_law_1184 (h2) ?_
  refine l_aload_n (pc := 1185) (q := 0) d_law_1185 rfl rfl ?_
  refine l_iload_n (pc := 1186) (q := 3) d_law_1186 rfl rfl ?_
  refine l_iconst (pc := 1187) d_law_1187 k_i_3 ?_
  refine l_iadd (pc := 1188) d_law_1188 ?_
  refine l_ald (pc := 1189) d_law_1189 (h3) ?_
  refine l_callM (pc := 1190) (as := [.int (xs (i + 1).toNatClampNeg), .int (xs (i + 2).toNatClampNeg), .int (xs (i + 3).toNatClampNeg)]) d_law_1190 (C_Model_sheet fuel (xs (i + 1).toNatClampNeg) (xs (i + 2).toNatClampNeg) (xs (i + 3).toNatClampNeg) _) hFm cV_Law_153 cd_Model_sheet dn_Model_sheet rfl rfl (by decide) (by decide) (Nat.le_of_ble_eq_true rfl) rfl (fun _ _ => rfl) ?_
  refine l_pop (pc := 1193) d_law_1193 ?_
  refine l_goto (pc := 1194) (tgt := 1329) d_law_1194 (by decide) ?_
  exact hend _ _ hR2
set_option maxHeartbeats 4000000 in
theorem law_case_33 {L : Nat} {xs : Nat → Int32} {i : Int32} (h0 : vp_in i L) (h1 : vp_in (i + 1) L) (h2 : vp_in (i + 2) L) (h3 : vp_in (i + 3) L) (h4 : vp_in (i + 4) L) {Mx Mm : Mem} (hR : Rel Mx Mm) (hend : ∀ Mx2 Mm2, Rel Mx2 Mm2 → JL L xs 1329 [(0, .ref 301), (1, .ref 0), (2, .ref 300), (3, .int i)] [] Mx2 Mm2) : JL L xs 1197 [(0, .ref 301), (1, .ref 0), (2, .ref 300), (3, .int i)] [] Mx Mm := by
  refine l_aload_n (pc := 1197) (q := 1) d_law_1197 rfl rfl ?_
  refine l_aload_n (pc := 1198) (q := 0) d_law_1198 rfl rfl ?_
  refine l_iload_n (pc := 1199) (q := 3) d_law_1199 rfl rfl ?_
  refine l_iconst (pc := 1200) d_law_1200 k_i_1 ?_
  refine l_iadd (pc := 1201) d_law_1201 ?_
  refine l_ald (pc := 1202) d_law_1202 (h1) ?_
  refine l_aload_n (pc := 1203) (q := 0) d_law_1203 rfl rfl ?_
  refine l_iload_n (pc := 1204) (q := 3) d_law_1204 rfl rfl ?_
  refine l_iconst (pc := 1205) d_law_1205 k_i_2 ?_
  refine l_iadd (pc := 1206) d_law_1206 ?_
  refine l_ald (pc := 1207) d_law_1207 (h2) ?_
  refine l_aload_n (pc := 1208) (q := 0) d_law_1208 rfl rfl ?_
  refine l_iload_n (pc := 1209) (q := 3) d_law_1209 rfl rfl ?_
  refine l_iconst (pc := 1210) d_law_1210 k_i_3 ?_
  refine l_iadd (pc := 1211) d_law_1211 ?_
  refine l_ald (pc := 1212) d_law_1212 (h3) ?_
  obtain ⟨r, Mx2, Mm2, hFx, hFm, hR2⟩ := sim_lay (xs (i + 1).toNatClampNeg) (xs (i + 2).toNatClampNeg) (xs (i + 3).toNatClampNeg) _ _ hR
  refine l_callX (pc := 1213) (as := [.int (xs (i + 1).toNatClampNeg), .int (xs (i + 2).toNatClampNeg), .int (xs (i + 3).toNatClampNeg)]) d_law_1213 (C_ShakeHands_lay fuel (xs (i + 1).toNatClampNeg) (xs (i + 2).toNatClampNeg) (xs (i + 3).toNatClampNeg) _) hFx cV_Law_154 cd_ShakeHands_lay dn_ShakeHands_lay rfl rfl (by decide) (by decide) (Nat.le_of_ble_eq_true rfl) rfl (fun _ _ => rfl) ?_
  refine l_pop (pc := 1216) d_law_1216 ?_
  refine l_aload_n (pc := 1217) (q := 2) d_law_1217 rfl rfl ?_
  refine l_aload_n (pc := 1218) (q := 0) d_law_1218 rfl rfl ?_
  refine l_iload_n (pc := 1219) (q := 3) d_law_1219 rfl rfl ?_
  refine l_iconst (pc := 1220) d_law_1220 k_i_1 ?_
  refine l_iadd (pc := 1221) d_law_1221 ?_
  refine l_ald (pc := 1222) d_law_1222 (h1) ?_
  refine l_aload_n (pc := 1223) (q := 0) d_law_1223 rfl rfl ?_
  refine l_iload_n (pc := 1224) (q := 3) d_law_1224 rfl rfl ?_
  refine l_iconst (pc := 1225) d_law_1225 k_i_2 ?_
  refine l_iadd (pc := 1226) d_law_1226 ?_
  refine l_ald (pc := 1227) d_law_1227 (h2) ?_
  refine l_aload_n (pc := 1228) (q := 0) d_law_1228 rfl rfl ?_
  refine l_iload_n (pc := 1229) (q := 3) d_law_1229 rfl rfl ?_
  refine l_iconst (pc := 1230) d_law_1230 k_i_3 ?_
  refine l_iadd (pc := 1231) d_law_1231 ?_
  refine l_ald (pc := 1232) d_law_1232 (h3) ?_
  refine l_callM (pc := 1233) (as := [.int (xs (i + 1).toNatClampNeg), .int (xs (i + 2).toNatClampNeg), .int (xs (i + 3).toNatClampNeg)]) d_law_1233 (C_Model_lay fuel (xs (i + 1).toNatClampNeg) (xs (i + 2).toNatClampNeg) (xs (i + 3).toNatClampNeg) _) hFm cV_Law_157 cd_Model_lay dn_Model_lay rfl rfl (by decide) (by decide) (Nat.le_of_ble_eq_true rfl) rfl (fun _ _ => rfl) ?_
  refine l_pop (pc := 1236) d_law_1236 ?_
  refine l_goto (pc := 1237) (tgt := 1329) d_law_1237 (by decide) ?_
  exact hend _ _ hR2
set_option maxHeartbeats 4000000 in
theorem law_case_34 {L : Nat} {xs : Nat → Int32} {i : Int32} (h0 : vp_in i L) (h1 : vp_in (i + 1) L) (h2 : vp_in (i + 2) L) (h3 : vp_in (i + 3) L) (h4 : vp_in (i + 4) L) {Mx Mm : Mem} (hR : Rel Mx Mm) (hend : ∀ Mx2 Mm2, Rel Mx2 Mm2 → JL L xs 1329 [(0, .ref 301), (1, .ref 0), (2, .ref 300), (3, .int i)] [] Mx2 Mm2) : JL L xs 1240 [(0, .ref 301), (1, .ref 0), (2, .ref 300), (3, .int i)] [] Mx Mm := by
  refine l_aload_n (pc := 1240) (q := 1) d_law_1240 rfl rfl ?_
  refine l_aload_n (pc := 1241) (q := 0) d_law_1241 rfl rfl ?_
  refine l_iload_n (pc := 1242) (q := 3) d_law_1242 rfl rfl ?_
  refine l_iconst (pc := 1243) d_law_1243 k_i_1 ?_
  refine l_iadd (pc := 1244) d_law_1244 ?_
  refine l_ald (pc := 1245) d_law_1245 (h1) ?_
  refine l_aload_n (pc := 1246) (q := 0) d_law_1246 rfl rfl ?_
  refine l_iload_n (pc := 1247) (q := 3) d_law_1247 rfl rfl ?_
  refine l_iconst (pc := 1248) d_law_1248 k_i_2 ?_
  refine l_iadd (pc := 1249) d_law_1249 ?_
  refine l_ald (pc := 1250) d_law_1250 (h2) ?_
  refine l_aload_n (pc := 1251) (q := 0) d_law_1251 rfl rfl ?_
  refine l_iload_n (pc := 1252) (q := 3) d_law_1252 rfl rfl ?_
  refine l_iconst (pc := 1253) d_law_1253 k_i_3 ?_
  refine l_iadd (pc := 1254) d_law_1254 ?_
  refine l_ald (pc := 1255) d_law_1255 (h3) ?_
  refine l_aload_n (pc := 1256) (q := 0) d_law_1256 rfl rfl ?_
  refine l_iload_n (pc := 1257) (q := 3) d_law_1257 rfl rfl ?_
  refine l_iconst (pc := 1258) d_law_1258 k_i_4 ?_
  refine l_iadd (pc := 1259) d_law_1259 ?_
  refine l_ald (pc := 1260) d_law_1260 (h4) ?_
  obtain ⟨r, Mx2, Mm2, hFx, hFm, hR2⟩ := sim_read (xs (i + 1).toNatClampNeg) (xs (i + 2).toNatClampNeg) (xs (i + 3).toNatClampNeg) (xs (i + 4).toNatClampNeg) _ _ hR
  refine l_callX (pc := 1261) (as := [.int (xs (i + 1).toNatClampNeg), .int (xs (i + 2).toNatClampNeg), .int (xs (i + 3).toNatClampNeg), .int (xs (i + 4).toNatClampNeg)]) d_law_1261 (C_ShakeHands_read fuel (xs (i + 1).toNatClampNeg) (xs (i + 2).toNatClampNeg) (xs (i + 3).toNatClampNeg) (xs (i + 4).toNatClampNeg) _) hFx cV_Law_158 cd_ShakeHands_read dn_ShakeHands_read rfl rfl (by decide) (by decide) (Nat.le_of_ble_eq_true rfl) rfl (fun _ _ => rfl) ?_
  refine l_pop (pc := 1264) d_law_1264 ?_
  refine l_aload_n (pc := 1265) (q := 2) d_law_1265 rfl rfl ?_
  refine l_aload_n (pc := 1266) (q := 0) d_law_1266 rfl rfl ?_
  refine l_iload_n (pc := 1267) (q := 3) d_law_1267 rfl rfl ?_
  refine l_iconst (pc := 1268) d_law_1268 k_i_1 ?_
  refine l_iadd (pc := 1269) d_law_1269 ?_
  refine l_ald (pc := 1270) d_law_1270 (h1) ?_
  refine l_aload_n (pc := 1271) (q := 0) d_law_1271 rfl rfl ?_
  refine l_iload_n (pc := 1272) (q := 3) d_law_1272 rfl rfl ?_
  refine l_iconst (pc := 1273) d_law_1273 k_i_2 ?_
  refine l_iadd (pc := 1274) d_law_1274 ?_
  refine l_ald (pc := 1275) d_law_1275 (h2) ?_
  refine l_aload_n (pc := 1276) (q := 0) d_law_1276 rfl rfl ?_
  refine l_iload_n (pc := 1277) (q := 3) d_law_1277 rfl rfl ?_
  refine l_iconst (pc := 1278) d_law_1278 k_i_3 ?_
  refine l_iadd (pc := 1279) d_law_1279 ?_
  refine l_ald (pc := 1280) d_law_1280 (h3) ?_
  refine l_aload_n (pc := 1281) (q := 0) d_law_1281 rfl rfl ?_
  refine l_iload_n (pc := 1282) (q := 3) d_law_1282 rfl rfl ?_
  refine l_iconst (pc := 1283) d_law_1283 k_i_4 ?_
  refine l_iadd (pc := 1284) d_law_1284 ?_
  refine l_ald (pc := 1285) d_law_1285 (h4) ?_
  refine l_callM (pc := 1286) (as := [.int (xs (i + 1).toNatClampNeg), .int (xs (i + 2).toNatClampNeg), .int (xs (i + 3).toNatClampNeg), .int (xs (i + 4).toNatClampNeg)]) d_law_1286 (C_Model_read fuel (xs (i + 1).toNatClampNeg) (xs (i + 2).toNatClampNeg) (xs (i + 3).toNatClampNeg) (xs (i + 4).toNatClampNeg) _) hFm cV_Law_161 cd_Model_read dn_Model_read rfl rfl (by decide) (by decide) (Nat.le_of_ble_eq_true rfl) rfl (fun _ _ => rfl) ?_
  refine l_pop (pc := 1289) d_law_1289 ?_
  refine l_goto (pc := 1290) (tgt := 1329) d_law_1290 (by decide) ?_
  exact hend _ _ hR2
set_option maxHeartbeats 4000000 in
theorem law_case_35 {L : Nat} {xs : Nat → Int32} {i : Int32} (h0 : vp_in i L) (h1 : vp_in (i + 1) L) (h2 : vp_in (i + 2) L) (h3 : vp_in (i + 3) L) (h4 : vp_in (i + 4) L) {Mx Mm : Mem} (hR : Rel Mx Mm) (hend : ∀ Mx2 Mm2, Rel Mx2 Mm2 → JL L xs 1329 [(0, .ref 301), (1, .ref 0), (2, .ref 300), (3, .int i)] [] Mx2 Mm2) : JL L xs 1293 [(0, .ref 301), (1, .ref 0), (2, .ref 300), (3, .int i)] [] Mx Mm := by
  refine l_aload_n (pc := 1293) (q := 1) d_law_1293 rfl rfl ?_
  obtain ⟨r, Mx2, Mm2, hFx, hFm, hR2⟩ := sim_torn _ _ hR
  refine l_callX (pc := 1294) (as := []) d_law_1294 (C_ShakeHands_torn fuel _) hFx cV_Law_162 cd_ShakeHands_torn dn_ShakeHands_torn rfl rfl (by decide) (by decide) (Nat.le_of_ble_eq_true rfl) rfl (fun _ _ => rfl) ?_
  refine l_pop (pc := 1297) d_law_1297 ?_
  refine l_aload_n (pc := 1298) (q := 2) d_law_1298 rfl rfl ?_
  refine l_callM (pc := 1299) (as := []) d_law_1299 (C_Model_torn fuel _) hFm cV_Law_165 cd_Model_torn dn_Model_torn rfl rfl (by decide) (by decide) (Nat.le_of_ble_eq_true rfl) rfl (fun _ _ => rfl) ?_
  refine l_pop (pc := 1302) d_law_1302 ?_
  refine l_goto (pc := 1303) (tgt := 1329) d_law_1303 (by decide) ?_
  exact hend _ _ hR2
set_option maxHeartbeats 4000000 in
theorem law_case_36 {L : Nat} {xs : Nat → Int32} {i : Int32} (h0 : vp_in i L) (h1 : vp_in (i + 1) L) (h2 : vp_in (i + 2) L) (h3 : vp_in (i + 3) L) (h4 : vp_in (i + 4) L) {Mx Mm : Mem} (hR : Rel Mx Mm) (hend : ∀ Mx2 Mm2, Rel Mx2 Mm2 → JL L xs 1329 [(0, .ref 301), (1, .ref 0), (2, .ref 300), (3, .int i)] [] Mx2 Mm2) : JL L xs 1306 [(0, .ref 301), (1, .ref 0), (2, .ref 300), (3, .int i)] [] Mx Mm := by
  refine l_aload_n (pc := 1306) (q := 1) d_law_1306 rfl rfl ?_
  refine l_aload_n (pc := 1307) (q := 0) d_law_1307 rfl rfl ?_
  refine l_iload_n (pc := 1308) (q := 3) d_law_1308 rfl rfl ?_
  refine l_iconst (pc := 1309) d_law_1309 k_i_1 ?_
  refine l_iadd (pc := 1310) d_law_1310 ?_
  refine l_ald (pc := 1311) d_law_1311 (h1) ?_
  obtain ⟨r, Mx2, Mm2, hFx, hFm, hR2⟩ := sim_count (xs (i + 1).toNatClampNeg) _ _ hR
  refine l_callX (pc := 1312) (as := [.int (xs (i + 1).toNatClampNeg)]) d_law_1312 (C_ShakeHands_count fuel (xs (i + 1).toNatClampNeg) _) hFx cV_Law_166 cd_ShakeHands_count dn_ShakeHands_count rfl rfl (by decide) (by decide) (Nat.le_of_ble_eq_true rfl) rfl (fun _ _ => rfl) ?_
  refine l_aload_n (pc := 1315) (q := 2) d_law_1315 rfl rfl ?_
  refine l_aload_n (pc := 1316) (q := 0) d_law_1316 rfl rfl ?_
  refine l_iload_n (pc := 1317) (q := 3) d_law_1317 rfl rfl ?_
  refine l_iconst (pc := 1318) d_law_1318 k_i_1 ?_
  refine l_iadd (pc := 1319) d_law_1319 ?_
  refine l_ald (pc := 1320) d_law_1320 (h1) ?_
  refine l_callM (pc := 1321) (as := [.int (xs (i + 1).toNatClampNeg)]) d_law_1321 (C_Model_count fuel (xs (i + 1).toNatClampNeg) _) hFm cV_Law_169 cd_Model_count dn_Model_count rfl rfl (by decide) (by decide) (Nat.le_of_ble_eq_true rfl) rfl (fun _ _ => rfl) ?_
  refine l_eq_t (pc := 1324) (tgt := 1329) d_law_1324 (by decide) ?_
  exact hend _ _ hR2

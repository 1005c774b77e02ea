/-! ===== the arms of the law ===== -/
theorem a_0 {X : LX} {L : Nat} {xs : Nat → Int32} (C : LC X L xs) {i : Int32} (hi : ∀ j, j < 6 → vp_in (i + nI j) L) {M : Mem} (hC : Cpl M) (K : ∀ M2, Cpl M2 → LW X 210 7897 1335 [(0, .ref (bX X)), (1, .ref (BX X + 0)), (2, .ref (BX X + 182)), (3, .int i)] [] (w0 M2)) : LW X 210 7897 188 [(0, .ref (bX X)), (1, .ref (BX X + 0)), (2, .ref (BX X + 182)), (3, .int i)] [] (w0 M) := by
  refine lr_aload_n (pc' := 189) 1 C rfl dL_188 rfl rfl ?_
  refine lr_callV (d2 := 4) (As := []) (rest := []) (c0 := 0) (ci := 9) 0 (pc' := 192) C rfl dL_189 cv_X9_room ml_L_13 (by decide +kernel) rfl rfl (by decide) (Nat.le_of_ble_eq_true rfl) ob_0 rfl rfl (Nat.le_of_ble_eq_true rfl) (Nat.le_of_ble_eq_true rfl) (CA.monoI (b_room hC) (fun r1 M1 h1 => ?_))
  refine lr_aload_n (pc' := 193) 2 C rfl dL_192 rfl rfl ?_
  refine lr_callV (d2 := 0) (As := []) (rest := [.int r1]) (c0 := 182) (ci := 10) 0 (pc' := 196) C rfl dL_193 cv_X10_room ml_L_17 (by decide +kernel) rfl rfl (by decide) (Nat.le_of_ble_eq_true rfl) ob_182 rfl rfl (Nat.le_of_ble_eq_true rfl) (Nat.le_of_ble_eq_true rfl) (CA.monoI h1 (fun r2 M2 h2 => ?_))
  exact lr_icmp_eq (pc' := 199) (tgt := 1335) C rfl dL_196 (by decide) (fun _ => K M2 h2.2) (fun q => absurd h2.1 q)
theorem a_1 {X : LX} {L : Nat} {xs : Nat → Int32} (C : LC X L xs) {i : Int32} (hi : ∀ j, j < 6 → vp_in (i + nI j) L) {M : Mem} (hC : Cpl M) (K : ∀ M2, Cpl M2 → LW X 210 7897 1335 [(0, .ref (bX X)), (1, .ref (BX X + 0)), (2, .ref (BX X + 182)), (3, .int i)] [] (w0 M2)) : LW X 210 7897 201 [(0, .ref (bX X)), (1, .ref (BX X + 0)), (2, .ref (BX X + 182)), (3, .int i)] [] (w0 M) := by
  refine lr_aload_n (pc' := 202) 1 C rfl dL_201 rfl rfl ?_
  refine lr_aload_n (pc' := 203) 0 C rfl dL_202 rfl rfl ?_
  refine lr_iload_n (pc' := 204) 3 C rfl dL_203 rfl rfl ?_
  refine lr_iconst (pc' := 205) (v := nI 1) C rfl dL_204 (by decide) ?_
  refine lr_iadd (pc' := 206) C rfl dL_205 ?_
  refine lr_sld (pc' := 207) C rfl dL_206 (hi 1 (by omega)) ?_
  refine lr_aload_n (pc' := 208) 0 C rfl dL_207 rfl rfl ?_
  refine lr_iload_n (pc' := 209) 3 C rfl dL_208 rfl rfl ?_
  refine lr_iconst (pc' := 210) (v := nI 2) C rfl dL_209 (by decide) ?_
  refine lr_iadd (pc' := 211) C rfl dL_210 ?_
  refine lr_sld (pc' := 212) C rfl dL_211 (hi 2 (by omega)) ?_
  refine lr_aload_n (pc' := 213) 0 C rfl dL_212 rfl rfl ?_
  refine lr_iload_n (pc' := 214) 3 C rfl dL_213 rfl rfl ?_
  refine lr_iconst (pc' := 215) (v := nI 3) C rfl dL_214 (by decide) ?_
  refine lr_iadd (pc' := 216) C rfl dL_215 ?_
  refine lr_sld (pc' := 217) C rfl dL_216 (hi 3 (by omega)) ?_
  refine lr_callV (d2 := 4) (As := [.int (xs (ix (i + nI 1))), .int (xs (ix (i + nI 2))), .int (xs (ix (i + nI 3)))]) (rest := []) (c0 := 0) (ci := 9) 3 (pc' := 220) C rfl dL_217 cv_X9_door ml_L_18 (by decide +kernel) rfl rfl (by decide) (Nat.le_of_ble_eq_true rfl) ob_0 rfl rfl (Nat.le_of_ble_eq_true rfl) (Nat.le_of_ble_eq_true rfl) (CA.monoI (b_door hC (xs (ix (i + nI 1))) (xs (ix (i + nI 2))) (xs (ix (i + nI 3)))) (fun r1 M1 h1 => ?_))
  refine lr_aload_n (pc' := 221) 2 C rfl dL_220 rfl rfl ?_
  refine lr_aload_n (pc' := 222) 0 C rfl dL_221 rfl rfl ?_
  refine lr_iload_n (pc' := 223) 3 C rfl dL_222 rfl rfl ?_
  refine lr_iconst (pc' := 224) (v := nI 1) C rfl dL_223 (by decide) ?_
  refine lr_iadd (pc' := 225) C rfl dL_224 ?_
  refine lr_sld (pc' := 226) C rfl dL_225 (hi 1 (by omega)) ?_
  refine lr_aload_n (pc' := 227) 0 C rfl dL_226 rfl rfl ?_
  refine lr_iload_n (pc' := 228) 3 C rfl dL_227 rfl rfl ?_
  refine lr_iconst (pc' := 229) (v := nI 2) C rfl dL_228 (by decide) ?_
  refine lr_iadd (pc' := 230) C rfl dL_229 ?_
  refine lr_sld (pc' := 231) C rfl dL_230 (hi 2 (by omega)) ?_
  refine lr_aload_n (pc' := 232) 0 C rfl dL_231 rfl rfl ?_
  refine lr_iload_n (pc' := 233) 3 C rfl dL_232 rfl rfl ?_
  refine lr_iconst (pc' := 234) (v := nI 3) C rfl dL_233 (by decide) ?_
  refine lr_iadd (pc' := 235) C rfl dL_234 ?_
  refine lr_sld (pc' := 236) C rfl dL_235 (hi 3 (by omega)) ?_
  refine lr_callV (d2 := 2) (As := [.int (xs (ix (i + nI 1))), .int (xs (ix (i + nI 2))), .int (xs (ix (i + nI 3)))]) (rest := [.int r1]) (c0 := 182) (ci := 10) 3 (pc' := 239) C rfl dL_236 cv_X10_door ml_L_22 (by decide +kernel) rfl rfl (by decide) (Nat.le_of_ble_eq_true rfl) ob_182 rfl rfl (Nat.le_of_ble_eq_true rfl) (Nat.le_of_ble_eq_true rfl) (CA.monoI h1 (fun r2 M2 h2 => ?_))
  exact lr_icmp_eq (pc' := 242) (tgt := 1335) C rfl dL_239 (by decide) (fun _ => K M2 h2.2) (fun q => absurd h2.1 q)
theorem a_2 {X : LX} {L : Nat} {xs : Nat → Int32} (C : LC X L xs) {i : Int32} (hi : ∀ j, j < 6 → vp_in (i + nI j) L) {M : Mem} (hC : Cpl M) (K : ∀ M2, Cpl M2 → LW X 210 7897 1335 [(0, .ref (bX X)), (1, .ref (BX X + 0)), (2, .ref (BX X + 182)), (3, .int i)] [] (w0 M2)) : LW X 210 7897 244 [(0, .ref (bX X)), (1, .ref (BX X + 0)), (2, .ref (BX X + 182)), (3, .int i)] [] (w0 M) := by
  refine lr_aload_n (pc' := 245) 1 C rfl dL_244 rfl rfl ?_
  refine lr_aload_n (pc' := 246) 0 C rfl dL_245 rfl rfl ?_
  refine lr_iload_n (pc' := 247) 3 C rfl dL_246 rfl rfl ?_
  refine lr_iconst (pc' := 248) (v := nI 1) C rfl dL_247 (by decide) ?_
  refine lr_iadd (pc' := 249) C rfl dL_248 ?_
  refine lr_sld (pc' := 250) C rfl dL_249 (hi 1 (by omega)) ?_
  refine lr_aload_n (pc' := 251) 0 C rfl dL_250 rfl rfl ?_
  refine lr_iload_n (pc' := 252) 3 C rfl dL_251 rfl rfl ?_
  refine lr_iconst (pc' := 253) (v := nI 2) C rfl dL_252 (by decide) ?_
  refine lr_iadd (pc' := 254) C rfl dL_253 ?_
  refine lr_sld (pc' := 255) C rfl dL_254 (hi 2 (by omega)) ?_
  refine lr_callV (d2 := 4) (As := [.int (xs (ix (i + nI 1))), .int (xs (ix (i + nI 2)))]) (rest := []) (c0 := 0) (ci := 9) 2 (pc' := 258) C rfl dL_255 cv_X9_wall ml_L_23 (by decide +kernel) rfl rfl (by decide) (Nat.le_of_ble_eq_true rfl) ob_0 rfl rfl (Nat.le_of_ble_eq_true rfl) (Nat.le_of_ble_eq_true rfl) (CA.monoI (b_wall hC (xs (ix (i + nI 1))) (xs (ix (i + nI 2)))) (fun r1 M1 h1 => ?_))
  refine lr_aload_n (pc' := 259) 2 C rfl dL_258 rfl rfl ?_
  refine lr_aload_n (pc' := 260) 0 C rfl dL_259 rfl rfl ?_
  refine lr_iload_n (pc' := 261) 3 C rfl dL_260 rfl rfl ?_
  refine lr_iconst (pc' := 262) (v := nI 1) C rfl dL_261 (by decide) ?_
  refine lr_iadd (pc' := 263) C rfl dL_262 ?_
  refine lr_sld (pc' := 264) C rfl dL_263 (hi 1 (by omega)) ?_
  refine lr_aload_n (pc' := 265) 0 C rfl dL_264 rfl rfl ?_
  refine lr_iload_n (pc' := 266) 3 C rfl dL_265 rfl rfl ?_
  refine lr_iconst (pc' := 267) (v := nI 2) C rfl dL_266 (by decide) ?_
  refine lr_iadd (pc' := 268) C rfl dL_267 ?_
  refine lr_sld (pc' := 269) C rfl dL_268 (hi 2 (by omega)) ?_
  refine lr_callV (d2 := 2) (As := [.int (xs (ix (i + nI 1))), .int (xs (ix (i + nI 2)))]) (rest := [.int r1]) (c0 := 182) (ci := 10) 2 (pc' := 272) C rfl dL_269 cv_X10_wall ml_L_27 (by decide +kernel) rfl rfl (by decide) (Nat.le_of_ble_eq_true rfl) ob_182 rfl rfl (Nat.le_of_ble_eq_true rfl) (Nat.le_of_ble_eq_true rfl) (CA.monoI h1 (fun r2 M2 h2 => ?_))
  exact lr_icmp_eq (pc' := 275) (tgt := 1335) C rfl dL_272 (by decide) (fun _ => K M2 h2.2) (fun q => absurd h2.1 q)
theorem a_3 {X : LX} {L : Nat} {xs : Nat → Int32} (C : LC X L xs) {i : Int32} (hi : ∀ j, j < 6 → vp_in (i + nI j) L) {M : Mem} (hC : Cpl M) (K : ∀ M2, Cpl M2 → LW X 210 7897 1335 [(0, .ref (bX X)), (1, .ref (BX X + 0)), (2, .ref (BX X + 182)), (3, .int i)] [] (w0 M2)) : LW X 210 7897 277 [(0, .ref (bX X)), (1, .ref (BX X + 0)), (2, .ref (BX X + 182)), (3, .int i)] [] (w0 M) := by
  refine lr_aload_n (pc' := 278) 1 C rfl dL_277 rfl rfl ?_
  refine lr_aload_n (pc' := 279) 0 C rfl dL_278 rfl rfl ?_
  refine lr_iload_n (pc' := 280) 3 C rfl dL_279 rfl rfl ?_
  refine lr_iconst (pc' := 281) (v := nI 1) C rfl dL_280 (by decide) ?_
  refine lr_iadd (pc' := 282) C rfl dL_281 ?_
  refine lr_sld (pc' := 283) C rfl dL_282 (hi 1 (by omega)) ?_
  refine lr_i2l (pc' := 284) C rfl dL_283 rfl ?_
  refine lr_bipush (pc' := 286) (v := nI 32) C rfl dL_284 (by decide) ?_
  refine lr_lshl (pc' := 287) C rfl dL_286 rfl ?_
  refine lr_aload_n (pc' := 288) 0 C rfl dL_287 rfl rfl ?_
  refine lr_iload_n (pc' := 289) 3 C rfl dL_288 rfl rfl ?_
  refine lr_iconst (pc' := 290) (v := nI 2) C rfl dL_289 (by decide) ?_
  refine lr_iadd (pc' := 291) C rfl dL_290 ?_
  refine lr_sld (pc' := 292) C rfl dL_291 (hi 2 (by omega)) ?_
  refine lr_i2l (pc' := 293) C rfl dL_292 rfl ?_
  refine lr_ldc2 (pc' := 296) C rfl dL_293 cn_L_28 ?_
  refine lr_land (pc' := 297) C rfl dL_296 ?_
  refine lr_lor (pc' := 298) C rfl dL_297 ?_
  refine lr_aload_n (pc' := 299) 0 C rfl dL_298 rfl rfl ?_
  refine lr_iload_n (pc' := 300) 3 C rfl dL_299 rfl rfl ?_
  refine lr_iconst (pc' := 301) (v := nI 3) C rfl dL_300 (by decide) ?_
  refine lr_iadd (pc' := 302) C rfl dL_301 ?_
  refine lr_sld (pc' := 303) C rfl dL_302 (hi 3 (by omega)) ?_
  refine lr_callV (d2 := 2) (As := [.long ((xs (ix (i + nI 1))).toInt64 <<< ((nI 32).toInt64 &&& 63) ||| (xs (ix (i + nI 2))).toInt64 &&& 4294967295), .int (xs (ix (i + nI 3)))]) (rest := []) (c0 := 0) (ci := 9) 2 (pc' := 306) C rfl dL_303 cv_X9_type ml_L_30 (by decide +kernel) rfl rfl (by decide) (Nat.le_of_ble_eq_true rfl) ob_0 rfl rfl (Nat.le_of_ble_eq_true rfl) (Nat.le_of_ble_eq_true rfl) (CA.monoI (b_type hC ((xs (ix (i + nI 1))).toInt64 <<< ((nI 32).toInt64 &&& 63) ||| (xs (ix (i + nI 2))).toInt64 &&& 4294967295) (xs (ix (i + nI 3)))) (fun r1 M1 h1 => ?_))
  refine lr_aload_n (pc' := 307) 2 C rfl dL_306 rfl rfl ?_
  refine lr_aload_n (pc' := 308) 0 C rfl dL_307 rfl rfl ?_
  refine lr_iload_n (pc' := 309) 3 C rfl dL_308 rfl rfl ?_
  refine lr_iconst (pc' := 310) (v := nI 1) C rfl dL_309 (by decide) ?_
  refine lr_iadd (pc' := 311) C rfl dL_310 ?_
  refine lr_sld (pc' := 312) C rfl dL_311 (hi 1 (by omega)) ?_
  refine lr_i2l (pc' := 313) C rfl dL_312 rfl ?_
  refine lr_bipush (pc' := 315) (v := nI 32) C rfl dL_313 (by decide) ?_
  refine lr_lshl (pc' := 316) C rfl dL_315 rfl ?_
  refine lr_aload_n (pc' := 317) 0 C rfl dL_316 rfl rfl ?_
  refine lr_iload_n (pc' := 318) 3 C rfl dL_317 rfl rfl ?_
  refine lr_iconst (pc' := 319) (v := nI 2) C rfl dL_318 (by decide) ?_
  refine lr_iadd (pc' := 320) C rfl dL_319 ?_
  refine lr_sld (pc' := 321) C rfl dL_320 (hi 2 (by omega)) ?_
  refine lr_i2l (pc' := 322) C rfl dL_321 rfl ?_
  refine lr_ldc2 (pc' := 325) C rfl dL_322 cn_L_28 ?_
  refine lr_land (pc' := 326) C rfl dL_325 ?_
  refine lr_lor (pc' := 327) C rfl dL_326 ?_
  refine lr_aload_n (pc' := 328) 0 C rfl dL_327 rfl rfl ?_
  refine lr_iload_n (pc' := 329) 3 C rfl dL_328 rfl rfl ?_
  refine lr_iconst (pc' := 330) (v := nI 3) C rfl dL_329 (by decide) ?_
  refine lr_iadd (pc' := 331) C rfl dL_330 ?_
  refine lr_sld (pc' := 332) C rfl dL_331 (hi 3 (by omega)) ?_
  refine lr_callV (d2 := 1) (As := [.long ((xs (ix (i + nI 1))).toInt64 <<< ((nI 32).toInt64 &&& 63) ||| (xs (ix (i + nI 2))).toInt64 &&& 4294967295), .int (xs (ix (i + nI 3)))]) (rest := [.int r1]) (c0 := 182) (ci := 10) 2 (pc' := 335) C rfl dL_332 cv_X10_type ml_L_34 (by decide +kernel) rfl rfl (by decide) (Nat.le_of_ble_eq_true rfl) ob_182 rfl rfl (Nat.le_of_ble_eq_true rfl) (Nat.le_of_ble_eq_true rfl) (CA.monoI h1 (fun r2 M2 h2 => ?_))
  exact lr_icmp_eq (pc' := 338) (tgt := 1335) C rfl dL_335 (by decide) (fun _ => K M2 h2.2) (fun q => absurd h2.1 q)
theorem a_4 {X : LX} {L : Nat} {xs : Nat → Int32} (C : LC X L xs) {i : Int32} (hi : ∀ j, j < 6 → vp_in (i + nI j) L) {M : Mem} (hC : Cpl M) (K : ∀ M2, Cpl M2 → LW X 210 7897 1335 [(0, .ref (bX X)), (1, .ref (BX X + 0)), (2, .ref (BX X + 182)), (3, .int i)] [] (w0 M2)) : LW X 210 7897 340 [(0, .ref (bX X)), (1, .ref (BX X + 0)), (2, .ref (BX X + 182)), (3, .int i)] [] (w0 M) := by
  refine lr_aload_n (pc' := 341) 1 C rfl dL_340 rfl rfl ?_
  refine lr_callV (d2 := 3) (As := []) (rest := []) (c0 := 0) (ci := 9) 0 (pc' := 344) C rfl dL_341 cv_X9_walk ml_L_35 (by decide +kernel) rfl rfl (by decide) (Nat.le_of_ble_eq_true rfl) ob_0 rfl rfl (Nat.le_of_ble_eq_true rfl) (Nat.le_of_ble_eq_true rfl) (CA.monoI (b_walk hC) (fun r1 M1 h1 => ?_))
  refine lr_aload_n (pc' := 345) 2 C rfl dL_344 rfl rfl ?_
  refine lr_callV (d2 := 3) (As := []) (rest := [.int r1]) (c0 := 182) (ci := 10) 0 (pc' := 348) C rfl dL_345 cv_X10_walk ml_L_38 (by decide +kernel) rfl rfl (by decide) (Nat.le_of_ble_eq_true rfl) ob_182 rfl rfl (Nat.le_of_ble_eq_true rfl) (Nat.le_of_ble_eq_true rfl) (CA.monoI h1 (fun r2 M2 h2 => ?_))
  exact lr_icmp_eq (pc' := 351) (tgt := 1335) C rfl dL_348 (by decide) (fun _ => K M2 h2.2) (fun q => absurd h2.1 q)
theorem a_5 {X : LX} {L : Nat} {xs : Nat → Int32} (C : LC X L xs) {i : Int32} (hi : ∀ j, j < 6 → vp_in (i + nI j) L) {M : Mem} (hC : Cpl M) (K : ∀ M2, Cpl M2 → LW X 210 7897 1335 [(0, .ref (bX X)), (1, .ref (BX X + 0)), (2, .ref (BX X + 182)), (3, .int i)] [] (w0 M2)) : LW X 210 7897 353 [(0, .ref (bX X)), (1, .ref (BX X + 0)), (2, .ref (BX X + 182)), (3, .int i)] [] (w0 M) := by
  refine lr_aload_n (pc' := 354) 1 C rfl dL_353 rfl rfl ?_
  refine lr_aload_n (pc' := 355) 0 C rfl dL_354 rfl rfl ?_
  refine lr_iload_n (pc' := 356) 3 C rfl dL_355 rfl rfl ?_
  refine lr_iconst (pc' := 357) (v := nI 1) C rfl dL_356 (by decide) ?_
  refine lr_iadd (pc' := 358) C rfl dL_357 ?_
  refine lr_sld (pc' := 359) C rfl dL_358 (hi 1 (by omega)) ?_
  refine lr_aload_n (pc' := 360) 0 C rfl dL_359 rfl rfl ?_
  refine lr_iload_n (pc' := 361) 3 C rfl dL_360 rfl rfl ?_
  refine lr_iconst (pc' := 362) (v := nI 2) C rfl dL_361 (by decide) ?_
  refine lr_iadd (pc' := 363) C rfl dL_362 ?_
  refine lr_sld (pc' := 364) C rfl dL_363 (hi 2 (by omega)) ?_
  refine lr_callV (d2 := 1) (As := [.int (xs (ix (i + nI 1))), .int (xs (ix (i + nI 2)))]) (rest := []) (c0 := 0) (ci := 9) 2 (pc' := 367) C rfl dL_364 cv_X9_guest ml_L_39 (by decide +kernel) rfl rfl (by decide) (Nat.le_of_ble_eq_true rfl) ob_0 rfl rfl (Nat.le_of_ble_eq_true rfl) (Nat.le_of_ble_eq_true rfl) (CA.monoI (b_guest hC (xs (ix (i + nI 1))) (xs (ix (i + nI 2)))) (fun r1 M1 h1 => ?_))
  refine lr_aload_n (pc' := 368) 2 C rfl dL_367 rfl rfl ?_
  refine lr_aload_n (pc' := 369) 0 C rfl dL_368 rfl rfl ?_
  refine lr_iload_n (pc' := 370) 3 C rfl dL_369 rfl rfl ?_
  refine lr_iconst (pc' := 371) (v := nI 1) C rfl dL_370 (by decide) ?_
  refine lr_iadd (pc' := 372) C rfl dL_371 ?_
  refine lr_sld (pc' := 373) C rfl dL_372 (hi 1 (by omega)) ?_
  refine lr_aload_n (pc' := 374) 0 C rfl dL_373 rfl rfl ?_
  refine lr_iload_n (pc' := 375) 3 C rfl dL_374 rfl rfl ?_
  refine lr_iconst (pc' := 376) (v := nI 2) C rfl dL_375 (by decide) ?_
  refine lr_iadd (pc' := 377) C rfl dL_376 ?_
  refine lr_sld (pc' := 378) C rfl dL_377 (hi 2 (by omega)) ?_
  refine lr_callV (d2 := 2) (As := [.int (xs (ix (i + nI 1))), .int (xs (ix (i + nI 2)))]) (rest := [.int r1]) (c0 := 182) (ci := 10) 2 (pc' := 381) C rfl dL_378 cv_X10_guest ml_L_42 (by decide +kernel) rfl rfl (by decide) (Nat.le_of_ble_eq_true rfl) ob_182 rfl rfl (Nat.le_of_ble_eq_true rfl) (Nat.le_of_ble_eq_true rfl) (CA.monoI h1 (fun r2 M2 h2 => ?_))
  exact lr_icmp_eq (pc' := 384) (tgt := 1335) C rfl dL_381 (by decide) (fun _ => K M2 h2.2) (fun q => absurd h2.1 q)
theorem a_6 {X : LX} {L : Nat} {xs : Nat → Int32} (C : LC X L xs) {i : Int32} (hi : ∀ j, j < 6 → vp_in (i + nI j) L) {M : Mem} (hC : Cpl M) (K : ∀ M2, Cpl M2 → LW X 210 7897 1335 [(0, .ref (bX X)), (1, .ref (BX X + 0)), (2, .ref (BX X + 182)), (3, .int i)] [] (w0 M2)) : LW X 210 7897 386 [(0, .ref (bX X)), (1, .ref (BX X + 0)), (2, .ref (BX X + 182)), (3, .int i)] [] (w0 M) := by
  by_cases h0 : xs (ix (i + nI 4)) = 0
  · refine lr_aload_n (pc' := 387) 1 C rfl dL_386 rfl rfl ?_
    refine lr_aload_n (pc' := 388) 0 C rfl dL_387 rfl rfl ?_
    refine lr_iload_n (pc' := 389) 3 C rfl dL_388 rfl rfl ?_
    refine lr_iconst (pc' := 390) (v := nI 1) C rfl dL_389 (by decide) ?_
    refine lr_iadd (pc' := 391) C rfl dL_390 ?_
    refine lr_sld (pc' := 392) C rfl dL_391 (hi 1 (by omega)) ?_
    refine lr_aload_n (pc' := 393) 0 C rfl dL_392 rfl rfl ?_
    refine lr_iload_n (pc' := 394) 3 C rfl dL_393 rfl rfl ?_
    refine lr_iconst (pc' := 395) (v := nI 2) C rfl dL_394 (by decide) ?_
    refine lr_iadd (pc' := 396) C rfl dL_395 ?_
    refine lr_sld (pc' := 397) C rfl dL_396 (hi 2 (by omega)) ?_
    refine lr_aload_n (pc' := 398) 0 C rfl dL_397 rfl rfl ?_
    refine lr_iload_n (pc' := 399) 3 C rfl dL_398 rfl rfl ?_
    refine lr_iconst (pc' := 400) (v := nI 3) C rfl dL_399 (by decide) ?_
    refine lr_iadd (pc' := 401) C rfl dL_400 ?_
    refine lr_sld (pc' := 402) C rfl dL_401 (hi 3 (by omega)) ?_
    refine lr_aload_n (pc' := 403) 0 C rfl dL_402 rfl rfl ?_
    refine lr_iload_n (pc' := 404) 3 C rfl dL_403 rfl rfl ?_
    refine lr_iconst (pc' := 405) (v := nI 4) C rfl dL_404 (by decide) ?_
    refine lr_iadd (pc' := 406) C rfl dL_405 ?_
    refine lr_sld (pc' := 407) C rfl dL_406 (hi 4 (by omega)) ?_
    refine lr_if_eq (pc' := 410) (tgt := 414) C rfl dL_407 (by decide) (fun _ => ?_) (fun q => absurd h0 q)
    refine lr_iconst (pc' := 415) (v := nI 0) C rfl dL_414 (by decide) ?_
    refine lr_aload_n (pc' := 416) 0 C rfl dL_415 rfl rfl ?_
    refine lr_iload_n (pc' := 417) 3 C rfl dL_416 rfl rfl ?_
    refine lr_iconst (pc' := 418) (v := nI 5) C rfl dL_417 (by decide) ?_
    refine lr_iadd (pc' := 419) C rfl dL_418 ?_
    refine lr_sld (pc' := 420) C rfl dL_419 (hi 5 (by omega)) ?_
    refine lr_callV (d2 := 4) (As := [.int (xs (ix (i + nI 1))), .int (xs (ix (i + nI 2))), .int (xs (ix (i + nI 3))), .int (bI false), .int (xs (ix (i + nI 5)))]) (rest := []) (c0 := 0) (ci := 9) 5 (pc' := 423) C rfl dL_420 cv_X9_trip ml_L_43 (by decide +kernel) rfl rfl (by decide) (Nat.le_of_ble_eq_true rfl) ob_0 rfl rfl (Nat.le_of_ble_eq_true rfl) (Nat.le_of_ble_eq_true rfl) (CA.monoI (b_trip hC (xs (ix (i + nI 1))) (xs (ix (i + nI 2))) (xs (ix (i + nI 3))) false (xs (ix (i + nI 5)))) (fun r1 M1 h1 => ?_))
    refine lr_aload_n (pc' := 424) 2 C rfl dL_423 rfl rfl ?_
    refine lr_aload_n (pc' := 425) 0 C rfl dL_424 rfl rfl ?_
    refine lr_iload_n (pc' := 426) 3 C rfl dL_425 rfl rfl ?_
    refine lr_iconst (pc' := 427) (v := nI 1) C rfl dL_426 (by decide) ?_
    refine lr_iadd (pc' := 428) C rfl dL_427 ?_
    refine lr_sld (pc' := 429) C rfl dL_428 (hi 1 (by omega)) ?_
    refine lr_aload_n (pc' := 430) 0 C rfl dL_429 rfl rfl ?_
    refine lr_iload_n (pc' := 431) 3 C rfl dL_430 rfl rfl ?_
    refine lr_iconst (pc' := 432) (v := nI 2) C rfl dL_431 (by decide) ?_
    refine lr_iadd (pc' := 433) C rfl dL_432 ?_
    refine lr_sld (pc' := 434) C rfl dL_433 (hi 2 (by omega)) ?_
    refine lr_aload_n (pc' := 435) 0 C rfl dL_434 rfl rfl ?_
    refine lr_iload_n (pc' := 436) 3 C rfl dL_435 rfl rfl ?_
    refine lr_iconst (pc' := 437) (v := nI 3) C rfl dL_436 (by decide) ?_
    refine lr_iadd (pc' := 438) C rfl dL_437 ?_
    refine lr_sld (pc' := 439) C rfl dL_438 (hi 3 (by omega)) ?_
    refine lr_aload_n (pc' := 440) 0 C rfl dL_439 rfl rfl ?_
    refine lr_iload_n (pc' := 441) 3 C rfl dL_440 rfl rfl ?_
    refine lr_iconst (pc' := 442) (v := nI 4) C rfl dL_441 (by decide) ?_
    refine lr_iadd (pc' := 443) C rfl dL_442 ?_
    refine lr_sld (pc' := 444) C rfl dL_443 (hi 4 (by omega)) ?_
    refine lr_if_eq (pc' := 447) (tgt := 451) C rfl dL_444 (by decide) (fun _ => ?_) (fun q => absurd h0 q)
    refine lr_iconst (pc' := 452) (v := nI 0) C rfl dL_451 (by decide) ?_
    refine lr_aload_n (pc' := 453) 0 C rfl dL_452 rfl rfl ?_
    refine lr_iload_n (pc' := 454) 3 C rfl dL_453 rfl rfl ?_
    refine lr_iconst (pc' := 455) (v := nI 5) C rfl dL_454 (by decide) ?_
    refine lr_iadd (pc' := 456) C rfl dL_455 ?_
    refine lr_sld (pc' := 457) C rfl dL_456 (hi 5 (by omega)) ?_
    refine lr_callV (d2 := 4) (As := [.int (xs (ix (i + nI 1))), .int (xs (ix (i + nI 2))), .int (xs (ix (i + nI 3))), .int (bI false), .int (xs (ix (i + nI 5)))]) (rest := [.int r1]) (c0 := 182) (ci := 10) 5 (pc' := 460) C rfl dL_457 cv_X10_trip ml_L_47 (by decide +kernel) rfl rfl (by decide) (Nat.le_of_ble_eq_true rfl) ob_182 rfl rfl (Nat.le_of_ble_eq_true rfl) (Nat.le_of_ble_eq_true rfl) (CA.monoI h1 (fun r2 M2 h2 => ?_))
    exact lr_icmp_eq (pc' := 463) (tgt := 1335) C rfl dL_460 (by decide) (fun _ => K M2 h2.2) (fun q => absurd h2.1 q)
  · refine lr_aload_n (pc' := 387) 1 C rfl dL_386 rfl rfl ?_
    refine lr_aload_n (pc' := 388) 0 C rfl dL_387 rfl rfl ?_
    refine lr_iload_n (pc' := 389) 3 C rfl dL_388 rfl rfl ?_
    refine lr_iconst (pc' := 390) (v := nI 1) C rfl dL_389 (by decide) ?_
    refine lr_iadd (pc' := 391) C rfl dL_390 ?_
    refine lr_sld (pc' := 392) C rfl dL_391 (hi 1 (by omega)) ?_
    refine lr_aload_n (pc' := 393) 0 C rfl dL_392 rfl rfl ?_
    refine lr_iload_n (pc' := 394) 3 C rfl dL_393 rfl rfl ?_
    refine lr_iconst (pc' := 395) (v := nI 2) C rfl dL_394 (by decide) ?_
    refine lr_iadd (pc' := 396) C rfl dL_395 ?_
    refine lr_sld (pc' := 397) C rfl dL_396 (hi 2 (by omega)) ?_
    refine lr_aload_n (pc' := 398) 0 C rfl dL_397 rfl rfl ?_
    refine lr_iload_n (pc' := 399) 3 C rfl dL_398 rfl rfl ?_
    refine lr_iconst (pc' := 400) (v := nI 3) C rfl dL_399 (by decide) ?_
    refine lr_iadd (pc' := 401) C rfl dL_400 ?_
    refine lr_sld (pc' := 402) C rfl dL_401 (hi 3 (by omega)) ?_
    refine lr_aload_n (pc' := 403) 0 C rfl dL_402 rfl rfl ?_
    refine lr_iload_n (pc' := 404) 3 C rfl dL_403 rfl rfl ?_
    refine lr_iconst (pc' := 405) (v := nI 4) C rfl dL_404 (by decide) ?_
    refine lr_iadd (pc' := 406) C rfl dL_405 ?_
    refine lr_sld (pc' := 407) C rfl dL_406 (hi 4 (by omega)) ?_
    refine lr_if_eq (pc' := 410) (tgt := 414) C rfl dL_407 (by decide) (fun q => absurd q h0) (fun _ => ?_)
    refine lr_iconst (pc' := 411) (v := nI 1) C rfl dL_410 (by decide) ?_
    refine lr_goto (tgt := 415) C dL_411 (by decide) ?_
    refine lr_aload_n (pc' := 416) 0 C rfl dL_415 rfl rfl ?_
    refine lr_iload_n (pc' := 417) 3 C rfl dL_416 rfl rfl ?_
    refine lr_iconst (pc' := 418) (v := nI 5) C rfl dL_417 (by decide) ?_
    refine lr_iadd (pc' := 419) C rfl dL_418 ?_
    refine lr_sld (pc' := 420) C rfl dL_419 (hi 5 (by omega)) ?_
    refine lr_callV (d2 := 4) (As := [.int (xs (ix (i + nI 1))), .int (xs (ix (i + nI 2))), .int (xs (ix (i + nI 3))), .int (bI true), .int (xs (ix (i + nI 5)))]) (rest := []) (c0 := 0) (ci := 9) 5 (pc' := 423) C rfl dL_420 cv_X9_trip ml_L_43 (by decide +kernel) rfl rfl (by decide) (Nat.le_of_ble_eq_true rfl) ob_0 rfl rfl (Nat.le_of_ble_eq_true rfl) (Nat.le_of_ble_eq_true rfl) (CA.monoI (b_trip hC (xs (ix (i + nI 1))) (xs (ix (i + nI 2))) (xs (ix (i + nI 3))) true (xs (ix (i + nI 5)))) (fun r1 M1 h1 => ?_))
    refine lr_aload_n (pc' := 424) 2 C rfl dL_423 rfl rfl ?_
    refine lr_aload_n (pc' := 425) 0 C rfl dL_424 rfl rfl ?_
    refine lr_iload_n (pc' := 426) 3 C rfl dL_425 rfl rfl ?_
    refine lr_iconst (pc' := 427) (v := nI 1) C rfl dL_426 (by decide) ?_
    refine lr_iadd (pc' := 428) C rfl dL_427 ?_
    refine lr_sld (pc' := 429) C rfl dL_428 (hi 1 (by omega)) ?_
    refine lr_aload_n (pc' := 430) 0 C rfl dL_429 rfl rfl ?_
    refine lr_iload_n (pc' := 431) 3 C rfl dL_430 rfl rfl ?_
    refine lr_iconst (pc' := 432) (v := nI 2) C rfl dL_431 (by decide) ?_
    refine lr_iadd (pc' := 433) C rfl dL_432 ?_
    refine lr_sld (pc' := 434) C rfl dL_433 (hi 2 (by omega)) ?_
    refine lr_aload_n (pc' := 435) 0 C rfl dL_434 rfl rfl ?_
    refine lr_iload_n (pc' := 436) 3 C rfl dL_435 rfl rfl ?_
    refine lr_iconst (pc' := 437) (v := nI 3) C rfl dL_436 (by decide) ?_
    refine lr_iadd (pc' := 438) C rfl dL_437 ?_
    refine lr_sld (pc' := 439) C rfl dL_438 (hi 3 (by omega)) ?_
    refine lr_aload_n (pc' := 440) 0 C rfl dL_439 rfl rfl ?_
    refine lr_iload_n (pc' := 441) 3 C rfl dL_440 rfl rfl ?_
    refine lr_iconst (pc' := 442) (v := nI 4) C rfl dL_441 (by decide) ?_
    refine lr_iadd (pc' := 443) C rfl dL_442 ?_
    refine lr_sld (pc' := 444) C rfl dL_443 (hi 4 (by omega)) ?_
    refine lr_if_eq (pc' := 447) (tgt := 451) C rfl dL_444 (by decide) (fun q => absurd q h0) (fun _ => ?_)
    refine lr_iconst (pc' := 448) (v := nI 1) C rfl dL_447 (by decide) ?_
    refine lr_goto (tgt := 452) C dL_448 (by decide) ?_
    refine lr_aload_n (pc' := 453) 0 C rfl dL_452 rfl rfl ?_
    refine lr_iload_n (pc' := 454) 3 C rfl dL_453 rfl rfl ?_
    refine lr_iconst (pc' := 455) (v := nI 5) C rfl dL_454 (by decide) ?_
    refine lr_iadd (pc' := 456) C rfl dL_455 ?_
    refine lr_sld (pc' := 457) C rfl dL_456 (hi 5 (by omega)) ?_
    refine lr_callV (d2 := 4) (As := [.int (xs (ix (i + nI 1))), .int (xs (ix (i + nI 2))), .int (xs (ix (i + nI 3))), .int (bI true), .int (xs (ix (i + nI 5)))]) (rest := [.int r1]) (c0 := 182) (ci := 10) 5 (pc' := 460) C rfl dL_457 cv_X10_trip ml_L_47 (by decide +kernel) rfl rfl (by decide) (Nat.le_of_ble_eq_true rfl) ob_182 rfl rfl (Nat.le_of_ble_eq_true rfl) (Nat.le_of_ble_eq_true rfl) (CA.monoI h1 (fun r2 M2 h2 => ?_))
    exact lr_icmp_eq (pc' := 463) (tgt := 1335) C rfl dL_460 (by decide) (fun _ => K M2 h2.2) (fun q => absurd h2.1 q)
theorem a_7 {X : LX} {L : Nat} {xs : Nat → Int32} (C : LC X L xs) {i : Int32} (hi : ∀ j, j < 6 → vp_in (i + nI j) L) {M : Mem} (hC : Cpl M) (K : ∀ M2, Cpl M2 → LW X 210 7897 1335 [(0, .ref (bX X)), (1, .ref (BX X + 0)), (2, .ref (BX X + 182)), (3, .int i)] [] (w0 M2)) : LW X 210 7897 465 [(0, .ref (bX X)), (1, .ref (BX X + 0)), (2, .ref (BX X + 182)), (3, .int i)] [] (w0 M) := by
  refine lr_aload_n (pc' := 466) 1 C rfl dL_465 rfl rfl ?_
  refine lr_aload_n (pc' := 467) 0 C rfl dL_466 rfl rfl ?_
  refine lr_iload_n (pc' := 468) 3 C rfl dL_467 rfl rfl ?_
  refine lr_iconst (pc' := 469) (v := nI 1) C rfl dL_468 (by decide) ?_
  refine lr_iadd (pc' := 470) C rfl dL_469 ?_
  refine lr_sld (pc' := 471) C rfl dL_470 (hi 1 (by omega)) ?_
  refine lr_callV (d2 := 1) (As := [.int (xs (ix (i + nI 1)))]) (rest := []) (c0 := 0) (ci := 9) 1 (pc' := 474) C rfl dL_471 cv_X9_servant ml_L_48 (by decide +kernel) rfl rfl (by decide) (Nat.le_of_ble_eq_true rfl) ob_0 rfl rfl (Nat.le_of_ble_eq_true rfl) (Nat.le_of_ble_eq_true rfl) (CA.monoI (b_servant hC (xs (ix (i + nI 1)))) (fun r1 M1 h1 => ?_))
  refine lr_aload_n (pc' := 475) 2 C rfl dL_474 rfl rfl ?_
  refine lr_aload_n (pc' := 476) 0 C rfl dL_475 rfl rfl ?_
  refine lr_iload_n (pc' := 477) 3 C rfl dL_476 rfl rfl ?_
  refine lr_iconst (pc' := 478) (v := nI 1) C rfl dL_477 (by decide) ?_
  refine lr_iadd (pc' := 479) C rfl dL_478 ?_
  refine lr_sld (pc' := 480) C rfl dL_479 (hi 1 (by omega)) ?_
  refine lr_callV (d2 := 2) (As := [.int (xs (ix (i + nI 1)))]) (rest := [.int r1]) (c0 := 182) (ci := 10) 1 (pc' := 483) C rfl dL_480 cv_X10_servant ml_L_52 (by decide +kernel) rfl rfl (by decide) (Nat.le_of_ble_eq_true rfl) ob_182 rfl rfl (Nat.le_of_ble_eq_true rfl) (Nat.le_of_ble_eq_true rfl) (CA.monoI h1 (fun r2 M2 h2 => ?_))
  exact lr_icmp_eq (pc' := 486) (tgt := 1335) C rfl dL_483 (by decide) (fun _ => K M2 h2.2) (fun q => absurd h2.1 q)
theorem a_8 {X : LX} {L : Nat} {xs : Nat → Int32} (C : LC X L xs) {i : Int32} (hi : ∀ j, j < 6 → vp_in (i + nI j) L) {M : Mem} (hC : Cpl M) (K : ∀ M2, Cpl M2 → LW X 210 7897 1335 [(0, .ref (bX X)), (1, .ref (BX X + 0)), (2, .ref (BX X + 182)), (3, .int i)] [] (w0 M2)) : LW X 210 7897 488 [(0, .ref (bX X)), (1, .ref (BX X + 0)), (2, .ref (BX X + 182)), (3, .int i)] [] (w0 M) := by
  by_cases h0 : xs (ix (i + nI 2)) = 0
  · refine lr_aload_n (pc' := 489) 1 C rfl dL_488 rfl rfl ?_
    refine lr_aload_n (pc' := 490) 0 C rfl dL_489 rfl rfl ?_
    refine lr_iload_n (pc' := 491) 3 C rfl dL_490 rfl rfl ?_
    refine lr_iconst (pc' := 492) (v := nI 1) C rfl dL_491 (by decide) ?_
    refine lr_iadd (pc' := 493) C rfl dL_492 ?_
    refine lr_sld (pc' := 494) C rfl dL_493 (hi 1 (by omega)) ?_
    refine lr_aload_n (pc' := 495) 0 C rfl dL_494 rfl rfl ?_
    refine lr_iload_n (pc' := 496) 3 C rfl dL_495 rfl rfl ?_
    refine lr_iconst (pc' := 497) (v := nI 2) C rfl dL_496 (by decide) ?_
    refine lr_iadd (pc' := 498) C rfl dL_497 ?_
    refine lr_sld (pc' := 499) C rfl dL_498 (hi 2 (by omega)) ?_
    refine lr_if_eq (pc' := 502) (tgt := 506) C rfl dL_499 (by decide) (fun _ => ?_) (fun q => absurd h0 q)
    refine lr_iconst (pc' := 507) (v := nI 0) C rfl dL_506 (by decide) ?_
    refine lr_callV (d2 := 1) (As := [.int (xs (ix (i + nI 1))), .int (bI false)]) (rest := []) (c0 := 0) (ci := 9) 2 (pc' := 510) C rfl dL_507 cv_X9_ill ml_L_53 (by decide +kernel) rfl rfl (by decide) (Nat.le_of_ble_eq_true rfl) ob_0 rfl rfl (Nat.le_of_ble_eq_true rfl) (Nat.le_of_ble_eq_true rfl) (CA.monoI (b_ill hC (xs (ix (i + nI 1))) false) (fun r1 M1 h1 => ?_))
    refine lr_aload_n (pc' := 511) 2 C rfl dL_510 rfl rfl ?_
    refine lr_aload_n (pc' := 512) 0 C rfl dL_511 rfl rfl ?_
    refine lr_iload_n (pc' := 513) 3 C rfl dL_512 rfl rfl ?_
    refine lr_iconst (pc' := 514) (v := nI 1) C rfl dL_513 (by decide) ?_
    refine lr_iadd (pc' := 515) C rfl dL_514 ?_
    refine lr_sld (pc' := 516) C rfl dL_515 (hi 1 (by omega)) ?_
    refine lr_aload_n (pc' := 517) 0 C rfl dL_516 rfl rfl ?_
    refine lr_iload_n (pc' := 518) 3 C rfl dL_517 rfl rfl ?_
    refine lr_iconst (pc' := 519) (v := nI 2) C rfl dL_518 (by decide) ?_
    refine lr_iadd (pc' := 520) C rfl dL_519 ?_
    refine lr_sld (pc' := 521) C rfl dL_520 (hi 2 (by omega)) ?_
    refine lr_if_eq (pc' := 524) (tgt := 528) C rfl dL_521 (by decide) (fun _ => ?_) (fun q => absurd h0 q)
    refine lr_iconst (pc' := 529) (v := nI 0) C rfl dL_528 (by decide) ?_
    refine lr_callV (d2 := 1) (As := [.int (xs (ix (i + nI 1))), .int (bI false)]) (rest := [.int r1]) (c0 := 182) (ci := 10) 2 (pc' := 532) C rfl dL_529 cv_X10_ill ml_L_57 (by decide +kernel) rfl rfl (by decide) (Nat.le_of_ble_eq_true rfl) ob_182 rfl rfl (Nat.le_of_ble_eq_true rfl) (Nat.le_of_ble_eq_true rfl) (CA.monoI h1 (fun r2 M2 h2 => ?_))
    exact lr_icmp_eq (pc' := 535) (tgt := 1335) C rfl dL_532 (by decide) (fun _ => K M2 h2.2) (fun q => absurd h2.1 q)
  · refine lr_aload_n (pc' := 489) 1 C rfl dL_488 rfl rfl ?_
    refine lr_aload_n (pc' := 490) 0 C rfl dL_489 rfl rfl ?_
    refine lr_iload_n (pc' := 491) 3 C rfl dL_490 rfl rfl ?_
    refine lr_iconst (pc' := 492) (v := nI 1) C rfl dL_491 (by decide) ?_
    refine lr_iadd (pc' := 493) C rfl dL_492 ?_
    refine lr_sld (pc' := 494) C rfl dL_493 (hi 1 (by omega)) ?_
    refine lr_aload_n (pc' := 495) 0 C rfl dL_494 rfl rfl ?_
    refine lr_iload_n (pc' := 496) 3 C rfl dL_495 rfl rfl ?_
    refine lr_iconst (pc' := 497) (v := nI 2) C rfl dL_496 (by decide) ?_
    refine lr_iadd (pc' := 498) C rfl dL_497 ?_
    refine lr_sld (pc' := 499) C rfl dL_498 (hi 2 (by omega)) ?_
    refine lr_if_eq (pc' := 502) (tgt := 506) C rfl dL_499 (by decide) (fun q => absurd q h0) (fun _ => ?_)
    refine lr_iconst (pc' := 503) (v := nI 1) C rfl dL_502 (by decide) ?_
    refine lr_goto (tgt := 507) C dL_503 (by decide) ?_
    refine lr_callV (d2 := 1) (As := [.int (xs (ix (i + nI 1))), .int (bI true)]) (rest := []) (c0 := 0) (ci := 9) 2 (pc' := 510) C rfl dL_507 cv_X9_ill ml_L_53 (by decide +kernel) rfl rfl (by decide) (Nat.le_of_ble_eq_true rfl) ob_0 rfl rfl (Nat.le_of_ble_eq_true rfl) (Nat.le_of_ble_eq_true rfl) (CA.monoI (b_ill hC (xs (ix (i + nI 1))) true) (fun r1 M1 h1 => ?_))
    refine lr_aload_n (pc' := 511) 2 C rfl dL_510 rfl rfl ?_
    refine lr_aload_n (pc' := 512) 0 C rfl dL_511 rfl rfl ?_
    refine lr_iload_n (pc' := 513) 3 C rfl dL_512 rfl rfl ?_
    refine lr_iconst (pc' := 514) (v := nI 1) C rfl dL_513 (by decide) ?_
    refine lr_iadd (pc' := 515) C rfl dL_514 ?_
    refine lr_sld (pc' := 516) C rfl dL_515 (hi 1 (by omega)) ?_
    refine lr_aload_n (pc' := 517) 0 C rfl dL_516 rfl rfl ?_
    refine lr_iload_n (pc' := 518) 3 C rfl dL_517 rfl rfl ?_
    refine lr_iconst (pc' := 519) (v := nI 2) C rfl dL_518 (by decide) ?_
    refine lr_iadd (pc' := 520) C rfl dL_519 ?_
    refine lr_sld (pc' := 521) C rfl dL_520 (hi 2 (by omega)) ?_
    refine lr_if_eq (pc' := 524) (tgt := 528) C rfl dL_521 (by decide) (fun q => absurd q h0) (fun _ => ?_)
    refine lr_iconst (pc' := 525) (v := nI 1) C rfl dL_524 (by decide) ?_
    refine lr_goto (tgt := 529) C dL_525 (by decide) ?_
    refine lr_callV (d2 := 1) (As := [.int (xs (ix (i + nI 1))), .int (bI true)]) (rest := [.int r1]) (c0 := 182) (ci := 10) 2 (pc' := 532) C rfl dL_529 cv_X10_ill ml_L_57 (by decide +kernel) rfl rfl (by decide) (Nat.le_of_ble_eq_true rfl) ob_182 rfl rfl (Nat.le_of_ble_eq_true rfl) (Nat.le_of_ble_eq_true rfl) (CA.monoI h1 (fun r2 M2 h2 => ?_))
    exact lr_icmp_eq (pc' := 535) (tgt := 1335) C rfl dL_532 (by decide) (fun _ => K M2 h2.2) (fun q => absurd h2.1 q)
theorem a_9 {X : LX} {L : Nat} {xs : Nat → Int32} (C : LC X L xs) {i : Int32} (hi : ∀ j, j < 6 → vp_in (i + nI j) L) {M : Mem} (hC : Cpl M) (K : ∀ M2, Cpl M2 → LW X 210 7897 1335 [(0, .ref (bX X)), (1, .ref (BX X + 0)), (2, .ref (BX X + 182)), (3, .int i)] [] (w0 M2)) : LW X 210 7897 537 [(0, .ref (bX X)), (1, .ref (BX X + 0)), (2, .ref (BX X + 182)), (3, .int i)] [] (w0 M) := by
  refine lr_aload_n (pc' := 538) 1 C rfl dL_537 rfl rfl ?_
  refine lr_aload_n (pc' := 539) 0 C rfl dL_538 rfl rfl ?_
  refine lr_iload_n (pc' := 540) 3 C rfl dL_539 rfl rfl ?_
  refine lr_iconst (pc' := 541) (v := nI 1) C rfl dL_540 (by decide) ?_
  refine lr_iadd (pc' := 542) C rfl dL_541 ?_
  refine lr_sld (pc' := 543) C rfl dL_542 (hi 1 (by omega)) ?_
  refine lr_callV (d2 := 1) (As := [.int (xs (ix (i + nI 1)))]) (rest := []) (c0 := 0) (ci := 9) 1 (pc' := 546) C rfl dL_543 cv_X9_cellar ml_L_58 (by decide +kernel) rfl rfl (by decide) (Nat.le_of_ble_eq_true rfl) ob_0 rfl rfl (Nat.le_of_ble_eq_true rfl) (Nat.le_of_ble_eq_true rfl) (CA.monoI (b_cellar hC (xs (ix (i + nI 1)))) (fun r1 M1 h1 => ?_))
  refine lr_aload_n (pc' := 547) 2 C rfl dL_546 rfl rfl ?_
  refine lr_aload_n (pc' := 548) 0 C rfl dL_547 rfl rfl ?_
  refine lr_iload_n (pc' := 549) 3 C rfl dL_548 rfl rfl ?_
  refine lr_iconst (pc' := 550) (v := nI 1) C rfl dL_549 (by decide) ?_
  refine lr_iadd (pc' := 551) C rfl dL_550 ?_
  refine lr_sld (pc' := 552) C rfl dL_551 (hi 1 (by omega)) ?_
  refine lr_callV (d2 := 2) (As := [.int (xs (ix (i + nI 1)))]) (rest := [.int r1]) (c0 := 182) (ci := 10) 1 (pc' := 555) C rfl dL_552 cv_X10_cellar ml_L_61 (by decide +kernel) rfl rfl (by decide) (Nat.le_of_ble_eq_true rfl) ob_182 rfl rfl (Nat.le_of_ble_eq_true rfl) (Nat.le_of_ble_eq_true rfl) (CA.monoI h1 (fun r2 M2 h2 => ?_))
  exact lr_icmp_eq (pc' := 558) (tgt := 1335) C rfl dL_555 (by decide) (fun _ => K M2 h2.2) (fun q => absurd h2.1 q)
theorem a_10 {X : LX} {L : Nat} {xs : Nat → Int32} (C : LC X L xs) {i : Int32} (hi : ∀ j, j < 6 → vp_in (i + nI j) L) {M : Mem} (hC : Cpl M) (K : ∀ M2, Cpl M2 → LW X 210 7897 1335 [(0, .ref (bX X)), (1, .ref (BX X + 0)), (2, .ref (BX X + 182)), (3, .int i)] [] (w0 M2)) : LW X 210 7897 560 [(0, .ref (bX X)), (1, .ref (BX X + 0)), (2, .ref (BX X + 182)), (3, .int i)] [] (w0 M) := by
  refine lr_aload_n (pc' := 561) 1 C rfl dL_560 rfl rfl ?_
  refine lr_aload_n (pc' := 562) 0 C rfl dL_561 rfl rfl ?_
  refine lr_iload_n (pc' := 563) 3 C rfl dL_562 rfl rfl ?_
  refine lr_iconst (pc' := 564) (v := nI 1) C rfl dL_563 (by decide) ?_
  refine lr_iadd (pc' := 565) C rfl dL_564 ?_
  refine lr_sld (pc' := 566) C rfl dL_565 (hi 1 (by omega)) ?_
  refine lr_aload_n (pc' := 567) 0 C rfl dL_566 rfl rfl ?_
  refine lr_iload_n (pc' := 568) 3 C rfl dL_567 rfl rfl ?_
  refine lr_iconst (pc' := 569) (v := nI 2) C rfl dL_568 (by decide) ?_
  refine lr_iadd (pc' := 570) C rfl dL_569 ?_
  refine lr_sld (pc' := 571) C rfl dL_570 (hi 2 (by omega)) ?_
  refine lr_aload_n (pc' := 572) 0 C rfl dL_571 rfl rfl ?_
  refine lr_iload_n (pc' := 573) 3 C rfl dL_572 rfl rfl ?_
  refine lr_iconst (pc' := 574) (v := nI 3) C rfl dL_573 (by decide) ?_
  refine lr_iadd (pc' := 575) C rfl dL_574 ?_
  refine lr_sld (pc' := 576) C rfl dL_575 (hi 3 (by omega)) ?_
  refine lr_aload_n (pc' := 577) 0 C rfl dL_576 rfl rfl ?_
  refine lr_iload_n (pc' := 578) 3 C rfl dL_577 rfl rfl ?_
  refine lr_iconst (pc' := 579) (v := nI 4) C rfl dL_578 (by decide) ?_
  refine lr_iadd (pc' := 580) C rfl dL_579 ?_
  refine lr_sld (pc' := 581) C rfl dL_580 (hi 4 (by omega)) ?_
  refine lr_aload_n (pc' := 582) 0 C rfl dL_581 rfl rfl ?_
  refine lr_iload_n (pc' := 583) 3 C rfl dL_582 rfl rfl ?_
  refine lr_iconst (pc' := 584) (v := nI 5) C rfl dL_583 (by decide) ?_
  refine lr_iadd (pc' := 585) C rfl dL_584 ?_
  refine lr_sld (pc' := 586) C rfl dL_585 (hi 5 (by omega)) ?_
  refine lr_callV (d2 := 2) (As := [.int (xs (ix (i + nI 1))), .int (xs (ix (i + nI 2))), .int (xs (ix (i + nI 3))), .int (xs (ix (i + nI 4))), .int (xs (ix (i + nI 5)))]) (rest := []) (c0 := 0) (ci := 9) 5 (pc' := 589) C rfl dL_586 cv_X9_errand ml_L_62 (by decide +kernel) rfl rfl (by decide) (Nat.le_of_ble_eq_true rfl) ob_0 rfl rfl (Nat.le_of_ble_eq_true rfl) (Nat.le_of_ble_eq_true rfl) (CA.monoI (b_errand hC (xs (ix (i + nI 1))) (xs (ix (i + nI 2))) (xs (ix (i + nI 3))) (xs (ix (i + nI 4))) (xs (ix (i + nI 5)))) (fun r1 M1 h1 => ?_))
  refine lr_aload_n (pc' := 590) 2 C rfl dL_589 rfl rfl ?_
  refine lr_aload_n (pc' := 591) 0 C rfl dL_590 rfl rfl ?_
  refine lr_iload_n (pc' := 592) 3 C rfl dL_591 rfl rfl ?_
  refine lr_iconst (pc' := 593) (v := nI 1) C rfl dL_592 (by decide) ?_
  refine lr_iadd (pc' := 594) C rfl dL_593 ?_
  refine lr_sld (pc' := 595) C rfl dL_594 (hi 1 (by omega)) ?_
  refine lr_aload_n (pc' := 596) 0 C rfl dL_595 rfl rfl ?_
  refine lr_iload_n (pc' := 597) 3 C rfl dL_596 rfl rfl ?_
  refine lr_iconst (pc' := 598) (v := nI 2) C rfl dL_597 (by decide) ?_
  refine lr_iadd (pc' := 599) C rfl dL_598 ?_
  refine lr_sld (pc' := 600) C rfl dL_599 (hi 2 (by omega)) ?_
  refine lr_aload_n (pc' := 601) 0 C rfl dL_600 rfl rfl ?_
  refine lr_iload_n (pc' := 602) 3 C rfl dL_601 rfl rfl ?_
  refine lr_iconst (pc' := 603) (v := nI 3) C rfl dL_602 (by decide) ?_
  refine lr_iadd (pc' := 604) C rfl dL_603 ?_
  refine lr_sld (pc' := 605) C rfl dL_604 (hi 3 (by omega)) ?_
  refine lr_aload_n (pc' := 606) 0 C rfl dL_605 rfl rfl ?_
  refine lr_iload_n (pc' := 607) 3 C rfl dL_606 rfl rfl ?_
  refine lr_iconst (pc' := 608) (v := nI 4) C rfl dL_607 (by decide) ?_
  refine lr_iadd (pc' := 609) C rfl dL_608 ?_
  refine lr_sld (pc' := 610) C rfl dL_609 (hi 4 (by omega)) ?_
  refine lr_aload_n (pc' := 611) 0 C rfl dL_610 rfl rfl ?_
  refine lr_iload_n (pc' := 612) 3 C rfl dL_611 rfl rfl ?_
  refine lr_iconst (pc' := 613) (v := nI 5) C rfl dL_612 (by decide) ?_
  refine lr_iadd (pc' := 614) C rfl dL_613 ?_
  refine lr_sld (pc' := 615) C rfl dL_614 (hi 5 (by omega)) ?_
  refine lr_callV (d2 := 3) (As := [.int (xs (ix (i + nI 1))), .int (xs (ix (i + nI 2))), .int (xs (ix (i + nI 3))), .int (xs (ix (i + nI 4))), .int (xs (ix (i + nI 5)))]) (rest := [.int r1]) (c0 := 182) (ci := 10) 5 (pc' := 618) C rfl dL_615 cv_X10_errand ml_L_66 (by decide +kernel) rfl rfl (by decide) (Nat.le_of_ble_eq_true rfl) ob_182 rfl rfl (Nat.le_of_ble_eq_true rfl) (Nat.le_of_ble_eq_true rfl) (CA.monoI h1 (fun r2 M2 h2 => ?_))
  exact lr_icmp_eq (pc' := 621) (tgt := 1335) C rfl dL_618 (by decide) (fun _ => K M2 h2.2) (fun q => absurd h2.1 q)
theorem a_11 {X : LX} {L : Nat} {xs : Nat → Int32} (C : LC X L xs) {i : Int32} (hi : ∀ j, j < 6 → vp_in (i + nI j) L) {M : Mem} (hC : Cpl M) (K : ∀ M2, Cpl M2 → LW X 210 7897 1335 [(0, .ref (bX X)), (1, .ref (BX X + 0)), (2, .ref (BX X + 182)), (3, .int i)] [] (w0 M2)) : LW X 210 7897 623 [(0, .ref (bX X)), (1, .ref (BX X + 0)), (2, .ref (BX X + 182)), (3, .int i)] [] (w0 M) := by
  refine lr_aload_n (pc' := 624) 1 C rfl dL_623 rfl rfl ?_
  refine lr_aload_n (pc' := 625) 0 C rfl dL_624 rfl rfl ?_
  refine lr_iload_n (pc' := 626) 3 C rfl dL_625 rfl rfl ?_
  refine lr_iconst (pc' := 627) (v := nI 1) C rfl dL_626 (by decide) ?_
  refine lr_iadd (pc' := 628) C rfl dL_627 ?_
  refine lr_sld (pc' := 629) C rfl dL_628 (hi 1 (by omega)) ?_
  refine lr_aload_n (pc' := 630) 0 C rfl dL_629 rfl rfl ?_
  refine lr_iload_n (pc' := 631) 3 C rfl dL_630 rfl rfl ?_
  refine lr_iconst (pc' := 632) (v := nI 2) C rfl dL_631 (by decide) ?_
  refine lr_iadd (pc' := 633) C rfl dL_632 ?_
  refine lr_sld (pc' := 634) C rfl dL_633 (hi 2 (by omega)) ?_
  refine lr_callV (d2 := 7) (As := [.int (xs (ix (i + nI 1))), .int (xs (ix (i + nI 2)))]) (rest := []) (c0 := 0) (ci := 9) 2 (pc' := 637) C rfl dL_634 cv_X9_told ml_L_67 (by decide +kernel) rfl rfl (by decide) (Nat.le_of_ble_eq_true rfl) ob_0 rfl rfl (Nat.le_of_ble_eq_true rfl) (Nat.le_of_ble_eq_true rfl) (CA.monoI (b_told hC (xs (ix (i + nI 1))) (xs (ix (i + nI 2)))) (fun r1 M1 h1 => ?_))
  refine lr_aload_n (pc' := 638) 2 C rfl dL_637 rfl rfl ?_
  refine lr_aload_n (pc' := 639) 0 C rfl dL_638 rfl rfl ?_
  refine lr_iload_n (pc' := 640) 3 C rfl dL_639 rfl rfl ?_
  refine lr_iconst (pc' := 641) (v := nI 1) C rfl dL_640 (by decide) ?_
  refine lr_iadd (pc' := 642) C rfl dL_641 ?_
  refine lr_sld (pc' := 643) C rfl dL_642 (hi 1 (by omega)) ?_
  refine lr_aload_n (pc' := 644) 0 C rfl dL_643 rfl rfl ?_
  refine lr_iload_n (pc' := 645) 3 C rfl dL_644 rfl rfl ?_
  refine lr_iconst (pc' := 646) (v := nI 2) C rfl dL_645 (by decide) ?_
  refine lr_iadd (pc' := 647) C rfl dL_646 ?_
  refine lr_sld (pc' := 648) C rfl dL_647 (hi 2 (by omega)) ?_
  refine lr_callV (d2 := 6) (As := [.int (xs (ix (i + nI 1))), .int (xs (ix (i + nI 2)))]) (rest := [.int r1]) (c0 := 182) (ci := 10) 2 (pc' := 651) C rfl dL_648 cv_X10_told ml_L_70 (by decide +kernel) rfl rfl (by decide) (Nat.le_of_ble_eq_true rfl) ob_182 rfl rfl (Nat.le_of_ble_eq_true rfl) (Nat.le_of_ble_eq_true rfl) (CA.monoI h1 (fun r2 M2 h2 => ?_))
  exact lr_icmp_eq (pc' := 654) (tgt := 1335) C rfl dL_651 (by decide) (fun _ => K M2 h2.2) (fun q => absurd h2.1 q)
theorem a_12 {X : LX} {L : Nat} {xs : Nat → Int32} (C : LC X L xs) {i : Int32} (hi : ∀ j, j < 6 → vp_in (i + nI j) L) {M : Mem} (hC : Cpl M) (K : ∀ M2, Cpl M2 → LW X 210 7897 1335 [(0, .ref (bX X)), (1, .ref (BX X + 0)), (2, .ref (BX X + 182)), (3, .int i)] [] (w0 M2)) : LW X 210 7897 656 [(0, .ref (bX X)), (1, .ref (BX X + 0)), (2, .ref (BX X + 182)), (3, .int i)] [] (w0 M) := by
  refine lr_aload_n (pc' := 657) 1 C rfl dL_656 rfl rfl ?_
  refine lr_aload_n (pc' := 658) 0 C rfl dL_657 rfl rfl ?_
  refine lr_iload_n (pc' := 659) 3 C rfl dL_658 rfl rfl ?_
  refine lr_iconst (pc' := 660) (v := nI 1) C rfl dL_659 (by decide) ?_
  refine lr_iadd (pc' := 661) C rfl dL_660 ?_
  refine lr_sld (pc' := 662) C rfl dL_661 (hi 1 (by omega)) ?_
  refine lr_callV (d2 := 1) (As := [.int (xs (ix (i + nI 1)))]) (rest := []) (c0 := 0) (ci := 9) 1 (pc' := 665) C rfl dL_662 cv_X9_drop ml_L_71 (by decide +kernel) rfl rfl (by decide) (Nat.le_of_ble_eq_true rfl) ob_0 rfl rfl (Nat.le_of_ble_eq_true rfl) (Nat.le_of_ble_eq_true rfl) (CA.monoI (b_drop hC (xs (ix (i + nI 1)))) (fun r1 M1 h1 => ?_))
  refine lr_aload_n (pc' := 666) 2 C rfl dL_665 rfl rfl ?_
  refine lr_aload_n (pc' := 667) 0 C rfl dL_666 rfl rfl ?_
  refine lr_iload_n (pc' := 668) 3 C rfl dL_667 rfl rfl ?_
  refine lr_iconst (pc' := 669) (v := nI 1) C rfl dL_668 (by decide) ?_
  refine lr_iadd (pc' := 670) C rfl dL_669 ?_
  refine lr_sld (pc' := 671) C rfl dL_670 (hi 1 (by omega)) ?_
  refine lr_callV (d2 := 1) (As := [.int (xs (ix (i + nI 1)))]) (rest := [.int r1]) (c0 := 182) (ci := 10) 1 (pc' := 674) C rfl dL_671 cv_X10_drop ml_L_74 (by decide +kernel) rfl rfl (by decide) (Nat.le_of_ble_eq_true rfl) ob_182 rfl rfl (Nat.le_of_ble_eq_true rfl) (Nat.le_of_ble_eq_true rfl) (CA.monoI h1 (fun r2 M2 h2 => ?_))
  exact lr_icmp_eq (pc' := 677) (tgt := 1335) C rfl dL_674 (by decide) (fun _ => K M2 h2.2) (fun q => absurd h2.1 q)
theorem a_13 {X : LX} {L : Nat} {xs : Nat → Int32} (C : LC X L xs) {i : Int32} (hi : ∀ j, j < 6 → vp_in (i + nI j) L) {M : Mem} (hC : Cpl M) (K : ∀ M2, Cpl M2 → LW X 210 7897 1335 [(0, .ref (bX X)), (1, .ref (BX X + 0)), (2, .ref (BX X + 182)), (3, .int i)] [] (w0 M2)) : LW X 210 7897 679 [(0, .ref (bX X)), (1, .ref (BX X + 0)), (2, .ref (BX X + 182)), (3, .int i)] [] (w0 M) := by
  refine lr_aload_n (pc' := 680) 1 C rfl dL_679 rfl rfl ?_
  refine lr_aload_n (pc' := 681) 0 C rfl dL_680 rfl rfl ?_
  refine lr_iload_n (pc' := 682) 3 C rfl dL_681 rfl rfl ?_
  refine lr_iconst (pc' := 683) (v := nI 1) C rfl dL_682 (by decide) ?_
  refine lr_iadd (pc' := 684) C rfl dL_683 ?_
  refine lr_sld (pc' := 685) C rfl dL_684 (hi 1 (by omega)) ?_
  refine lr_callV (d2 := 7) (As := [.int (xs (ix (i + nI 1)))]) (rest := []) (c0 := 0) (ci := 9) 1 (pc' := 688) C rfl dL_685 cv_X9_cost ml_L_75 (by decide +kernel) rfl rfl (by decide) (Nat.le_of_ble_eq_true rfl) ob_0 rfl rfl (Nat.le_of_ble_eq_true rfl) (Nat.le_of_ble_eq_true rfl) (CA.monoI (b_cost hC (xs (ix (i + nI 1)))) (fun r1 M1 h1 => ?_))
  refine lr_aload_n (pc' := 689) 2 C rfl dL_688 rfl rfl ?_
  refine lr_aload_n (pc' := 690) 0 C rfl dL_689 rfl rfl ?_
  refine lr_iload_n (pc' := 691) 3 C rfl dL_690 rfl rfl ?_
  refine lr_iconst (pc' := 692) (v := nI 1) C rfl dL_691 (by decide) ?_
  refine lr_iadd (pc' := 693) C rfl dL_692 ?_
  refine lr_sld (pc' := 694) C rfl dL_693 (hi 1 (by omega)) ?_
  refine lr_callV (d2 := 5) (As := [.int (xs (ix (i + nI 1)))]) (rest := [.int r1]) (c0 := 182) (ci := 10) 1 (pc' := 697) C rfl dL_694 cv_X10_cost ml_L_78 (by decide +kernel) rfl rfl (by decide) (Nat.le_of_ble_eq_true rfl) ob_182 rfl rfl (Nat.le_of_ble_eq_true rfl) (Nat.le_of_ble_eq_true rfl) (CA.monoI h1 (fun r2 M2 h2 => ?_))
  exact lr_icmp_eq (pc' := 700) (tgt := 1335) C rfl dL_697 (by decide) (fun _ => K M2 h2.2) (fun q => absurd h2.1 q)
theorem a_14 {X : LX} {L : Nat} {xs : Nat → Int32} (C : LC X L xs) {i : Int32} (hi : ∀ j, j < 6 → vp_in (i + nI j) L) {M : Mem} (hC : Cpl M) (K : ∀ M2, Cpl M2 → LW X 210 7897 1335 [(0, .ref (bX X)), (1, .ref (BX X + 0)), (2, .ref (BX X + 182)), (3, .int i)] [] (w0 M2)) : LW X 210 7897 702 [(0, .ref (bX X)), (1, .ref (BX X + 0)), (2, .ref (BX X + 182)), (3, .int i)] [] (w0 M) := by
  refine lr_aload_n (pc' := 703) 1 C rfl dL_702 rfl rfl ?_
  refine lr_aload_n (pc' := 704) 0 C rfl dL_703 rfl rfl ?_
  refine lr_iload_n (pc' := 705) 3 C rfl dL_704 rfl rfl ?_
  refine lr_iconst (pc' := 706) (v := nI 1) C rfl dL_705 (by decide) ?_
  refine lr_iadd (pc' := 707) C rfl dL_706 ?_
  refine lr_sld (pc' := 708) C rfl dL_707 (hi 1 (by omega)) ?_
  refine lr_aload_n (pc' := 709) 0 C rfl dL_708 rfl rfl ?_
  refine lr_iload_n (pc' := 710) 3 C rfl dL_709 rfl rfl ?_
  refine lr_iconst (pc' := 711) (v := nI 2) C rfl dL_710 (by decide) ?_
  refine lr_iadd (pc' := 712) C rfl dL_711 ?_
  refine lr_sld (pc' := 713) C rfl dL_712 (hi 2 (by omega)) ?_
  refine lr_aload_n (pc' := 714) 0 C rfl dL_713 rfl rfl ?_
  refine lr_iload_n (pc' := 715) 3 C rfl dL_714 rfl rfl ?_
  refine lr_iconst (pc' := 716) (v := nI 3) C rfl dL_715 (by decide) ?_
  refine lr_iadd (pc' := 717) C rfl dL_716 ?_
  refine lr_sld (pc' := 718) C rfl dL_717 (hi 3 (by omega)) ?_
  refine lr_callV (d2 := 7) (As := [.int (xs (ix (i + nI 1))), .int (xs (ix (i + nI 2))), .int (xs (ix (i + nI 3)))]) (rest := []) (c0 := 0) (ci := 9) 3 (pc' := 721) C rfl dL_718 cv_X9_does ml_L_79 (by decide +kernel) rfl rfl (by decide) (Nat.le_of_ble_eq_true rfl) ob_0 rfl rfl (Nat.le_of_ble_eq_true rfl) (Nat.le_of_ble_eq_true rfl) (CA.monoI (b_does hC (xs (ix (i + nI 1))) (xs (ix (i + nI 2))) (xs (ix (i + nI 3)))) (fun r1 M1 h1 => ?_))
  refine lr_aload_n (pc' := 722) 2 C rfl dL_721 rfl rfl ?_
  refine lr_aload_n (pc' := 723) 0 C rfl dL_722 rfl rfl ?_
  refine lr_iload_n (pc' := 724) 3 C rfl dL_723 rfl rfl ?_
  refine lr_iconst (pc' := 725) (v := nI 1) C rfl dL_724 (by decide) ?_
  refine lr_iadd (pc' := 726) C rfl dL_725 ?_
  refine lr_sld (pc' := 727) C rfl dL_726 (hi 1 (by omega)) ?_
  refine lr_aload_n (pc' := 728) 0 C rfl dL_727 rfl rfl ?_
  refine lr_iload_n (pc' := 729) 3 C rfl dL_728 rfl rfl ?_
  refine lr_iconst (pc' := 730) (v := nI 2) C rfl dL_729 (by decide) ?_
  refine lr_iadd (pc' := 731) C rfl dL_730 ?_
  refine lr_sld (pc' := 732) C rfl dL_731 (hi 2 (by omega)) ?_
  refine lr_aload_n (pc' := 733) 0 C rfl dL_732 rfl rfl ?_
  refine lr_iload_n (pc' := 734) 3 C rfl dL_733 rfl rfl ?_
  refine lr_iconst (pc' := 735) (v := nI 3) C rfl dL_734 (by decide) ?_
  refine lr_iadd (pc' := 736) C rfl dL_735 ?_
  refine lr_sld (pc' := 737) C rfl dL_736 (hi 3 (by omega)) ?_
  refine lr_callV (d2 := 6) (As := [.int (xs (ix (i + nI 1))), .int (xs (ix (i + nI 2))), .int (xs (ix (i + nI 3)))]) (rest := [.int r1]) (c0 := 182) (ci := 10) 3 (pc' := 740) C rfl dL_737 cv_X10_does ml_L_82 (by decide +kernel) rfl rfl (by decide) (Nat.le_of_ble_eq_true rfl) ob_182 rfl rfl (Nat.le_of_ble_eq_true rfl) (Nat.le_of_ble_eq_true rfl) (CA.monoI h1 (fun r2 M2 h2 => ?_))
  exact lr_icmp_eq (pc' := 743) (tgt := 1335) C rfl dL_740 (by decide) (fun _ => K M2 h2.2) (fun q => absurd h2.1 q)
theorem a_15 {X : LX} {L : Nat} {xs : Nat → Int32} (C : LC X L xs) {i : Int32} (hi : ∀ j, j < 6 → vp_in (i + nI j) L) {M : Mem} (hC : Cpl M) (K : ∀ M2, Cpl M2 → LW X 210 7897 1335 [(0, .ref (bX X)), (1, .ref (BX X + 0)), (2, .ref (BX X + 182)), (3, .int i)] [] (w0 M2)) : LW X 210 7897 745 [(0, .ref (bX X)), (1, .ref (BX X + 0)), (2, .ref (BX X + 182)), (3, .int i)] [] (w0 M) := by
  refine lr_aload_n (pc' := 746) 1 C rfl dL_745 rfl rfl ?_
  refine lr_callV (d2 := 7) (As := []) (rest := []) (c0 := 0) (ci := 9) 0 (pc' := 749) C rfl dL_746 cv_X9_enough ml_L_83 (by decide +kernel) rfl rfl (by decide) (Nat.le_of_ble_eq_true rfl) ob_0 rfl rfl (Nat.le_of_ble_eq_true rfl) (Nat.le_of_ble_eq_true rfl) (CA.monoI (b_enough hC) (fun r1 M1 h1 => ?_))
  refine lr_aload_n (pc' := 750) 2 C rfl dL_749 rfl rfl ?_
  refine lr_callV (d2 := 5) (As := []) (rest := [.int r1]) (c0 := 182) (ci := 10) 0 (pc' := 753) C rfl dL_750 cv_X10_enough ml_L_86 (by decide +kernel) rfl rfl (by decide) (Nat.le_of_ble_eq_true rfl) ob_182 rfl rfl (Nat.le_of_ble_eq_true rfl) (Nat.le_of_ble_eq_true rfl) (CA.monoI h1 (fun r2 M2 h2 => ?_))
  exact lr_icmp_eq (pc' := 756) (tgt := 1335) C rfl dL_753 (by decide) (fun _ => K M2 h2.2) (fun q => absurd h2.1 q)
theorem a_16 {X : LX} {L : Nat} {xs : Nat → Int32} (C : LC X L xs) {i : Int32} (hi : ∀ j, j < 6 → vp_in (i + nI j) L) {M : Mem} (hC : Cpl M) (K : ∀ M2, Cpl M2 → LW X 210 7897 1335 [(0, .ref (bX X)), (1, .ref (BX X + 0)), (2, .ref (BX X + 182)), (3, .int i)] [] (w0 M2)) : LW X 210 7897 758 [(0, .ref (bX X)), (1, .ref (BX X + 0)), (2, .ref (BX X + 182)), (3, .int i)] [] (w0 M) := by
  refine lr_aload_n (pc' := 759) 1 C rfl dL_758 rfl rfl ?_
  refine lr_aload_n (pc' := 760) 0 C rfl dL_759 rfl rfl ?_
  refine lr_iload_n (pc' := 761) 3 C rfl dL_760 rfl rfl ?_
  refine lr_iconst (pc' := 762) (v := nI 1) C rfl dL_761 (by decide) ?_
  refine lr_iadd (pc' := 763) C rfl dL_762 ?_
  refine lr_sld (pc' := 764) C rfl dL_763 (hi 1 (by omega)) ?_
  refine lr_callV (d2 := 7) (As := [.int (xs (ix (i + nI 1)))]) (rest := []) (c0 := 0) (ci := 9) 1 (pc' := 767) C rfl dL_764 cv_X9_missed ml_L_87 (by decide +kernel) rfl rfl (by decide) (Nat.le_of_ble_eq_true rfl) ob_0 rfl rfl (Nat.le_of_ble_eq_true rfl) (Nat.le_of_ble_eq_true rfl) (CA.monoI (b_missed hC (xs (ix (i + nI 1)))) (fun r1 M1 h1 => ?_))
  refine lr_aload_n (pc' := 768) 2 C rfl dL_767 rfl rfl ?_
  refine lr_aload_n (pc' := 769) 0 C rfl dL_768 rfl rfl ?_
  refine lr_iload_n (pc' := 770) 3 C rfl dL_769 rfl rfl ?_
  refine lr_iconst (pc' := 771) (v := nI 1) C rfl dL_770 (by decide) ?_
  refine lr_iadd (pc' := 772) C rfl dL_771 ?_
  refine lr_sld (pc' := 773) C rfl dL_772 (hi 1 (by omega)) ?_
  refine lr_callV (d2 := 5) (As := [.int (xs (ix (i + nI 1)))]) (rest := [.int r1]) (c0 := 182) (ci := 10) 1 (pc' := 776) C rfl dL_773 cv_X10_missed ml_L_90 (by decide +kernel) rfl rfl (by decide) (Nat.le_of_ble_eq_true rfl) ob_182 rfl rfl (Nat.le_of_ble_eq_true rfl) (Nat.le_of_ble_eq_true rfl) (CA.monoI h1 (fun r2 M2 h2 => ?_))
  exact lr_icmp_eq (pc' := 779) (tgt := 1335) C rfl dL_776 (by decide) (fun _ => K M2 h2.2) (fun q => absurd h2.1 q)
theorem a_17 {X : LX} {L : Nat} {xs : Nat → Int32} (C : LC X L xs) {i : Int32} (hi : ∀ j, j < 6 → vp_in (i + nI j) L) {M : Mem} (hC : Cpl M) (K : ∀ M2, Cpl M2 → LW X 210 7897 1335 [(0, .ref (bX X)), (1, .ref (BX X + 0)), (2, .ref (BX X + 182)), (3, .int i)] [] (w0 M2)) : LW X 210 7897 781 [(0, .ref (bX X)), (1, .ref (BX X + 0)), (2, .ref (BX X + 182)), (3, .int i)] [] (w0 M) := by
  refine lr_aload_n (pc' := 782) 1 C rfl dL_781 rfl rfl ?_
  refine lr_aload_n (pc' := 783) 0 C rfl dL_782 rfl rfl ?_
  refine lr_iload_n (pc' := 784) 3 C rfl dL_783 rfl rfl ?_
  refine lr_iconst (pc' := 785) (v := nI 1) C rfl dL_784 (by decide) ?_
  refine lr_iadd (pc' := 786) C rfl dL_785 ?_
  refine lr_sld (pc' := 787) C rfl dL_786 (hi 1 (by omega)) ?_
  refine lr_aload_n (pc' := 788) 0 C rfl dL_787 rfl rfl ?_
  refine lr_iload_n (pc' := 789) 3 C rfl dL_788 rfl rfl ?_
  refine lr_iconst (pc' := 790) (v := nI 2) C rfl dL_789 (by decide) ?_
  refine lr_iadd (pc' := 791) C rfl dL_790 ?_
  refine lr_sld (pc' := 792) C rfl dL_791 (hi 2 (by omega)) ?_
  refine lr_callV (d2 := 7) (As := [.int (xs (ix (i + nI 1))), .int (xs (ix (i + nI 2)))]) (rest := []) (c0 := 0) (ci := 9) 2 (pc' := 795) C rfl dL_792 cv_X9_opened ml_L_91 (by decide +kernel) rfl rfl (by decide) (Nat.le_of_ble_eq_true rfl) ob_0 rfl rfl (Nat.le_of_ble_eq_true rfl) (Nat.le_of_ble_eq_true rfl) (CA.monoI (b_opened hC (xs (ix (i + nI 1))) (xs (ix (i + nI 2)))) (fun r1 M1 h1 => ?_))
  refine lr_aload_n (pc' := 796) 2 C rfl dL_795 rfl rfl ?_
  refine lr_aload_n (pc' := 797) 0 C rfl dL_796 rfl rfl ?_
  refine lr_iload_n (pc' := 798) 3 C rfl dL_797 rfl rfl ?_
  refine lr_iconst (pc' := 799) (v := nI 1) C rfl dL_798 (by decide) ?_
  refine lr_iadd (pc' := 800) C rfl dL_799 ?_
  refine lr_sld (pc' := 801) C rfl dL_800 (hi 1 (by omega)) ?_
  refine lr_aload_n (pc' := 802) 0 C rfl dL_801 rfl rfl ?_
  refine lr_iload_n (pc' := 803) 3 C rfl dL_802 rfl rfl ?_
  refine lr_iconst (pc' := 804) (v := nI 2) C rfl dL_803 (by decide) ?_
  refine lr_iadd (pc' := 805) C rfl dL_804 ?_
  refine lr_sld (pc' := 806) C rfl dL_805 (hi 2 (by omega)) ?_
  refine lr_callV (d2 := 5) (As := [.int (xs (ix (i + nI 1))), .int (xs (ix (i + nI 2)))]) (rest := [.int r1]) (c0 := 182) (ci := 10) 2 (pc' := 809) C rfl dL_806 cv_X10_opened ml_L_94 (by decide +kernel) rfl rfl (by decide) (Nat.le_of_ble_eq_true rfl) ob_182 rfl rfl (Nat.le_of_ble_eq_true rfl) (Nat.le_of_ble_eq_true rfl) (CA.monoI h1 (fun r2 M2 h2 => ?_))
  exact lr_icmp_eq (pc' := 812) (tgt := 1335) C rfl dL_809 (by decide) (fun _ => K M2 h2.2) (fun q => absurd h2.1 q)
theorem a_18 {X : LX} {L : Nat} {xs : Nat → Int32} (C : LC X L xs) {i : Int32} (hi : ∀ j, j < 6 → vp_in (i + nI j) L) {M : Mem} (hC : Cpl M) (K : ∀ M2, Cpl M2 → LW X 210 7897 1335 [(0, .ref (bX X)), (1, .ref (BX X + 0)), (2, .ref (BX X + 182)), (3, .int i)] [] (w0 M2)) : LW X 210 7897 814 [(0, .ref (bX X)), (1, .ref (BX X + 0)), (2, .ref (BX X + 182)), (3, .int i)] [] (w0 M) := by
  refine lr_aload_n (pc' := 815) 1 C rfl dL_814 rfl rfl ?_
  refine lr_aload_n (pc' := 816) 0 C rfl dL_815 rfl rfl ?_
  refine lr_iload_n (pc' := 817) 3 C rfl dL_816 rfl rfl ?_
  refine lr_iconst (pc' := 818) (v := nI 1) C rfl dL_817 (by decide) ?_
  refine lr_iadd (pc' := 819) C rfl dL_818 ?_
  refine lr_sld (pc' := 820) C rfl dL_819 (hi 1 (by omega)) ?_
  refine lr_callV (d2 := 0) (As := [.int (xs (ix (i + nI 1)))]) (rest := []) (c0 := 0) (ci := 9) 1 (pc' := 823) C rfl dL_820 cv_X9_folk ml_L_95 (by decide +kernel) rfl rfl (by decide) (Nat.le_of_ble_eq_true rfl) ob_0 rfl rfl (Nat.le_of_ble_eq_true rfl) (Nat.le_of_ble_eq_true rfl) (CA.monoI (b_folk hC (xs (ix (i + nI 1)))) (fun r1 M1 h1 => ?_))
  refine lr_aload_n (pc' := 824) 2 C rfl dL_823 rfl rfl ?_
  refine lr_aload_n (pc' := 825) 0 C rfl dL_824 rfl rfl ?_
  refine lr_iload_n (pc' := 826) 3 C rfl dL_825 rfl rfl ?_
  refine lr_iconst (pc' := 827) (v := nI 1) C rfl dL_826 (by decide) ?_
  refine lr_iadd (pc' := 828) C rfl dL_827 ?_
  refine lr_sld (pc' := 829) C rfl dL_828 (hi 1 (by omega)) ?_
  refine lr_callV (d2 := 1) (As := [.int (xs (ix (i + nI 1)))]) (rest := [.int r1]) (c0 := 182) (ci := 10) 1 (pc' := 832) C rfl dL_829 cv_X10_folk ml_L_98 (by decide +kernel) rfl rfl (by decide) (Nat.le_of_ble_eq_true rfl) ob_182 rfl rfl (Nat.le_of_ble_eq_true rfl) (Nat.le_of_ble_eq_true rfl) (CA.monoI h1 (fun r2 M2 h2 => ?_))
  exact lr_icmp_eq (pc' := 835) (tgt := 1335) C rfl dL_832 (by decide) (fun _ => K M2 h2.2) (fun q => absurd h2.1 q)
theorem a_19 {X : LX} {L : Nat} {xs : Nat → Int32} (C : LC X L xs) {i : Int32} (hi : ∀ j, j < 6 → vp_in (i + nI j) L) {M : Mem} (hC : Cpl M) (K : ∀ M2, Cpl M2 → LW X 210 7897 1335 [(0, .ref (bX X)), (1, .ref (BX X + 0)), (2, .ref (BX X + 182)), (3, .int i)] [] (w0 M2)) : LW X 210 7897 837 [(0, .ref (bX X)), (1, .ref (BX X + 0)), (2, .ref (BX X + 182)), (3, .int i)] [] (w0 M) := by
  refine lr_aload_n (pc' := 838) 1 C rfl dL_837 rfl rfl ?_
  refine lr_aload_n (pc' := 839) 0 C rfl dL_838 rfl rfl ?_
  refine lr_iload_n (pc' := 840) 3 C rfl dL_839 rfl rfl ?_
  refine lr_iconst (pc' := 841) (v := nI 1) C rfl dL_840 (by decide) ?_
  refine lr_iadd (pc' := 842) C rfl dL_841 ?_
  refine lr_sld (pc' := 843) C rfl dL_842 (hi 1 (by omega)) ?_
  refine lr_aload_n (pc' := 844) 0 C rfl dL_843 rfl rfl ?_
  refine lr_iload_n (pc' := 845) 3 C rfl dL_844 rfl rfl ?_
  refine lr_iconst (pc' := 846) (v := nI 2) C rfl dL_845 (by decide) ?_
  refine lr_iadd (pc' := 847) C rfl dL_846 ?_
  refine lr_sld (pc' := 848) C rfl dL_847 (hi 2 (by omega)) ?_
  refine lr_aload_n (pc' := 849) 0 C rfl dL_848 rfl rfl ?_
  refine lr_iload_n (pc' := 850) 3 C rfl dL_849 rfl rfl ?_
  refine lr_iconst (pc' := 851) (v := nI 3) C rfl dL_850 (by decide) ?_
  refine lr_iadd (pc' := 852) C rfl dL_851 ?_
  refine lr_sld (pc' := 853) C rfl dL_852 (hi 3 (by omega)) ?_
  refine lr_aload_n (pc' := 854) 0 C rfl dL_853 rfl rfl ?_
  refine lr_iload_n (pc' := 855) 3 C rfl dL_854 rfl rfl ?_
  refine lr_iconst (pc' := 856) (v := nI 4) C rfl dL_855 (by decide) ?_
  refine lr_iadd (pc' := 857) C rfl dL_856 ?_
  refine lr_sld (pc' := 858) C rfl dL_857 (hi 4 (by omega)) ?_
  refine lr_callV (d2 := 1) (As := [.int (xs (ix (i + nI 1))), .int (xs (ix (i + nI 2))), .int (xs (ix (i + nI 3))), .int (xs (ix (i + nI 4)))]) (rest := []) (c0 := 0) (ci := 9) 4 (pc' := 861) C rfl dL_858 cv_X9_say ml_L_99 (by decide +kernel) rfl rfl (by decide) (Nat.le_of_ble_eq_true rfl) ob_0 rfl rfl (Nat.le_of_ble_eq_true rfl) (Nat.le_of_ble_eq_true rfl) (CA.monoI (b_say hC (xs (ix (i + nI 1))) (xs (ix (i + nI 2))) (xs (ix (i + nI 3))) (xs (ix (i + nI 4)))) (fun r1 M1 h1 => ?_))
  refine lr_aload_n (pc' := 862) 2 C rfl dL_861 rfl rfl ?_
  refine lr_aload_n (pc' := 863) 0 C rfl dL_862 rfl rfl ?_
  refine lr_iload_n (pc' := 864) 3 C rfl dL_863 rfl rfl ?_
  refine lr_iconst (pc' := 865) (v := nI 1) C rfl dL_864 (by decide) ?_
  refine lr_iadd (pc' := 866) C rfl dL_865 ?_
  refine lr_sld (pc' := 867) C rfl dL_866 (hi 1 (by omega)) ?_
  refine lr_aload_n (pc' := 868) 0 C rfl dL_867 rfl rfl ?_
  refine lr_iload_n (pc' := 869) 3 C rfl dL_868 rfl rfl ?_
  refine lr_iconst (pc' := 870) (v := nI 2) C rfl dL_869 (by decide) ?_
  refine lr_iadd (pc' := 871) C rfl dL_870 ?_
  refine lr_sld (pc' := 872) C rfl dL_871 (hi 2 (by omega)) ?_
  refine lr_aload_n (pc' := 873) 0 C rfl dL_872 rfl rfl ?_
  refine lr_iload_n (pc' := 874) 3 C rfl dL_873 rfl rfl ?_
  refine lr_iconst (pc' := 875) (v := nI 3) C rfl dL_874 (by decide) ?_
  refine lr_iadd (pc' := 876) C rfl dL_875 ?_
  refine lr_sld (pc' := 877) C rfl dL_876 (hi 3 (by omega)) ?_
  refine lr_aload_n (pc' := 878) 0 C rfl dL_877 rfl rfl ?_
  refine lr_iload_n (pc' := 879) 3 C rfl dL_878 rfl rfl ?_
  refine lr_iconst (pc' := 880) (v := nI 4) C rfl dL_879 (by decide) ?_
  refine lr_iadd (pc' := 881) C rfl dL_880 ?_
  refine lr_sld (pc' := 882) C rfl dL_881 (hi 4 (by omega)) ?_
  refine lr_callV (d2 := 2) (As := [.int (xs (ix (i + nI 1))), .int (xs (ix (i + nI 2))), .int (xs (ix (i + nI 3))), .int (xs (ix (i + nI 4)))]) (rest := [.int r1]) (c0 := 182) (ci := 10) 4 (pc' := 885) C rfl dL_882 cv_X10_say ml_L_103 (by decide +kernel) rfl rfl (by decide) (Nat.le_of_ble_eq_true rfl) ob_182 rfl rfl (Nat.le_of_ble_eq_true rfl) (Nat.le_of_ble_eq_true rfl) (CA.monoI h1 (fun r2 M2 h2 => ?_))
  exact lr_icmp_eq (pc' := 888) (tgt := 1335) C rfl dL_885 (by decide) (fun _ => K M2 h2.2) (fun q => absurd h2.1 q)
theorem a_20 {X : LX} {L : Nat} {xs : Nat → Int32} (C : LC X L xs) {i : Int32} (hi : ∀ j, j < 6 → vp_in (i + nI j) L) {M : Mem} (hC : Cpl M) (K : ∀ M2, Cpl M2 → LW X 210 7897 1335 [(0, .ref (bX X)), (1, .ref (BX X + 0)), (2, .ref (BX X + 182)), (3, .int i)] [] (w0 M2)) : LW X 210 7897 890 [(0, .ref (bX X)), (1, .ref (BX X + 0)), (2, .ref (BX X + 182)), (3, .int i)] [] (w0 M) := by
  refine lr_aload_n (pc' := 891) 1 C rfl dL_890 rfl rfl ?_
  refine lr_callV (d2 := 3) (As := []) (rest := []) (c0 := 0) (ci := 9) 0 (pc' := 894) C rfl dL_891 cv_X9_sayings ml_L_104 (by decide +kernel) rfl rfl (by decide) (Nat.le_of_ble_eq_true rfl) ob_0 rfl rfl (Nat.le_of_ble_eq_true rfl) (Nat.le_of_ble_eq_true rfl) (CA.monoI (b_sayings hC) (fun r1 M1 h1 => ?_))
  refine lr_aload_n (pc' := 895) 2 C rfl dL_894 rfl rfl ?_
  refine lr_callV (d2 := 2) (As := []) (rest := [.int r1]) (c0 := 182) (ci := 10) 0 (pc' := 898) C rfl dL_895 cv_X10_sayings ml_L_107 (by decide +kernel) rfl rfl (by decide) (Nat.le_of_ble_eq_true rfl) ob_182 rfl rfl (Nat.le_of_ble_eq_true rfl) (Nat.le_of_ble_eq_true rfl) (CA.monoI h1 (fun r2 M2 h2 => ?_))
  exact lr_icmp_eq (pc' := 901) (tgt := 1335) C rfl dL_898 (by decide) (fun _ => K M2 h2.2) (fun q => absurd h2.1 q)
theorem a_21 {X : LX} {L : Nat} {xs : Nat → Int32} (C : LC X L xs) {i : Int32} (hi : ∀ j, j < 6 → vp_in (i + nI j) L) {M : Mem} (hC : Cpl M) (K : ∀ M2, Cpl M2 → LW X 210 7897 1335 [(0, .ref (bX X)), (1, .ref (BX X + 0)), (2, .ref (BX X + 182)), (3, .int i)] [] (w0 M2)) : LW X 210 7897 903 [(0, .ref (bX X)), (1, .ref (BX X + 0)), (2, .ref (BX X + 182)), (3, .int i)] [] (w0 M) := by
  refine lr_aload_n (pc' := 904) 1 C rfl dL_903 rfl rfl ?_
  refine lr_aload_n (pc' := 905) 0 C rfl dL_904 rfl rfl ?_
  refine lr_iload_n (pc' := 906) 3 C rfl dL_905 rfl rfl ?_
  refine lr_iconst (pc' := 907) (v := nI 1) C rfl dL_906 (by decide) ?_
  refine lr_iadd (pc' := 908) C rfl dL_907 ?_
  refine lr_sld (pc' := 909) C rfl dL_908 (hi 1 (by omega)) ?_
  refine lr_callV (d2 := 1) (As := [.int (xs (ix (i + nI 1)))]) (rest := []) (c0 := 0) (ci := 9) 1 (pc' := 912) C rfl dL_909 cv_X9_unsay ml_L_108 (by decide +kernel) rfl rfl (by decide) (Nat.le_of_ble_eq_true rfl) ob_0 rfl rfl (Nat.le_of_ble_eq_true rfl) (Nat.le_of_ble_eq_true rfl) (CA.monoI (b_unsay hC (xs (ix (i + nI 1)))) (fun r1 M1 h1 => ?_))
  refine lr_aload_n (pc' := 913) 2 C rfl dL_912 rfl rfl ?_
  refine lr_aload_n (pc' := 914) 0 C rfl dL_913 rfl rfl ?_
  refine lr_iload_n (pc' := 915) 3 C rfl dL_914 rfl rfl ?_
  refine lr_iconst (pc' := 916) (v := nI 1) C rfl dL_915 (by decide) ?_
  refine lr_iadd (pc' := 917) C rfl dL_916 ?_
  refine lr_sld (pc' := 918) C rfl dL_917 (hi 1 (by omega)) ?_
  refine lr_callV (d2 := 1) (As := [.int (xs (ix (i + nI 1)))]) (rest := [.int r1]) (c0 := 182) (ci := 10) 1 (pc' := 921) C rfl dL_918 cv_X10_unsay ml_L_111 (by decide +kernel) rfl rfl (by decide) (Nat.le_of_ble_eq_true rfl) ob_182 rfl rfl (Nat.le_of_ble_eq_true rfl) (Nat.le_of_ble_eq_true rfl) (CA.monoI h1 (fun r2 M2 h2 => ?_))
  exact lr_icmp_eq (pc' := 924) (tgt := 1335) C rfl dL_921 (by decide) (fun _ => K M2 h2.2) (fun q => absurd h2.1 q)
theorem a_22 {X : LX} {L : Nat} {xs : Nat → Int32} (C : LC X L xs) {i : Int32} (hi : ∀ j, j < 6 → vp_in (i + nI j) L) {M : Mem} (hC : Cpl M) (K : ∀ M2, Cpl M2 → LW X 210 7897 1335 [(0, .ref (bX X)), (1, .ref (BX X + 0)), (2, .ref (BX X + 182)), (3, .int i)] [] (w0 M2)) : LW X 210 7897 926 [(0, .ref (bX X)), (1, .ref (BX X + 0)), (2, .ref (BX X + 182)), (3, .int i)] [] (w0 M) := by
  refine lr_aload_n (pc' := 927) 1 C rfl dL_926 rfl rfl ?_
  refine lr_callV (d2 := 4) (As := []) (rest := []) (c0 := 0) (ci := 9) 0 (pc' := 930) C rfl dL_927 cv_X9_liars ml_L_112 (by decide +kernel) rfl rfl (by decide) (Nat.le_of_ble_eq_true rfl) ob_0 rfl rfl (Nat.le_of_ble_eq_true rfl) (Nat.le_of_ble_eq_true rfl) (CA.monoI (b_liars hC) (fun r1 M1 h1 => ?_))
  refine lr_aload_n (pc' := 931) 2 C rfl dL_930 rfl rfl ?_
  refine lr_callV (d2 := 3) (As := []) (rest := [.int r1]) (c0 := 182) (ci := 10) 0 (pc' := 934) C rfl dL_931 cv_X10_liars ml_L_115 (by decide +kernel) rfl rfl (by decide) (Nat.le_of_ble_eq_true rfl) ob_182 rfl rfl (Nat.le_of_ble_eq_true rfl) (Nat.le_of_ble_eq_true rfl) (CA.monoI h1 (fun r2 M2 h2 => ?_))
  exact lr_icmp_eq (pc' := 937) (tgt := 1335) C rfl dL_934 (by decide) (fun _ => K M2 h2.2) (fun q => absurd h2.1 q)
theorem a_23 {X : LX} {L : Nat} {xs : Nat → Int32} (C : LC X L xs) {i : Int32} (hi : ∀ j, j < 6 → vp_in (i + nI j) L) {M : Mem} (hC : Cpl M) (K : ∀ M2, Cpl M2 → LW X 210 7897 1335 [(0, .ref (bX X)), (1, .ref (BX X + 0)), (2, .ref (BX X + 182)), (3, .int i)] [] (w0 M2)) : LW X 210 7897 939 [(0, .ref (bX X)), (1, .ref (BX X + 0)), (2, .ref (BX X + 182)), (3, .int i)] [] (w0 M) := by
  refine lr_aload_n (pc' := 940) 1 C rfl dL_939 rfl rfl ?_
  refine lr_aload_n (pc' := 941) 0 C rfl dL_940 rfl rfl ?_
  refine lr_iload_n (pc' := 942) 3 C rfl dL_941 rfl rfl ?_
  refine lr_iconst (pc' := 943) (v := nI 1) C rfl dL_942 (by decide) ?_
  refine lr_iadd (pc' := 944) C rfl dL_943 ?_
  refine lr_sld (pc' := 945) C rfl dL_944 (hi 1 (by omega)) ?_
  refine lr_aload_n (pc' := 946) 0 C rfl dL_945 rfl rfl ?_
  refine lr_iload_n (pc' := 947) 3 C rfl dL_946 rfl rfl ?_
  refine lr_iconst (pc' := 948) (v := nI 2) C rfl dL_947 (by decide) ?_
  refine lr_iadd (pc' := 949) C rfl dL_948 ?_
  refine lr_sld (pc' := 950) C rfl dL_949 (hi 2 (by omega)) ?_
  refine lr_callV (d2 := 4) (As := [.int (xs (ix (i + nI 1))), .int (xs (ix (i + nI 2)))]) (rest := []) (c0 := 0) (ci := 9) 2 (pc' := 953) C rfl dL_950 cv_X9_maybe ml_L_116 (by decide +kernel) rfl rfl (by decide) (Nat.le_of_ble_eq_true rfl) ob_0 rfl rfl (Nat.le_of_ble_eq_true rfl) (Nat.le_of_ble_eq_true rfl) (CA.monoI (b_maybe hC (xs (ix (i + nI 1))) (xs (ix (i + nI 2)))) (fun r1 M1 h1 => ?_))
  refine lr_aload_n (pc' := 954) 2 C rfl dL_953 rfl rfl ?_
  refine lr_aload_n (pc' := 955) 0 C rfl dL_954 rfl rfl ?_
  refine lr_iload_n (pc' := 956) 3 C rfl dL_955 rfl rfl ?_
  refine lr_iconst (pc' := 957) (v := nI 1) C rfl dL_956 (by decide) ?_
  refine lr_iadd (pc' := 958) C rfl dL_957 ?_
  refine lr_sld (pc' := 959) C rfl dL_958 (hi 1 (by omega)) ?_
  refine lr_aload_n (pc' := 960) 0 C rfl dL_959 rfl rfl ?_
  refine lr_iload_n (pc' := 961) 3 C rfl dL_960 rfl rfl ?_
  refine lr_iconst (pc' := 962) (v := nI 2) C rfl dL_961 (by decide) ?_
  refine lr_iadd (pc' := 963) C rfl dL_962 ?_
  refine lr_sld (pc' := 964) C rfl dL_963 (hi 2 (by omega)) ?_
  refine lr_callV (d2 := 3) (As := [.int (xs (ix (i + nI 1))), .int (xs (ix (i + nI 2)))]) (rest := [.int r1]) (c0 := 182) (ci := 10) 2 (pc' := 967) C rfl dL_964 cv_X10_maybe ml_L_119 (by decide +kernel) rfl rfl (by decide) (Nat.le_of_ble_eq_true rfl) ob_182 rfl rfl (Nat.le_of_ble_eq_true rfl) (Nat.le_of_ble_eq_true rfl) (CA.monoI h1 (fun r2 M2 h2 => ?_))
  exact lr_icmp_eq (pc' := 970) (tgt := 1335) C rfl dL_967 (by decide) (fun _ => K M2 h2.2) (fun q => absurd h2.1 q)
theorem a_24 {X : LX} {L : Nat} {xs : Nat → Int32} (C : LC X L xs) {i : Int32} (hi : ∀ j, j < 6 → vp_in (i + nI j) L) {M : Mem} (hC : Cpl M) (K : ∀ M2, Cpl M2 → LW X 210 7897 1335 [(0, .ref (bX X)), (1, .ref (BX X + 0)), (2, .ref (BX X + 182)), (3, .int i)] [] (w0 M2)) : LW X 210 7897 972 [(0, .ref (bX X)), (1, .ref (BX X + 0)), (2, .ref (BX X + 182)), (3, .int i)] [] (w0 M) := by
  refine lr_aload_n (pc' := 973) 1 C rfl dL_972 rfl rfl ?_
  refine lr_aload_n (pc' := 974) 0 C rfl dL_973 rfl rfl ?_
  refine lr_iload_n (pc' := 975) 3 C rfl dL_974 rfl rfl ?_
  refine lr_iconst (pc' := 976) (v := nI 1) C rfl dL_975 (by decide) ?_
  refine lr_iadd (pc' := 977) C rfl dL_976 ?_
  refine lr_sld (pc' := 978) C rfl dL_977 (hi 1 (by omega)) ?_
  refine lr_aload_n (pc' := 979) 0 C rfl dL_978 rfl rfl ?_
  refine lr_iload_n (pc' := 980) 3 C rfl dL_979 rfl rfl ?_
  refine lr_iconst (pc' := 981) (v := nI 2) C rfl dL_980 (by decide) ?_
  refine lr_iadd (pc' := 982) C rfl dL_981 ?_
  refine lr_sld (pc' := 983) C rfl dL_982 (hi 2 (by omega)) ?_
  refine lr_aload_n (pc' := 984) 0 C rfl dL_983 rfl rfl ?_
  refine lr_iload_n (pc' := 985) 3 C rfl dL_984 rfl rfl ?_
  refine lr_iconst (pc' := 986) (v := nI 3) C rfl dL_985 (by decide) ?_
  refine lr_iadd (pc' := 987) C rfl dL_986 ?_
  refine lr_sld (pc' := 988) C rfl dL_987 (hi 3 (by omega)) ?_
  refine lr_callV (d2 := 1) (As := [.int (xs (ix (i + nI 1))), .int (xs (ix (i + nI 2))), .int (xs (ix (i + nI 3)))]) (rest := []) (c0 := 0) (ci := 9) 3 (pc' := 991) C rfl dL_988 cv_X9_theft ml_L_120 (by decide +kernel) rfl rfl (by decide) (Nat.le_of_ble_eq_true rfl) ob_0 rfl rfl (Nat.le_of_ble_eq_true rfl) (Nat.le_of_ble_eq_true rfl) (CA.monoI (b_theft hC (xs (ix (i + nI 1))) (xs (ix (i + nI 2))) (xs (ix (i + nI 3)))) (fun r1 M1 h1 => ?_))
  refine lr_aload_n (pc' := 992) 2 C rfl dL_991 rfl rfl ?_
  refine lr_aload_n (pc' := 993) 0 C rfl dL_992 rfl rfl ?_
  refine lr_iload_n (pc' := 994) 3 C rfl dL_993 rfl rfl ?_
  refine lr_iconst (pc' := 995) (v := nI 1) C rfl dL_994 (by decide) ?_
  refine lr_iadd (pc' := 996) C rfl dL_995 ?_
  refine lr_sld (pc' := 997) C rfl dL_996 (hi 1 (by omega)) ?_
  refine lr_aload_n (pc' := 998) 0 C rfl dL_997 rfl rfl ?_
  refine lr_iload_n (pc' := 999) 3 C rfl dL_998 rfl rfl ?_
  refine lr_iconst (pc' := 1000) (v := nI 2) C rfl dL_999 (by decide) ?_
  refine lr_iadd (pc' := 1001) C rfl dL_1000 ?_
  refine lr_sld (pc' := 1002) C rfl dL_1001 (hi 2 (by omega)) ?_
  refine lr_aload_n (pc' := 1003) 0 C rfl dL_1002 rfl rfl ?_
  refine lr_iload_n (pc' := 1004) 3 C rfl dL_1003 rfl rfl ?_
  refine lr_iconst (pc' := 1005) (v := nI 3) C rfl dL_1004 (by decide) ?_
  refine lr_iadd (pc' := 1006) C rfl dL_1005 ?_
  refine lr_sld (pc' := 1007) C rfl dL_1006 (hi 3 (by omega)) ?_
  refine lr_callV (d2 := 2) (As := [.int (xs (ix (i + nI 1))), .int (xs (ix (i + nI 2))), .int (xs (ix (i + nI 3)))]) (rest := [.int r1]) (c0 := 182) (ci := 10) 3 (pc' := 1010) C rfl dL_1007 cv_X10_theft ml_L_123 (by decide +kernel) rfl rfl (by decide) (Nat.le_of_ble_eq_true rfl) ob_182 rfl rfl (Nat.le_of_ble_eq_true rfl) (Nat.le_of_ble_eq_true rfl) (CA.monoI h1 (fun r2 M2 h2 => ?_))
  exact lr_icmp_eq (pc' := 1013) (tgt := 1335) C rfl dL_1010 (by decide) (fun _ => K M2 h2.2) (fun q => absurd h2.1 q)
theorem a_25 {X : LX} {L : Nat} {xs : Nat → Int32} (C : LC X L xs) {i : Int32} (hi : ∀ j, j < 6 → vp_in (i + nI j) L) {M : Mem} (hC : Cpl M) (K : ∀ M2, Cpl M2 → LW X 210 7897 1335 [(0, .ref (bX X)), (1, .ref (BX X + 0)), (2, .ref (BX X + 182)), (3, .int i)] [] (w0 M2)) : LW X 210 7897 1015 [(0, .ref (bX X)), (1, .ref (BX X + 0)), (2, .ref (BX X + 182)), (3, .int i)] [] (w0 M) := by
  refine lr_aload_n (pc' := 1016) 1 C rfl dL_1015 rfl rfl ?_
  refine lr_callV (d2 := 4) (As := []) (rest := []) (c0 := 0) (ci := 9) 0 (pc' := 1019) C rfl dL_1016 cv_X9_suspects ml_L_124 (by decide +kernel) rfl rfl (by decide) (Nat.le_of_ble_eq_true rfl) ob_0 rfl rfl (Nat.le_of_ble_eq_true rfl) (Nat.le_of_ble_eq_true rfl) (CA.monoI (b_suspects hC) (fun r1 M1 h1 => ?_))
  refine lr_aload_n (pc' := 1020) 2 C rfl dL_1019 rfl rfl ?_
  refine lr_callV (d2 := 4) (As := []) (rest := [.int r1]) (c0 := 182) (ci := 10) 0 (pc' := 1023) C rfl dL_1020 cv_X10_suspects ml_L_127 (by decide +kernel) rfl rfl (by decide) (Nat.le_of_ble_eq_true rfl) ob_182 rfl rfl (Nat.le_of_ble_eq_true rfl) (Nat.le_of_ble_eq_true rfl) (CA.monoI h1 (fun r2 M2 h2 => ?_))
  exact lr_icmp_eq (pc' := 1026) (tgt := 1335) C rfl dL_1023 (by decide) (fun _ => K M2 h2.2) (fun q => absurd h2.1 q)
theorem a_26 {X : LX} {L : Nat} {xs : Nat → Int32} (C : LC X L xs) {i : Int32} (hi : ∀ j, j < 6 → vp_in (i + nI j) L) {M : Mem} (hC : Cpl M) (K : ∀ M2, Cpl M2 → LW X 210 7897 1335 [(0, .ref (bX X)), (1, .ref (BX X + 0)), (2, .ref (BX X + 182)), (3, .int i)] [] (w0 M2)) : LW X 210 7897 1028 [(0, .ref (bX X)), (1, .ref (BX X + 0)), (2, .ref (BX X + 182)), (3, .int i)] [] (w0 M) := by
  refine lr_aload_n (pc' := 1029) 1 C rfl dL_1028 rfl rfl ?_
  refine lr_aload_n (pc' := 1030) 0 C rfl dL_1029 rfl rfl ?_
  refine lr_iload_n (pc' := 1031) 3 C rfl dL_1030 rfl rfl ?_
  refine lr_iconst (pc' := 1032) (v := nI 1) C rfl dL_1031 (by decide) ?_
  refine lr_iadd (pc' := 1033) C rfl dL_1032 ?_
  refine lr_sld (pc' := 1034) C rfl dL_1033 (hi 1 (by omega)) ?_
  refine lr_callV (d2 := 4) (As := [.int (xs (ix (i + nI 1)))]) (rest := []) (c0 := 0) (ci := 9) 1 (pc' := 1037) C rfl dL_1034 cv_X9_clears ml_L_128 (by decide +kernel) rfl rfl (by decide) (Nat.le_of_ble_eq_true rfl) ob_0 rfl rfl (Nat.le_of_ble_eq_true rfl) (Nat.le_of_ble_eq_true rfl) (CA.monoI (b_clears hC (xs (ix (i + nI 1)))) (fun r1 M1 h1 => ?_))
  refine lr_aload_n (pc' := 1038) 2 C rfl dL_1037 rfl rfl ?_
  refine lr_aload_n (pc' := 1039) 0 C rfl dL_1038 rfl rfl ?_
  refine lr_iload_n (pc' := 1040) 3 C rfl dL_1039 rfl rfl ?_
  refine lr_iconst (pc' := 1041) (v := nI 1) C rfl dL_1040 (by decide) ?_
  refine lr_iadd (pc' := 1042) C rfl dL_1041 ?_
  refine lr_sld (pc' := 1043) C rfl dL_1042 (hi 1 (by omega)) ?_
  refine lr_callV (d2 := 4) (As := [.int (xs (ix (i + nI 1)))]) (rest := [.int r1]) (c0 := 182) (ci := 10) 1 (pc' := 1046) C rfl dL_1043 cv_X10_clears ml_L_131 (by decide +kernel) rfl rfl (by decide) (Nat.le_of_ble_eq_true rfl) ob_182 rfl rfl (Nat.le_of_ble_eq_true rfl) (Nat.le_of_ble_eq_true rfl) (CA.monoI h1 (fun r2 M2 h2 => ?_))
  exact lr_icmp_eq (pc' := 1049) (tgt := 1335) C rfl dL_1046 (by decide) (fun _ => K M2 h2.2) (fun q => absurd h2.1 q)
theorem a_27 {X : LX} {L : Nat} {xs : Nat → Int32} (C : LC X L xs) {i : Int32} (hi : ∀ j, j < 6 → vp_in (i + nI j) L) {M : Mem} (hC : Cpl M) (K : ∀ M2, Cpl M2 → LW X 210 7897 1335 [(0, .ref (bX X)), (1, .ref (BX X + 0)), (2, .ref (BX X + 182)), (3, .int i)] [] (w0 M2)) : LW X 210 7897 1051 [(0, .ref (bX X)), (1, .ref (BX X + 0)), (2, .ref (BX X + 182)), (3, .int i)] [] (w0 M) := by
  refine lr_aload_n (pc' := 1052) 1 C rfl dL_1051 rfl rfl ?_
  refine lr_aload_n (pc' := 1053) 0 C rfl dL_1052 rfl rfl ?_
  refine lr_iload_n (pc' := 1054) 3 C rfl dL_1053 rfl rfl ?_
  refine lr_iconst (pc' := 1055) (v := nI 1) C rfl dL_1054 (by decide) ?_
  refine lr_iadd (pc' := 1056) C rfl dL_1055 ?_
  refine lr_sld (pc' := 1057) C rfl dL_1056 (hi 1 (by omega)) ?_
  refine lr_callV (d2 := 1) (As := [.int (xs (ix (i + nI 1)))]) (rest := []) (c0 := 0) (ci := 9) 1 (pc' := 1060) C rfl dL_1057 cv_X9_count ml_L_132 (by decide +kernel) rfl rfl (by decide) (Nat.le_of_ble_eq_true rfl) ob_0 rfl rfl (Nat.le_of_ble_eq_true rfl) (Nat.le_of_ble_eq_true rfl) (CA.monoI (b_count hC (xs (ix (i + nI 1)))) (fun r1 M1 h1 => ?_))
  refine lr_aload_n (pc' := 1061) 2 C rfl dL_1060 rfl rfl ?_
  refine lr_aload_n (pc' := 1062) 0 C rfl dL_1061 rfl rfl ?_
  refine lr_iload_n (pc' := 1063) 3 C rfl dL_1062 rfl rfl ?_
  refine lr_iconst (pc' := 1064) (v := nI 1) C rfl dL_1063 (by decide) ?_
  refine lr_iadd (pc' := 1065) C rfl dL_1064 ?_
  refine lr_sld (pc' := 1066) C rfl dL_1065 (hi 1 (by omega)) ?_
  refine lr_callV (d2 := 1) (As := [.int (xs (ix (i + nI 1)))]) (rest := [.int r1]) (c0 := 182) (ci := 10) 1 (pc' := 1069) C rfl dL_1066 cv_X10_count ml_L_135 (by decide +kernel) rfl rfl (by decide) (Nat.le_of_ble_eq_true rfl) ob_182 rfl rfl (Nat.le_of_ble_eq_true rfl) (Nat.le_of_ble_eq_true rfl) (CA.monoI h1 (fun r2 M2 h2 => ?_))
  exact lr_icmp_eq (pc' := 1072) (tgt := 1335) C rfl dL_1069 (by decide) (fun _ => K M2 h2.2) (fun q => absurd h2.1 q)
theorem a_28 {X : LX} {L : Nat} {xs : Nat → Int32} (C : LC X L xs) {i : Int32} (hi : ∀ j, j < 6 → vp_in (i + nI j) L) {M : Mem} (hC : Cpl M) (K : ∀ M2, Cpl M2 → LW X 210 7897 1335 [(0, .ref (bX X)), (1, .ref (BX X + 0)), (2, .ref (BX X + 182)), (3, .int i)] [] (w0 M2)) : LW X 210 7897 1074 [(0, .ref (bX X)), (1, .ref (BX X + 0)), (2, .ref (BX X + 182)), (3, .int i)] [] (w0 M) := by
  refine lr_aload_n (pc' := 1075) 1 C rfl dL_1074 rfl rfl ?_
  refine lr_callV (d2 := 2) (As := []) (rest := []) (c0 := 0) (ci := 9) 0 (pc' := 1078) C rfl dL_1075 cv_X9_image ml_L_136 (by decide +kernel) rfl rfl (by decide) (Nat.le_of_ble_eq_true rfl) ob_0 rfl rfl (Nat.le_of_ble_eq_true rfl) (Nat.le_of_ble_eq_true rfl) (CA.monoI (b_image hC) (fun r1 M1 h1 => ?_))
  refine lr_aload_n (pc' := 1079) 2 C rfl dL_1078 rfl rfl ?_
  refine lr_callV (d2 := 1) (As := []) (rest := [.int r1]) (c0 := 182) (ci := 10) 0 (pc' := 1082) C rfl dL_1079 cv_X10_image ml_L_139 (by decide +kernel) rfl rfl (by decide) (Nat.le_of_ble_eq_true rfl) ob_182 rfl rfl (Nat.le_of_ble_eq_true rfl) (Nat.le_of_ble_eq_true rfl) (CA.monoI h1 (fun r2 M2 h2 => ?_))
  exact lr_icmp_eq (pc' := 1085) (tgt := 1335) C rfl dL_1082 (by decide) (fun _ => K M2 h2.2) (fun q => absurd h2.1 q)
theorem a_29 {X : LX} {L : Nat} {xs : Nat → Int32} (C : LC X L xs) {i : Int32} (hi : ∀ j, j < 6 → vp_in (i + nI j) L) {M : Mem} (hC : Cpl M) (K : ∀ M2, Cpl M2 → LW X 210 7897 1335 [(0, .ref (bX X)), (1, .ref (BX X + 0)), (2, .ref (BX X + 182)), (3, .int i)] [] (w0 M2)) : LW X 210 7897 1087 [(0, .ref (bX X)), (1, .ref (BX X + 0)), (2, .ref (BX X + 182)), (3, .int i)] [] (w0 M) := by
  refine lr_aload_n (pc' := 1088) 1 C rfl dL_1087 rfl rfl ?_
  refine lr_callV (d2 := 4) (As := []) (rest := []) (c0 := 0) (ci := 9) 0 (pc' := 1091) C rfl dL_1088 cv_X9_restore ml_L_140 (by decide +kernel) rfl rfl (by decide) (Nat.le_of_ble_eq_true rfl) ob_0 rfl rfl (Nat.le_of_ble_eq_true rfl) (Nat.le_of_ble_eq_true rfl) (CA.monoI (b_restore hC) (fun r1 M1 h1 => ?_))
  refine lr_aload_n (pc' := 1092) 2 C rfl dL_1091 rfl rfl ?_
  refine lr_callV (d2 := 1) (As := []) (rest := [.int r1]) (c0 := 182) (ci := 10) 0 (pc' := 1095) C rfl dL_1092 cv_X10_restore ml_L_143 (by decide +kernel) rfl rfl (by decide) (Nat.le_of_ble_eq_true rfl) ob_182 rfl rfl (Nat.le_of_ble_eq_true rfl) (Nat.le_of_ble_eq_true rfl) (CA.monoI h1 (fun r2 M2 h2 => ?_))
  exact lr_icmp_eq (pc' := 1098) (tgt := 1335) C rfl dL_1095 (by decide) (fun _ => K M2 h2.2) (fun q => absurd h2.1 q)
theorem a_30 {X : LX} {L : Nat} {xs : Nat → Int32} (C : LC X L xs) {i : Int32} (hi : ∀ j, j < 6 → vp_in (i + nI j) L) {M : Mem} (hC : Cpl M) (K : ∀ M2, Cpl M2 → LW X 210 7897 1335 [(0, .ref (bX X)), (1, .ref (BX X + 0)), (2, .ref (BX X + 182)), (3, .int i)] [] (w0 M2)) : LW X 210 7897 1100 [(0, .ref (bX X)), (1, .ref (BX X + 0)), (2, .ref (BX X + 182)), (3, .int i)] [] (w0 M) := by
  refine lr_aload_n (pc' := 1101) 1 C rfl dL_1100 rfl rfl ?_
  refine lr_aload_n (pc' := 1102) 0 C rfl dL_1101 rfl rfl ?_
  refine lr_iload_n (pc' := 1103) 3 C rfl dL_1102 rfl rfl ?_
  refine lr_iconst (pc' := 1104) (v := nI 1) C rfl dL_1103 (by decide) ?_
  refine lr_iadd (pc' := 1105) C rfl dL_1104 ?_
  refine lr_sld (pc' := 1106) C rfl dL_1105 (hi 1 (by omega)) ?_
  refine lr_aload_n (pc' := 1107) 0 C rfl dL_1106 rfl rfl ?_
  refine lr_iload_n (pc' := 1108) 3 C rfl dL_1107 rfl rfl ?_
  refine lr_iconst (pc' := 1109) (v := nI 2) C rfl dL_1108 (by decide) ?_
  refine lr_iadd (pc' := 1110) C rfl dL_1109 ?_
  refine lr_sld (pc' := 1111) C rfl dL_1110 (hi 2 (by omega)) ?_
  refine lr_aload_n (pc' := 1112) 0 C rfl dL_1111 rfl rfl ?_
  refine lr_iload_n (pc' := 1113) 3 C rfl dL_1112 rfl rfl ?_
  refine lr_iconst (pc' := 1114) (v := nI 3) C rfl dL_1113 (by decide) ?_
  refine lr_iadd (pc' := 1115) C rfl dL_1114 ?_
  refine lr_sld (pc' := 1116) C rfl dL_1115 (hi 3 (by omega)) ?_
  refine lr_aload_n (pc' := 1117) 0 C rfl dL_1116 rfl rfl ?_
  refine lr_iload_n (pc' := 1118) 3 C rfl dL_1117 rfl rfl ?_
  refine lr_iconst (pc' := 1119) (v := nI 4) C rfl dL_1118 (by decide) ?_
  refine lr_iadd (pc' := 1120) C rfl dL_1119 ?_
  refine lr_sld (pc' := 1121) C rfl dL_1120 (hi 4 (by omega)) ?_
  refine lr_callV (d2 := 2) (As := [.int (xs (ix (i + nI 1))), .int (xs (ix (i + nI 2))), .int (xs (ix (i + nI 3))), .int (xs (ix (i + nI 4)))]) (rest := []) (c0 := 0) (ci := 9) 4 (pc' := 1124) C rfl dL_1121 cv_X9_errands ml_L_144 (by decide +kernel) rfl rfl (by decide) (Nat.le_of_ble_eq_true rfl) ob_0 rfl rfl (Nat.le_of_ble_eq_true rfl) (Nat.le_of_ble_eq_true rfl) (CA.monoI (b_errands hC (xs (ix (i + nI 1))) (xs (ix (i + nI 2))) (xs (ix (i + nI 3))) (xs (ix (i + nI 4)))) (fun r1 M1 h1 => ?_))
  refine lr_aload_n (pc' := 1125) 2 C rfl dL_1124 rfl rfl ?_
  refine lr_aload_n (pc' := 1126) 0 C rfl dL_1125 rfl rfl ?_
  refine lr_iload_n (pc' := 1127) 3 C rfl dL_1126 rfl rfl ?_
  refine lr_iconst (pc' := 1128) (v := nI 1) C rfl dL_1127 (by decide) ?_
  refine lr_iadd (pc' := 1129) C rfl dL_1128 ?_
  refine lr_sld (pc' := 1130) C rfl dL_1129 (hi 1 (by omega)) ?_
  refine lr_aload_n (pc' := 1131) 0 C rfl dL_1130 rfl rfl ?_
  refine lr_iload_n (pc' := 1132) 3 C rfl dL_1131 rfl rfl ?_
  refine lr_iconst (pc' := 1133) (v := nI 2) C rfl dL_1132 (by decide) ?_
  refine lr_iadd (pc' := 1134) C rfl dL_1133 ?_
  refine lr_sld (pc' := 1135) C rfl dL_1134 (hi 2 (by omega)) ?_
  refine lr_aload_n (pc' := 1136) 0 C rfl dL_1135 rfl rfl ?_
  refine lr_iload_n (pc' := 1137) 3 C rfl dL_1136 rfl rfl ?_
  refine lr_iconst (pc' := 1138) (v := nI 3) C rfl dL_1137 (by decide) ?_
  refine lr_iadd (pc' := 1139) C rfl dL_1138 ?_
  refine lr_sld (pc' := 1140) C rfl dL_1139 (hi 3 (by omega)) ?_
  refine lr_aload_n (pc' := 1141) 0 C rfl dL_1140 rfl rfl ?_
  refine lr_iload_n (pc' := 1142) 3 C rfl dL_1141 rfl rfl ?_
  refine lr_iconst (pc' := 1143) (v := nI 4) C rfl dL_1142 (by decide) ?_
  refine lr_iadd (pc' := 1144) C rfl dL_1143 ?_
  refine lr_sld (pc' := 1145) C rfl dL_1144 (hi 4 (by omega)) ?_
  refine lr_callV (d2 := 3) (As := [.int (xs (ix (i + nI 1))), .int (xs (ix (i + nI 2))), .int (xs (ix (i + nI 3))), .int (xs (ix (i + nI 4)))]) (rest := [.int r1]) (c0 := 182) (ci := 10) 4 (pc' := 1148) C rfl dL_1145 cv_X10_errands ml_L_147 (by decide +kernel) rfl rfl (by decide) (Nat.le_of_ble_eq_true rfl) ob_182 rfl rfl (Nat.le_of_ble_eq_true rfl) (Nat.le_of_ble_eq_true rfl) (CA.monoI h1 (fun r2 M2 h2 => ?_))
  exact lr_icmp_eq (pc' := 1151) (tgt := 1335) C rfl dL_1148 (by decide) (fun _ => K M2 h2.2) (fun q => absurd h2.1 q)
theorem a_31 {X : LX} {L : Nat} {xs : Nat → Int32} (C : LC X L xs) {i : Int32} (hi : ∀ j, j < 6 → vp_in (i + nI j) L) {M : Mem} (hC : Cpl M) (K : ∀ M2, Cpl M2 → LW X 210 7897 1335 [(0, .ref (bX X)), (1, .ref (BX X + 0)), (2, .ref (BX X + 182)), (3, .int i)] [] (w0 M2)) : LW X 210 7897 1153 [(0, .ref (bX X)), (1, .ref (BX X + 0)), (2, .ref (BX X + 182)), (3, .int i)] [] (w0 M) := by
  refine lr_aload_n (pc' := 1154) 1 C rfl dL_1153 rfl rfl ?_
  refine lr_aload_n (pc' := 1155) 0 C rfl dL_1154 rfl rfl ?_
  refine lr_iload_n (pc' := 1156) 3 C rfl dL_1155 rfl rfl ?_
  refine lr_iconst (pc' := 1157) (v := nI 1) C rfl dL_1156 (by decide) ?_
  refine lr_iadd (pc' := 1158) C rfl dL_1157 ?_
  refine lr_sld (pc' := 1159) C rfl dL_1158 (hi 1 (by omega)) ?_
  refine lr_aload_n (pc' := 1160) 0 C rfl dL_1159 rfl rfl ?_
  refine lr_iload_n (pc' := 1161) 3 C rfl dL_1160 rfl rfl ?_
  refine lr_iconst (pc' := 1162) (v := nI 2) C rfl dL_1161 (by decide) ?_
  refine lr_iadd (pc' := 1163) C rfl dL_1162 ?_
  refine lr_sld (pc' := 1164) C rfl dL_1163 (hi 2 (by omega)) ?_
  refine lr_aload_n (pc' := 1165) 0 C rfl dL_1164 rfl rfl ?_
  refine lr_iload_n (pc' := 1166) 3 C rfl dL_1165 rfl rfl ?_
  refine lr_iconst (pc' := 1167) (v := nI 3) C rfl dL_1166 (by decide) ?_
  refine lr_iadd (pc' := 1168) C rfl dL_1167 ?_
  refine lr_sld (pc' := 1169) C rfl dL_1168 (hi 3 (by omega)) ?_
  refine lr_callV (d2 := 2) (As := [.int (xs (ix (i + nI 1))), .int (xs (ix (i + nI 2))), .int (xs (ix (i + nI 3)))]) (rest := []) (c0 := 0) (ci := 9) 3 (pc' := 1172) C rfl dL_1169 cv_X9_sheet ml_L_148 (by decide +kernel) rfl rfl (by decide) (Nat.le_of_ble_eq_true rfl) ob_0 rfl rfl (Nat.le_of_ble_eq_true rfl) (Nat.le_of_ble_eq_true rfl) (CA.monoI (b_sheet hC (xs (ix (i + nI 1))) (xs (ix (i + nI 2))) (xs (ix (i + nI 3)))) (fun r1 M1 h1 => ?_))
  refine lr_aload_n (pc' := 1173) 2 C rfl dL_1172 rfl rfl ?_
  refine lr_aload_n (pc' := 1174) 0 C rfl dL_1173 rfl rfl ?_
  refine lr_iload_n (pc' := 1175) 3 C rfl dL_1174 rfl rfl ?_
  refine lr_iconst (pc' := 1176) (v := nI 1) C rfl dL_1175 (by decide) ?_
  refine lr_iadd (pc' := 1177) C rfl dL_1176 ?_
  refine lr_sld (pc' := 1178) C rfl dL_1177 (hi 1 (by omega)) ?_
  refine lr_aload_n (pc' := 1179) 0 C rfl dL_1178 rfl rfl ?_
  refine lr_iload_n (pc' := 1180) 3 C rfl dL_1179 rfl rfl ?_
  refine lr_iconst (pc' := 1181) (v := nI 2) C rfl dL_1180 (by decide) ?_
  refine lr_iadd (pc' := 1182) C rfl dL_1181 ?_
  refine lr_sld (pc' := 1183) C rfl dL_1182 (hi 2 (by omega)) ?_
  refine lr_aload_n (pc' := 1184) 0 C rfl dL_1183 rfl rfl ?_
  refine lr_iload_n (pc' := 1185) 3 C rfl dL_1184 rfl rfl ?_
  refine lr_iconst (pc' := 1186) (v := nI 3) C rfl dL_1185 (by decide) ?_
  refine lr_iadd (pc' := 1187) C rfl dL_1186 ?_
  refine lr_sld (pc' := 1188) C rfl dL_1187 (hi 3 (by omega)) ?_
  refine lr_callV (d2 := 2) (As := [.int (xs (ix (i + nI 1))), .int (xs (ix (i + nI 2))), .int (xs (ix (i + nI 3)))]) (rest := [.int r1]) (c0 := 182) (ci := 10) 3 (pc' := 1191) C rfl dL_1188 cv_X10_sheet ml_L_151 (by decide +kernel) rfl rfl (by decide) (Nat.le_of_ble_eq_true rfl) ob_182 rfl rfl (Nat.le_of_ble_eq_true rfl) (Nat.le_of_ble_eq_true rfl) (CA.monoI h1 (fun r2 M2 h2 => ?_))
  exact lr_icmp_eq (pc' := 1194) (tgt := 1335) C rfl dL_1191 (by decide) (fun _ => K M2 h2.2) (fun q => absurd h2.1 q)
theorem a_32 {X : LX} {L : Nat} {xs : Nat → Int32} (C : LC X L xs) {i : Int32} (hi : ∀ j, j < 6 → vp_in (i + nI j) L) {M : Mem} (hC : Cpl M) (K : ∀ M2, Cpl M2 → LW X 210 7897 1335 [(0, .ref (bX X)), (1, .ref (BX X + 0)), (2, .ref (BX X + 182)), (3, .int i)] [] (w0 M2)) : LW X 210 7897 1196 [(0, .ref (bX X)), (1, .ref (BX X + 0)), (2, .ref (BX X + 182)), (3, .int i)] [] (w0 M) := by
  refine lr_aload_n (pc' := 1197) 1 C rfl dL_1196 rfl rfl ?_
  refine lr_aload_n (pc' := 1198) 0 C rfl dL_1197 rfl rfl ?_
  refine lr_iload_n (pc' := 1199) 3 C rfl dL_1198 rfl rfl ?_
  refine lr_iconst (pc' := 1200) (v := nI 1) C rfl dL_1199 (by decide) ?_
  refine lr_iadd (pc' := 1201) C rfl dL_1200 ?_
  refine lr_sld (pc' := 1202) C rfl dL_1201 (hi 1 (by omega)) ?_
  refine lr_callV (d2 := 1) (As := [.int (xs (ix (i + nI 1)))]) (rest := []) (c0 := 0) (ci := 9) 1 (pc' := 1205) C rfl dL_1202 cv_X9_empty ml_L_152 (by decide +kernel) rfl rfl (by decide) (Nat.le_of_ble_eq_true rfl) ob_0 rfl rfl (Nat.le_of_ble_eq_true rfl) (Nat.le_of_ble_eq_true rfl) (CA.monoI (b_empty hC (xs (ix (i + nI 1)))) (fun r1 M1 h1 => ?_))
  refine lr_aload_n (pc' := 1206) 2 C rfl dL_1205 rfl rfl ?_
  refine lr_aload_n (pc' := 1207) 0 C rfl dL_1206 rfl rfl ?_
  refine lr_iload_n (pc' := 1208) 3 C rfl dL_1207 rfl rfl ?_
  refine lr_iconst (pc' := 1209) (v := nI 1) C rfl dL_1208 (by decide) ?_
  refine lr_iadd (pc' := 1210) C rfl dL_1209 ?_
  refine lr_sld (pc' := 1211) C rfl dL_1210 (hi 1 (by omega)) ?_
  refine lr_callV (d2 := 2) (As := [.int (xs (ix (i + nI 1)))]) (rest := [.int r1]) (c0 := 182) (ci := 10) 1 (pc' := 1214) C rfl dL_1211 cv_X10_empty ml_L_155 (by decide +kernel) rfl rfl (by decide) (Nat.le_of_ble_eq_true rfl) ob_182 rfl rfl (Nat.le_of_ble_eq_true rfl) (Nat.le_of_ble_eq_true rfl) (CA.monoI h1 (fun r2 M2 h2 => ?_))
  exact lr_icmp_eq (pc' := 1217) (tgt := 1335) C rfl dL_1214 (by decide) (fun _ => K M2 h2.2) (fun q => absurd h2.1 q)
theorem a_33 {X : LX} {L : Nat} {xs : Nat → Int32} (C : LC X L xs) {i : Int32} (hi : ∀ j, j < 6 → vp_in (i + nI j) L) {M : Mem} (hC : Cpl M) (K : ∀ M2, Cpl M2 → LW X 210 7897 1335 [(0, .ref (bX X)), (1, .ref (BX X + 0)), (2, .ref (BX X + 182)), (3, .int i)] [] (w0 M2)) : LW X 210 7897 1219 [(0, .ref (bX X)), (1, .ref (BX X + 0)), (2, .ref (BX X + 182)), (3, .int i)] [] (w0 M) := by
  refine lr_aload_n (pc' := 1220) 1 C rfl dL_1219 rfl rfl ?_
  refine lr_aload_n (pc' := 1221) 0 C rfl dL_1220 rfl rfl ?_
  refine lr_iload_n (pc' := 1222) 3 C rfl dL_1221 rfl rfl ?_
  refine lr_iconst (pc' := 1223) (v := nI 1) C rfl dL_1222 (by decide) ?_
  refine lr_iadd (pc' := 1224) C rfl dL_1223 ?_
  refine lr_sld (pc' := 1225) C rfl dL_1224 (hi 1 (by omega)) ?_
  refine lr_aload_n (pc' := 1226) 0 C rfl dL_1225 rfl rfl ?_
  refine lr_iload_n (pc' := 1227) 3 C rfl dL_1226 rfl rfl ?_
  refine lr_iconst (pc' := 1228) (v := nI 2) C rfl dL_1227 (by decide) ?_
  refine lr_iadd (pc' := 1229) C rfl dL_1228 ?_
  refine lr_sld (pc' := 1230) C rfl dL_1229 (hi 2 (by omega)) ?_
  refine lr_aload_n (pc' := 1231) 0 C rfl dL_1230 rfl rfl ?_
  refine lr_iload_n (pc' := 1232) 3 C rfl dL_1231 rfl rfl ?_
  refine lr_iconst (pc' := 1233) (v := nI 3) C rfl dL_1232 (by decide) ?_
  refine lr_iadd (pc' := 1234) C rfl dL_1233 ?_
  refine lr_sld (pc' := 1235) C rfl dL_1234 (hi 3 (by omega)) ?_
  refine lr_aload_n (pc' := 1236) 0 C rfl dL_1235 rfl rfl ?_
  refine lr_iload_n (pc' := 1237) 3 C rfl dL_1236 rfl rfl ?_
  refine lr_iconst (pc' := 1238) (v := nI 4) C rfl dL_1237 (by decide) ?_
  refine lr_iadd (pc' := 1239) C rfl dL_1238 ?_
  refine lr_sld (pc' := 1240) C rfl dL_1239 (hi 4 (by omega)) ?_
  refine lr_callV (d2 := 1) (As := [.int (xs (ix (i + nI 1))), .int (xs (ix (i + nI 2))), .int (xs (ix (i + nI 3))), .int (xs (ix (i + nI 4)))]) (rest := []) (c0 := 0) (ci := 9) 4 (pc' := 1243) C rfl dL_1240 cv_X9_item ml_L_156 (by decide +kernel) rfl rfl (by decide) (Nat.le_of_ble_eq_true rfl) ob_0 rfl rfl (Nat.le_of_ble_eq_true rfl) (Nat.le_of_ble_eq_true rfl) (CA.monoI (b_item hC (xs (ix (i + nI 1))) (xs (ix (i + nI 2))) (xs (ix (i + nI 3))) (xs (ix (i + nI 4)))) (fun r1 M1 h1 => ?_))
  refine lr_aload_n (pc' := 1244) 2 C rfl dL_1243 rfl rfl ?_
  refine lr_aload_n (pc' := 1245) 0 C rfl dL_1244 rfl rfl ?_
  refine lr_iload_n (pc' := 1246) 3 C rfl dL_1245 rfl rfl ?_
  refine lr_iconst (pc' := 1247) (v := nI 1) C rfl dL_1246 (by decide) ?_
  refine lr_iadd (pc' := 1248) C rfl dL_1247 ?_
  refine lr_sld (pc' := 1249) C rfl dL_1248 (hi 1 (by omega)) ?_
  refine lr_aload_n (pc' := 1250) 0 C rfl dL_1249 rfl rfl ?_
  refine lr_iload_n (pc' := 1251) 3 C rfl dL_1250 rfl rfl ?_
  refine lr_iconst (pc' := 1252) (v := nI 2) C rfl dL_1251 (by decide) ?_
  refine lr_iadd (pc' := 1253) C rfl dL_1252 ?_
  refine lr_sld (pc' := 1254) C rfl dL_1253 (hi 2 (by omega)) ?_
  refine lr_aload_n (pc' := 1255) 0 C rfl dL_1254 rfl rfl ?_
  refine lr_iload_n (pc' := 1256) 3 C rfl dL_1255 rfl rfl ?_
  refine lr_iconst (pc' := 1257) (v := nI 3) C rfl dL_1256 (by decide) ?_
  refine lr_iadd (pc' := 1258) C rfl dL_1257 ?_
  refine lr_sld (pc' := 1259) C rfl dL_1258 (hi 3 (by omega)) ?_
  refine lr_aload_n (pc' := 1260) 0 C rfl dL_1259 rfl rfl ?_
  refine lr_iload_n (pc' := 1261) 3 C rfl dL_1260 rfl rfl ?_
  refine lr_iconst (pc' := 1262) (v := nI 4) C rfl dL_1261 (by decide) ?_
  refine lr_iadd (pc' := 1263) C rfl dL_1262 ?_
  refine lr_sld (pc' := 1264) C rfl dL_1263 (hi 4 (by omega)) ?_
  refine lr_callV (d2 := 2) (As := [.int (xs (ix (i + nI 1))), .int (xs (ix (i + nI 2))), .int (xs (ix (i + nI 3))), .int (xs (ix (i + nI 4)))]) (rest := [.int r1]) (c0 := 182) (ci := 10) 4 (pc' := 1267) C rfl dL_1264 cv_X10_item ml_L_159 (by decide +kernel) rfl rfl (by decide) (Nat.le_of_ble_eq_true rfl) ob_182 rfl rfl (Nat.le_of_ble_eq_true rfl) (Nat.le_of_ble_eq_true rfl) (CA.monoI h1 (fun r2 M2 h2 => ?_))
  exact lr_icmp_eq (pc' := 1270) (tgt := 1335) C rfl dL_1267 (by decide) (fun _ => K M2 h2.2) (fun q => absurd h2.1 q)
theorem a_34 {X : LX} {L : Nat} {xs : Nat → Int32} (C : LC X L xs) {i : Int32} (hi : ∀ j, j < 6 → vp_in (i + nI j) L) {M : Mem} (hC : Cpl M) (K : ∀ M2, Cpl M2 → LW X 210 7897 1335 [(0, .ref (bX X)), (1, .ref (BX X + 0)), (2, .ref (BX X + 182)), (3, .int i)] [] (w0 M2)) : LW X 210 7897 1272 [(0, .ref (bX X)), (1, .ref (BX X + 0)), (2, .ref (BX X + 182)), (3, .int i)] [] (w0 M) := by
  refine lr_aload_n (pc' := 1273) 1 C rfl dL_1272 rfl rfl ?_
  refine lr_aload_n (pc' := 1274) 0 C rfl dL_1273 rfl rfl ?_
  refine lr_iload_n (pc' := 1275) 3 C rfl dL_1274 rfl rfl ?_
  refine lr_iconst (pc' := 1276) (v := nI 1) C rfl dL_1275 (by decide) ?_
  refine lr_iadd (pc' := 1277) C rfl dL_1276 ?_
  refine lr_sld (pc' := 1278) C rfl dL_1277 (hi 1 (by omega)) ?_
  refine lr_aload_n (pc' := 1279) 0 C rfl dL_1278 rfl rfl ?_
  refine lr_iload_n (pc' := 1280) 3 C rfl dL_1279 rfl rfl ?_
  refine lr_iconst (pc' := 1281) (v := nI 2) C rfl dL_1280 (by decide) ?_
  refine lr_iadd (pc' := 1282) C rfl dL_1281 ?_
  refine lr_sld (pc' := 1283) C rfl dL_1282 (hi 2 (by omega)) ?_
  refine lr_aload_n (pc' := 1284) 0 C rfl dL_1283 rfl rfl ?_
  refine lr_iload_n (pc' := 1285) 3 C rfl dL_1284 rfl rfl ?_
  refine lr_iconst (pc' := 1286) (v := nI 3) C rfl dL_1285 (by decide) ?_
  refine lr_iadd (pc' := 1287) C rfl dL_1286 ?_
  refine lr_sld (pc' := 1288) C rfl dL_1287 (hi 3 (by omega)) ?_
  refine lr_aload_n (pc' := 1289) 0 C rfl dL_1288 rfl rfl ?_
  refine lr_iload_n (pc' := 1290) 3 C rfl dL_1289 rfl rfl ?_
  refine lr_iconst (pc' := 1291) (v := nI 4) C rfl dL_1290 (by decide) ?_
  refine lr_iadd (pc' := 1292) C rfl dL_1291 ?_
  refine lr_sld (pc' := 1293) C rfl dL_1292 (hi 4 (by omega)) ?_
  refine lr_aload_n (pc' := 1294) 0 C rfl dL_1293 rfl rfl ?_
  refine lr_iload_n (pc' := 1295) 3 C rfl dL_1294 rfl rfl ?_
  refine lr_iconst (pc' := 1296) (v := nI 5) C rfl dL_1295 (by decide) ?_
  refine lr_iadd (pc' := 1297) C rfl dL_1296 ?_
  refine lr_sld (pc' := 1298) C rfl dL_1297 (hi 5 (by omega)) ?_
  refine lr_callV (d2 := 1) (As := [.int (xs (ix (i + nI 1))), .int (xs (ix (i + nI 2))), .int (xs (ix (i + nI 3))), .int (xs (ix (i + nI 4))), .int (xs (ix (i + nI 5)))]) (rest := []) (c0 := 0) (ci := 9) 5 (pc' := 1301) C rfl dL_1298 cv_X9_copy ml_L_160 (by decide +kernel) rfl rfl (by decide) (Nat.le_of_ble_eq_true rfl) ob_0 rfl rfl (Nat.le_of_ble_eq_true rfl) (Nat.le_of_ble_eq_true rfl) (CA.monoI (b_copy hC (xs (ix (i + nI 1))) (xs (ix (i + nI 2))) (xs (ix (i + nI 3))) (xs (ix (i + nI 4))) (xs (ix (i + nI 5)))) (fun r1 M1 h1 => ?_))
  refine lr_aload_n (pc' := 1302) 2 C rfl dL_1301 rfl rfl ?_
  refine lr_aload_n (pc' := 1303) 0 C rfl dL_1302 rfl rfl ?_
  refine lr_iload_n (pc' := 1304) 3 C rfl dL_1303 rfl rfl ?_
  refine lr_iconst (pc' := 1305) (v := nI 1) C rfl dL_1304 (by decide) ?_
  refine lr_iadd (pc' := 1306) C rfl dL_1305 ?_
  refine lr_sld (pc' := 1307) C rfl dL_1306 (hi 1 (by omega)) ?_
  refine lr_aload_n (pc' := 1308) 0 C rfl dL_1307 rfl rfl ?_
  refine lr_iload_n (pc' := 1309) 3 C rfl dL_1308 rfl rfl ?_
  refine lr_iconst (pc' := 1310) (v := nI 2) C rfl dL_1309 (by decide) ?_
  refine lr_iadd (pc' := 1311) C rfl dL_1310 ?_
  refine lr_sld (pc' := 1312) C rfl dL_1311 (hi 2 (by omega)) ?_
  refine lr_aload_n (pc' := 1313) 0 C rfl dL_1312 rfl rfl ?_
  refine lr_iload_n (pc' := 1314) 3 C rfl dL_1313 rfl rfl ?_
  refine lr_iconst (pc' := 1315) (v := nI 3) C rfl dL_1314 (by decide) ?_
  refine lr_iadd (pc' := 1316) C rfl dL_1315 ?_
  refine lr_sld (pc' := 1317) C rfl dL_1316 (hi 3 (by omega)) ?_
  refine lr_aload_n (pc' := 1318) 0 C rfl dL_1317 rfl rfl ?_
  refine lr_iload_n (pc' := 1319) 3 C rfl dL_1318 rfl rfl ?_
  refine lr_iconst (pc' := 1320) (v := nI 4) C rfl dL_1319 (by decide) ?_
  refine lr_iadd (pc' := 1321) C rfl dL_1320 ?_
  refine lr_sld (pc' := 1322) C rfl dL_1321 (hi 4 (by omega)) ?_
  refine lr_aload_n (pc' := 1323) 0 C rfl dL_1322 rfl rfl ?_
  refine lr_iload_n (pc' := 1324) 3 C rfl dL_1323 rfl rfl ?_
  refine lr_iconst (pc' := 1325) (v := nI 5) C rfl dL_1324 (by decide) ?_
  refine lr_iadd (pc' := 1326) C rfl dL_1325 ?_
  refine lr_sld (pc' := 1327) C rfl dL_1326 (hi 5 (by omega)) ?_
  refine lr_callV (d2 := 2) (As := [.int (xs (ix (i + nI 1))), .int (xs (ix (i + nI 2))), .int (xs (ix (i + nI 3))), .int (xs (ix (i + nI 4))), .int (xs (ix (i + nI 5)))]) (rest := [.int r1]) (c0 := 182) (ci := 10) 5 (pc' := 1330) C rfl dL_1327 cv_X10_copy ml_L_163 (by decide +kernel) rfl rfl (by decide) (Nat.le_of_ble_eq_true rfl) ob_182 rfl rfl (Nat.le_of_ble_eq_true rfl) (Nat.le_of_ble_eq_true rfl) (CA.monoI h1 (fun r2 M2 h2 => ?_))
  exact lr_icmp_eq (pc' := 1333) (tgt := 1335) C rfl dL_1330 (by decide) (fun _ => K M2 h2.2) (fun q => absurd h2.1 q)

set_option maxHeartbeats 4000000 in
theorem t_law_b208 {G : qG} {X : qX} (hX : qOk G X "ChantryRollsLaw" code 4 ret 40) {xs : Nat → Int32} {L : Nat} (hsc : qSc G X L xs) {u : Int32} {f : Nat} {k18 : qMem → Int32 → Option (Int32)} {σ : qMem} {x3 : Int32} (hT : qLT G X u) (hk18 : ∀ (σ : qMem) (x3 : Int32), k18 σ x3 = some u → qV G X 147 4386 qKS qRF σ 18 [some (.ref 1048950), some (.ref 0), some (.ref 104), some (.int x3)] []) (h : p_law_b208 f xs L  k18 σ x3 = some u) : qV G X 147 4386 qKS qRF σ 208 [some (.ref 1048950), some (.ref 0), some (.ref 104), some (.int x3)] [] := by
  unfold p_law_b208 at h
  refine q_aload_n hX d_Law_law_208 rfl ?_
  refine q_aload_n hX d_Law_law_209 rfl ?_
  refine q_iload_n hX d_Law_law_210 rfl ?_
  refine q_iconst hX d_Law_law_211 ic_1 ?_
  refine q_iadd hX d_Law_law_212 ?_
  refine q_sldX hX hsc d_Law_law_213 h (fun hi1 h => ?_)
  refine q_aload_n hX d_Law_law_214 rfl ?_
  refine q_iload_n hX d_Law_law_215 rfl ?_
  refine q_iconst hX d_Law_law_216 ic_2 ?_
  refine q_iadd hX d_Law_law_217 ?_
  refine q_sldX hX hsc d_Law_law_218 h (fun hi2 h => ?_)
  refine q_aload_n hX d_Law_law_219 rfl ?_
  refine q_iload_n hX d_Law_law_220 rfl ?_
  refine q_iconst hX d_Law_law_221 ic_3 ?_
  refine q_iadd hX d_Law_law_222 ?_
  refine q_sldX hX hsc d_Law_law_223 h (fun hi3 h => ?_)
  obtain ⟨u4, hc5, h⟩ := qbind h
  refine q_lVr hX (c_C_sheet X.l G hX.ad f _ _ _ _ hc5) cw_Law_13 rfl kc_0 rfl (Nat.le_of_ble_eq_true rfl) rfl (Nat.le_of_ble_eq_true rfl) d_Law_law_224 hT.2.1 ?_
  refine q_aload_n hX d_Law_law_227 rfl ?_
  refine q_aload_n hX d_Law_law_228 rfl ?_
  refine q_iload_n hX d_Law_law_229 rfl ?_
  refine q_iconst hX d_Law_law_230 ic_1 ?_
  refine q_iadd hX d_Law_law_231 ?_
  refine q_sldX hX hsc d_Law_law_232 h (fun hi6 h => ?_)
  refine q_aload_n hX d_Law_law_233 rfl ?_
  refine q_iload_n hX d_Law_law_234 rfl ?_
  refine q_iconst hX d_Law_law_235 ic_2 ?_
  refine q_iadd hX d_Law_law_236 ?_
  refine q_sldX hX hsc d_Law_law_237 h (fun hi7 h => ?_)
  refine q_aload_n hX d_Law_law_238 rfl ?_
  refine q_iload_n hX d_Law_law_239 rfl ?_
  refine q_iconst hX d_Law_law_240 ic_3 ?_
  refine q_iadd hX d_Law_law_241 ?_
  refine q_sldX hX hsc d_Law_law_242 h (fun hi8 h => ?_)
  obtain ⟨u9, hc10, h⟩ := qbind h
  refine q_lVr hX (c_M_sheet X.l G hX.ad f _ _ _ _ hc10) cw_Law_17 rfl kc_104 rfl (Nat.le_of_ble_eq_true rfl) rfl (Nat.le_of_ble_eq_true rfl) d_Law_law_243 hT.2.1 ?_
  refine q_icmp_eq hX d_Law_law_246 rfl h (fun _ h => ?_) (fun _ h => ?_)
  · refine q_iinc hX d_Law_law_1618 rfl (ii_6 _) (by decide) rfl rfl ?_
    refine q_goto hX d_Law_law_1621 rfl ?_
    exact q_mask [true, true, true, true] rfl (hk18 _ _ h)
  · refine q_iconst hX d_Law_law_249 ic_0 ?_
    exact q_lawret hX hT h d_Law_law_250
set_option maxHeartbeats 4000000 in
theorem t_law_b251 {G : qG} {X : qX} (hX : qOk G X "ChantryRollsLaw" code 4 ret 40) {xs : Nat → Int32} {L : Nat} (hsc : qSc G X L xs) {u : Int32} {f : Nat} {k18 : qMem → Int32 → Option (Int32)} {σ : qMem} {x3 : Int32} (hT : qLT G X u) (hk18 : ∀ (σ : qMem) (x3 : Int32), k18 σ x3 = some u → qV G X 147 4386 qKS qRF σ 18 [some (.ref 1048950), some (.ref 0), some (.ref 104), some (.int x3)] []) (h : p_law_b251 f xs L  k18 σ x3 = some u) : qV G X 147 4386 qKS qRF σ 251 [some (.ref 1048950), some (.ref 0), some (.ref 104), some (.int x3)] [] := by
  unfold p_law_b251 at h
  refine q_aload_n hX d_Law_law_251 rfl ?_
  refine q_aload_n hX d_Law_law_252 rfl ?_
  refine q_iload_n hX d_Law_law_253 rfl ?_
  refine q_iconst hX d_Law_law_254 ic_1 ?_
  refine q_iadd hX d_Law_law_255 ?_
  refine q_sldX hX hsc d_Law_law_256 h (fun hi11 h => ?_)
  refine q_aload_n hX d_Law_law_257 rfl ?_
  refine q_iload_n hX d_Law_law_258 rfl ?_
  refine q_iconst hX d_Law_law_259 ic_2 ?_
  refine q_iadd hX d_Law_law_260 ?_
  refine q_sldX hX hsc d_Law_law_261 h (fun hi12 h => ?_)
  refine q_aload_n hX d_Law_law_262 rfl ?_
  refine q_iload_n hX d_Law_law_263 rfl ?_
  refine q_iconst hX d_Law_law_264 ic_3 ?_
  refine q_iadd hX d_Law_law_265 ?_
  refine q_sldX hX hsc d_Law_law_266 h (fun hi13 h => ?_)
  obtain ⟨u14, hc15, h⟩ := qbind h
  refine q_lVr hX (c_C_set X.l G hX.ad f _ _ _ _ hc15) cw_Law_18 rfl kc_0 rfl (Nat.le_of_ble_eq_true rfl) rfl (Nat.le_of_ble_eq_true rfl) d_Law_law_267 hT.2.1 ?_
  refine q_aload_n hX d_Law_law_270 rfl ?_
  refine q_aload_n hX d_Law_law_271 rfl ?_
  refine q_iload_n hX d_Law_law_272 rfl ?_
  refine q_iconst hX d_Law_law_273 ic_1 ?_
  refine q_iadd hX d_Law_law_274 ?_
  refine q_sldX hX hsc d_Law_law_275 h (fun hi16 h => ?_)
  refine q_aload_n hX d_Law_law_276 rfl ?_
  refine q_iload_n hX d_Law_law_277 rfl ?_
  refine q_iconst hX d_Law_law_278 ic_2 ?_
  refine q_iadd hX d_Law_law_279 ?_
  refine q_sldX hX hsc d_Law_law_280 h (fun hi17 h => ?_)
  refine q_aload_n hX d_Law_law_281 rfl ?_
  refine q_iload_n hX d_Law_law_282 rfl ?_
  refine q_iconst hX d_Law_law_283 ic_3 ?_
  refine q_iadd hX d_Law_law_284 ?_
  refine q_sldX hX hsc d_Law_law_285 h (fun hi18 h => ?_)
  obtain ⟨u19, hc20, h⟩ := qbind h
  refine q_lVr hX (c_M_set X.l G hX.ad f _ _ _ _ hc20) cw_Law_21 rfl kc_104 rfl (Nat.le_of_ble_eq_true rfl) rfl (Nat.le_of_ble_eq_true rfl) d_Law_law_286 hT.2.1 ?_
  refine q_icmp_eq hX d_Law_law_289 rfl h (fun _ h => ?_) (fun _ h => ?_)
  · refine q_iinc hX d_Law_law_1618 rfl (ii_6 _) (by decide) rfl rfl ?_
    refine q_goto hX d_Law_law_1621 rfl ?_
    exact q_mask [true, true, true, true] rfl (hk18 _ _ h)
  · refine q_iconst hX d_Law_law_292 ic_0 ?_
    exact q_lawret hX hT h d_Law_law_293
set_option maxHeartbeats 4000000 in
theorem t_law_b294 {G : qG} {X : qX} (hX : qOk G X "ChantryRollsLaw" code 4 ret 40) {xs : Nat → Int32} {L : Nat} (hsc : qSc G X L xs) {u : Int32} {f : Nat} {k18 : qMem → Int32 → Option (Int32)} {σ : qMem} {x3 : Int32} (hT : qLT G X u) (hk18 : ∀ (σ : qMem) (x3 : Int32), k18 σ x3 = some u → qV G X 147 4386 qKS qRF σ 18 [some (.ref 1048950), some (.ref 0), some (.ref 104), some (.int x3)] []) (h : p_law_b294 f xs L  k18 σ x3 = some u) : qV G X 147 4386 qKS qRF σ 294 [some (.ref 1048950), some (.ref 0), some (.ref 104), some (.int x3)] [] := by
  unfold p_law_b294 at h
  refine q_aload_n hX d_Law_law_294 rfl ?_
  refine q_aload_n hX d_Law_law_295 rfl ?_
  refine q_iload_n hX d_Law_law_296 rfl ?_
  refine q_iconst hX d_Law_law_297 ic_1 ?_
  refine q_iadd hX d_Law_law_298 ?_
  refine q_sldX hX hsc d_Law_law_299 h (fun hi21 h => ?_)
  refine q_aload_n hX d_Law_law_300 rfl ?_
  refine q_iload_n hX d_Law_law_301 rfl ?_
  refine q_iconst hX d_Law_law_302 ic_2 ?_
  refine q_iadd hX d_Law_law_303 ?_
  refine q_sldX hX hsc d_Law_law_304 h (fun hi22 h => ?_)
  refine q_aload_n hX d_Law_law_305 rfl ?_
  refine q_iload_n hX d_Law_law_306 rfl ?_
  refine q_iconst hX d_Law_law_307 ic_3 ?_
  refine q_iadd hX d_Law_law_308 ?_
  refine q_sldX hX hsc d_Law_law_309 h (fun hi23 h => ?_)
  refine q_aload_n hX d_Law_law_310 rfl ?_
  refine q_iload_n hX d_Law_law_311 rfl ?_
  refine q_iconst hX d_Law_law_312 ic_4 ?_
  refine q_iadd hX d_Law_law_313 ?_
  refine q_sldX hX hsc d_Law_law_314 h (fun hi24 h => ?_)
  refine q_aload_n hX d_Law_law_315 rfl ?_
  refine q_iload_n hX d_Law_law_316 rfl ?_
  refine q_iconst hX d_Law_law_317 ic_5 ?_
  refine q_iadd hX d_Law_law_318 ?_
  refine q_sldX hX hsc d_Law_law_319 h (fun hi25 h => ?_)
  obtain ⟨u26, hc27, h⟩ := qbind h
  refine q_lVr hX (c_C_copy X.l G hX.ad f _ _ _ _ _ _ hc27) cw_Law_22 rfl kc_0 rfl (Nat.le_of_ble_eq_true rfl) rfl (Nat.le_of_ble_eq_true rfl) d_Law_law_320 hT.2.1 ?_
  refine q_aload_n hX d_Law_law_323 rfl ?_
  refine q_aload_n hX d_Law_law_324 rfl ?_
  refine q_iload_n hX d_Law_law_325 rfl ?_
  refine q_iconst hX d_Law_law_326 ic_1 ?_
  refine q_iadd hX d_Law_law_327 ?_
  refine q_sldX hX hsc d_Law_law_328 h (fun hi28 h => ?_)
  refine q_aload_n hX d_Law_law_329 rfl ?_
  refine q_iload_n hX d_Law_law_330 rfl ?_
  refine q_iconst hX d_Law_law_331 ic_2 ?_
  refine q_iadd hX d_Law_law_332 ?_
  refine q_sldX hX hsc d_Law_law_333 h (fun hi29 h => ?_)
  refine q_aload_n hX d_Law_law_334 rfl ?_
  refine q_iload_n hX d_Law_law_335 rfl ?_
  refine q_iconst hX d_Law_law_336 ic_3 ?_
  refine q_iadd hX d_Law_law_337 ?_
  refine q_sldX hX hsc d_Law_law_338 h (fun hi30 h => ?_)
  refine q_aload_n hX d_Law_law_339 rfl ?_
  refine q_iload_n hX d_Law_law_340 rfl ?_
  refine q_iconst hX d_Law_law_341 ic_4 ?_
  refine q_iadd hX d_Law_law_342 ?_
  refine q_sldX hX hsc d_Law_law_343 h (fun hi31 h => ?_)
  refine q_aload_n hX d_Law_law_344 rfl ?_
  refine q_iload_n hX d_Law_law_345 rfl ?_
  refine q_iconst hX d_Law_law_346 ic_5 ?_
  refine q_iadd hX d_Law_law_347 ?_
  refine q_sldX hX hsc d_Law_law_348 h (fun hi32 h => ?_)
  obtain ⟨u33, hc34, h⟩ := qbind h
  refine q_lVr hX (c_M_copy X.l G hX.ad f _ _ _ _ _ _ hc34) cw_Law_26 rfl kc_104 rfl (Nat.le_of_ble_eq_true rfl) rfl (Nat.le_of_ble_eq_true rfl) d_Law_law_349 hT.2.1 ?_
  refine q_icmp_eq hX d_Law_law_352 rfl h (fun _ h => ?_) (fun _ h => ?_)
  · refine q_iinc hX d_Law_law_1618 rfl (ii_6 _) (by decide) rfl rfl ?_
    refine q_goto hX d_Law_law_1621 rfl ?_
    exact q_mask [true, true, true, true] rfl (hk18 _ _ h)
  · refine q_iconst hX d_Law_law_355 ic_0 ?_
    exact q_lawret hX hT h d_Law_law_356
set_option maxHeartbeats 4000000 in
theorem t_law_b357 {G : qG} {X : qX} (hX : qOk G X "ChantryRollsLaw" code 4 ret 40) {xs : Nat → Int32} {L : Nat} (hsc : qSc G X L xs) {u : Int32} {f : Nat} {k18 : qMem → Int32 → Option (Int32)} {σ : qMem} {x3 : Int32} (hT : qLT G X u) (hk18 : ∀ (σ : qMem) (x3 : Int32), k18 σ x3 = some u → qV G X 147 4386 qKS qRF σ 18 [some (.ref 1048950), some (.ref 0), some (.ref 104), some (.int x3)] []) (h : p_law_b357 f xs L  k18 σ x3 = some u) : qV G X 147 4386 qKS qRF σ 357 [some (.ref 1048950), some (.ref 0), some (.ref 104), some (.int x3)] [] := by
  unfold p_law_b357 at h
  refine q_aload_n hX d_Law_law_357 rfl ?_
  refine q_aload_n hX d_Law_law_358 rfl ?_
  refine q_iload_n hX d_Law_law_359 rfl ?_
  refine q_iconst hX d_Law_law_360 ic_1 ?_
  refine q_iadd hX d_Law_law_361 ?_
  refine q_sldX hX hsc d_Law_law_362 h (fun hi35 h => ?_)
  obtain ⟨u36, hc37, h⟩ := qbind h
  refine q_lVr hX (c_C_drop X.l G hX.ad f _ _ hc37) cw_Law_27 rfl kc_0 rfl (Nat.le_of_ble_eq_true rfl) rfl (Nat.le_of_ble_eq_true rfl) d_Law_law_363 hT.2.1 ?_
  refine q_aload_n hX d_Law_law_366 rfl ?_
  refine q_aload_n hX d_Law_law_367 rfl ?_
  refine q_iload_n hX d_Law_law_368 rfl ?_
  refine q_iconst hX d_Law_law_369 ic_1 ?_
  refine q_iadd hX d_Law_law_370 ?_
  refine q_sldX hX hsc d_Law_law_371 h (fun hi38 h => ?_)
  obtain ⟨u39, hc40, h⟩ := qbind h
  refine q_lVr hX (c_M_drop X.l G hX.ad f _ _ hc40) cw_Law_31 rfl kc_104 rfl (Nat.le_of_ble_eq_true rfl) rfl (Nat.le_of_ble_eq_true rfl) d_Law_law_372 hT.2.1 ?_
  refine q_icmp_eq hX d_Law_law_375 rfl h (fun _ h => ?_) (fun _ h => ?_)
  · refine q_iinc hX d_Law_law_1618 rfl (ii_6 _) (by decide) rfl rfl ?_
    refine q_goto hX d_Law_law_1621 rfl ?_
    exact q_mask [true, true, true, true] rfl (hk18 _ _ h)
  · refine q_iconst hX d_Law_law_378 ic_0 ?_
    exact q_lawret hX hT h d_Law_law_379
set_option maxHeartbeats 4000000 in
theorem t_law_b380 {G : qG} {X : qX} (hX : qOk G X "ChantryRollsLaw" code 4 ret 40) {xs : Nat → Int32} {L : Nat} (hsc : qSc G X L xs) {u : Int32} {f : Nat} {k18 : qMem → Int32 → Option (Int32)} {σ : qMem} {x3 : Int32} (hT : qLT G X u) (hk18 : ∀ (σ : qMem) (x3 : Int32), k18 σ x3 = some u → qV G X 147 4386 qKS qRF σ 18 [some (.ref 1048950), some (.ref 0), some (.ref 104), some (.int x3)] []) (h : p_law_b380 f xs L  k18 σ x3 = some u) : qV G X 147 4386 qKS qRF σ 380 [some (.ref 1048950), some (.ref 0), some (.ref 104), some (.int x3)] [] := by
  unfold p_law_b380 at h
  refine q_aload_n hX d_Law_law_380 rfl ?_
  refine q_aload_n hX d_Law_law_381 rfl ?_
  refine q_iload_n hX d_Law_law_382 rfl ?_
  refine q_iconst hX d_Law_law_383 ic_1 ?_
  refine q_iadd hX d_Law_law_384 ?_
  refine q_sldX hX hsc d_Law_law_385 h (fun hi41 h => ?_)
  refine q_i2l hX d_Law_law_386 ?_
  refine q_bipush hX d_Law_law_387 bp_32 ?_
  refine q_lshl hX d_Law_law_389 ?_
  refine q_aload_n hX d_Law_law_390 rfl ?_
  refine q_iload_n hX d_Law_law_391 rfl ?_
  refine q_iconst hX d_Law_law_392 ic_2 ?_
  refine q_iadd hX d_Law_law_393 ?_
  refine q_sldX hX hsc d_Law_law_394 h (fun hi42 h => ?_)
  refine q_i2l hX d_Law_law_395 ?_
  refine q_ldc2 hX w_1644 d_Law_law_396 ?_
  refine q_land hX d_Law_law_399 ?_
  refine q_lor hX d_Law_law_400 ?_
  refine q_aload_n hX d_Law_law_401 rfl ?_
  refine q_iload_n hX d_Law_law_402 rfl ?_
  refine q_iconst hX d_Law_law_403 ic_3 ?_
  refine q_iadd hX d_Law_law_404 ?_
  refine q_sldX hX hsc d_Law_law_405 h (fun hi43 h => ?_)
  obtain ⟨u44, hc45, h⟩ := qbind h
  refine q_lVr hX (c_C_feed X.l G hX.ad f _ _ _ hc45) cw_Law_34 rfl kc_0 rfl (Nat.le_of_ble_eq_true rfl) rfl (Nat.le_of_ble_eq_true rfl) d_Law_law_406 hT.2.1 ?_
  refine q_aload_n hX d_Law_law_409 rfl ?_
  refine q_aload_n hX d_Law_law_410 rfl ?_
  refine q_iload_n hX d_Law_law_411 rfl ?_
  refine q_iconst hX d_Law_law_412 ic_1 ?_
  refine q_iadd hX d_Law_law_413 ?_
  refine q_sldX hX hsc d_Law_law_414 h (fun hi46 h => ?_)
  refine q_i2l hX d_Law_law_415 ?_
  refine q_bipush hX d_Law_law_416 bp_32 ?_
  refine q_lshl hX d_Law_law_418 ?_
  refine q_aload_n hX d_Law_law_419 rfl ?_
  refine q_iload_n hX d_Law_law_420 rfl ?_
  refine q_iconst hX d_Law_law_421 ic_2 ?_
  refine q_iadd hX d_Law_law_422 ?_
  refine q_sldX hX hsc d_Law_law_423 h (fun hi47 h => ?_)
  refine q_i2l hX d_Law_law_424 ?_
  refine q_ldc2 hX w_1644 d_Law_law_425 ?_
  refine q_land hX d_Law_law_428 ?_
  refine q_lor hX d_Law_law_429 ?_
  refine q_aload_n hX d_Law_law_430 rfl ?_
  refine q_iload_n hX d_Law_law_431 rfl ?_
  refine q_iconst hX d_Law_law_432 ic_3 ?_
  refine q_iadd hX d_Law_law_433 ?_
  refine q_sldX hX hsc d_Law_law_434 h (fun hi48 h => ?_)
  obtain ⟨u49, hc50, h⟩ := qbind h
  refine q_lVr hX (c_M_feed X.l G hX.ad f _ _ _ hc50) cw_Law_38 rfl kc_104 rfl (Nat.le_of_ble_eq_true rfl) rfl (Nat.le_of_ble_eq_true rfl) d_Law_law_435 hT.2.1 ?_
  refine q_icmp_eq hX d_Law_law_438 rfl h (fun _ h => ?_) (fun _ h => ?_)
  · refine q_iinc hX d_Law_law_1618 rfl (ii_6 _) (by decide) rfl rfl ?_
    refine q_goto hX d_Law_law_1621 rfl ?_
    exact q_mask [true, true, true, true] rfl (hk18 _ _ h)
  · refine q_iconst hX d_Law_law_441 ic_0 ?_
    exact q_lawret hX hT h d_Law_law_442
set_option maxHeartbeats 4000000 in
theorem t_law_b443 {G : qG} {X : qX} (hX : qOk G X "ChantryRollsLaw" code 4 ret 40) {xs : Nat → Int32} {L : Nat} (hsc : qSc G X L xs) {u : Int32} {f : Nat} {k18 : qMem → Int32 → Option (Int32)} {σ : qMem} {x3 : Int32} (hT : qLT G X u) (hk18 : ∀ (σ : qMem) (x3 : Int32), k18 σ x3 = some u → qV G X 147 4386 qKS qRF σ 18 [some (.ref 1048950), some (.ref 0), some (.ref 104), some (.int x3)] []) (h : p_law_b443 f xs L  k18 σ x3 = some u) : qV G X 147 4386 qKS qRF σ 443 [some (.ref 1048950), some (.ref 0), some (.ref 104), some (.int x3)] [] := by
  unfold p_law_b443 at h
  refine q_aload_n hX d_Law_law_443 rfl ?_
  obtain ⟨u51, hc52, h⟩ := qbind h
  refine q_lVr hX (c_C_deeds X.l G hX.ad f _  hc52) cw_Law_39 rfl kc_0 rfl (Nat.le_of_ble_eq_true rfl) rfl (Nat.le_of_ble_eq_true rfl) d_Law_law_444 hT.2.1 ?_
  refine q_aload_n hX d_Law_law_447 rfl ?_
  obtain ⟨u53, hc54, h⟩ := qbind h
  refine q_lVr hX (c_M_deeds X.l G hX.ad f _  hc54) cw_Law_43 rfl kc_104 rfl (Nat.le_of_ble_eq_true rfl) rfl (Nat.le_of_ble_eq_true rfl) d_Law_law_448 hT.2.1 ?_
  refine q_icmp_eq hX d_Law_law_451 rfl h (fun _ h => ?_) (fun _ h => ?_)
  · refine q_iinc hX d_Law_law_1618 rfl (ii_6 _) (by decide) rfl rfl ?_
    refine q_goto hX d_Law_law_1621 rfl ?_
    exact q_mask [true, true, true, true] rfl (hk18 _ _ h)
  · refine q_iconst hX d_Law_law_454 ic_0 ?_
    exact q_lawret hX hT h d_Law_law_455
set_option maxHeartbeats 4000000 in
theorem t_law_b456 {G : qG} {X : qX} (hX : qOk G X "ChantryRollsLaw" code 4 ret 40) {xs : Nat → Int32} {L : Nat} (hsc : qSc G X L xs) {u : Int32} {f : Nat} {k18 : qMem → Int32 → Option (Int32)} {σ : qMem} {x3 : Int32} (hT : qLT G X u) (hk18 : ∀ (σ : qMem) (x3 : Int32), k18 σ x3 = some u → qV G X 147 4386 qKS qRF σ 18 [some (.ref 1048950), some (.ref 0), some (.ref 104), some (.int x3)] []) (h : p_law_b456 f xs L  k18 σ x3 = some u) : qV G X 147 4386 qKS qRF σ 456 [some (.ref 1048950), some (.ref 0), some (.ref 104), some (.int x3)] [] := by
  unfold p_law_b456 at h
  refine q_aload_n hX d_Law_law_456 rfl ?_
  obtain ⟨u55, hc56, h⟩ := qbind h
  refine q_lVr hX (c_C_fault X.l G hX.ad f _  hc56) cw_Law_44 rfl kc_0 rfl (Nat.le_of_ble_eq_true rfl) rfl (Nat.le_of_ble_eq_true rfl) d_Law_law_457 hT.2.1 ?_
  refine q_aload_n hX d_Law_law_460 rfl ?_
  obtain ⟨u57, hc58, h⟩ := qbind h
  refine q_lVr hX (c_M_fault X.l G hX.ad f _  hc58) cw_Law_47 rfl kc_104 rfl (Nat.le_of_ble_eq_true rfl) rfl (Nat.le_of_ble_eq_true rfl) d_Law_law_461 hT.2.1 ?_
  refine q_icmp_eq hX d_Law_law_464 rfl h (fun _ h => ?_) (fun _ h => ?_)
  · refine q_iinc hX d_Law_law_1618 rfl (ii_6 _) (by decide) rfl rfl ?_
    refine q_goto hX d_Law_law_1621 rfl ?_
    exact q_mask [true, true, true, true] rfl (hk18 _ _ h)
  · refine q_iconst hX d_Law_law_467 ic_0 ?_
    exact q_lawret hX hT h d_Law_law_468
set_option maxHeartbeats 4000000 in
theorem t_law_b469 {G : qG} {X : qX} (hX : qOk G X "ChantryRollsLaw" code 4 ret 40) {xs : Nat → Int32} {L : Nat} (hsc : qSc G X L xs) {u : Int32} {f : Nat} {k18 : qMem → Int32 → Option (Int32)} {σ : qMem} {x3 : Int32} (hT : qLT G X u) (hk18 : ∀ (σ : qMem) (x3 : Int32), k18 σ x3 = some u → qV G X 147 4386 qKS qRF σ 18 [some (.ref 1048950), some (.ref 0), some (.ref 104), some (.int x3)] []) (h : p_law_b469 f xs L  k18 σ x3 = some u) : qV G X 147 4386 qKS qRF σ 469 [some (.ref 1048950), some (.ref 0), some (.ref 104), some (.int x3)] [] := by
  unfold p_law_b469 at h
  refine q_aload_n hX d_Law_law_469 rfl ?_
  refine q_aload_n hX d_Law_law_470 rfl ?_
  refine q_iload_n hX d_Law_law_471 rfl ?_
  refine q_iconst hX d_Law_law_472 ic_1 ?_
  refine q_iadd hX d_Law_law_473 ?_
  refine q_sldX hX hsc d_Law_law_474 h (fun hi59 h => ?_)
  refine q_aload_n hX d_Law_law_475 rfl ?_
  refine q_iload_n hX d_Law_law_476 rfl ?_
  refine q_iconst hX d_Law_law_477 ic_2 ?_
  refine q_iadd hX d_Law_law_478 ?_
  refine q_sldX hX hsc d_Law_law_479 h (fun hi60 h => ?_)
  obtain ⟨u61, hc62, h⟩ := qbind h
  refine q_lVr hX (c_C_told X.l G hX.ad f _ _ _ hc62) cw_Law_48 rfl kc_0 rfl (Nat.le_of_ble_eq_true rfl) rfl (Nat.le_of_ble_eq_true rfl) d_Law_law_480 hT.2.1 ?_
  refine q_aload_n hX d_Law_law_483 rfl ?_
  refine q_aload_n hX d_Law_law_484 rfl ?_
  refine q_iload_n hX d_Law_law_485 rfl ?_
  refine q_iconst hX d_Law_law_486 ic_1 ?_
  refine q_iadd hX d_Law_law_487 ?_
  refine q_sldX hX hsc d_Law_law_488 h (fun hi63 h => ?_)
  refine q_aload_n hX d_Law_law_489 rfl ?_
  refine q_iload_n hX d_Law_law_490 rfl ?_
  refine q_iconst hX d_Law_law_491 ic_2 ?_
  refine q_iadd hX d_Law_law_492 ?_
  refine q_sldX hX hsc d_Law_law_493 h (fun hi64 h => ?_)
  obtain ⟨u65, hc66, h⟩ := qbind h
  refine q_lVr hX (c_M_told X.l G hX.ad f _ _ _ hc66) cw_Law_52 rfl kc_104 rfl (Nat.le_of_ble_eq_true rfl) rfl (Nat.le_of_ble_eq_true rfl) d_Law_law_494 hT.2.1 ?_
  refine q_icmp_eq hX d_Law_law_497 rfl h (fun _ h => ?_) (fun _ h => ?_)
  · refine q_iinc hX d_Law_law_1618 rfl (ii_6 _) (by decide) rfl rfl ?_
    refine q_goto hX d_Law_law_1621 rfl ?_
    exact q_mask [true, true, true, true] rfl (hk18 _ _ h)
  · refine q_iconst hX d_Law_law_500 ic_0 ?_
    exact q_lawret hX hT h d_Law_law_501
set_option maxHeartbeats 4000000 in
theorem t_law_b502 {G : qG} {X : qX} (hX : qOk G X "ChantryRollsLaw" code 4 ret 40) {xs : Nat → Int32} {L : Nat} (hsc : qSc G X L xs) {u : Int32} {f : Nat} {k18 : qMem → Int32 → Option (Int32)} {σ : qMem} {x3 : Int32} (hT : qLT G X u) (hk18 : ∀ (σ : qMem) (x3 : Int32), k18 σ x3 = some u → qV G X 147 4386 qKS qRF σ 18 [some (.ref 1048950), some (.ref 0), some (.ref 104), some (.int x3)] []) (h : p_law_b502 f xs L  k18 σ x3 = some u) : qV G X 147 4386 qKS qRF σ 502 [some (.ref 1048950), some (.ref 0), some (.ref 104), some (.int x3)] [] := by
  unfold p_law_b502 at h
  refine q_aload_n hX d_Law_law_502 rfl ?_
  refine q_aload_n hX d_Law_law_503 rfl ?_
  refine q_iload_n hX d_Law_law_504 rfl ?_
  refine q_iconst hX d_Law_law_505 ic_1 ?_
  refine q_iadd hX d_Law_law_506 ?_
  refine q_sldX hX hsc d_Law_law_507 h (fun hi67 h => ?_)
  refine q_aload_n hX d_Law_law_508 rfl ?_
  refine q_iload_n hX d_Law_law_509 rfl ?_
  refine q_iconst hX d_Law_law_510 ic_2 ?_
  refine q_iadd hX d_Law_law_511 ?_
  refine q_sldX hX hsc d_Law_law_512 h (fun hi68 h => ?_)
  obtain ⟨u69, hc70, h⟩ := qbind h
  refine q_lVr hX (c_C_feast X.l G hX.ad f _ _ _ hc70) cw_Law_53 rfl kc_0 rfl (Nat.le_of_ble_eq_true rfl) rfl (Nat.le_of_ble_eq_true rfl) d_Law_law_513 hT.2.1 ?_
  refine q_aload_n hX d_Law_law_516 rfl ?_
  refine q_aload_n hX d_Law_law_517 rfl ?_
  refine q_iload_n hX d_Law_law_518 rfl ?_
  refine q_iconst hX d_Law_law_519 ic_1 ?_
  refine q_iadd hX d_Law_law_520 ?_
  refine q_sldX hX hsc d_Law_law_521 h (fun hi71 h => ?_)
  refine q_aload_n hX d_Law_law_522 rfl ?_
  refine q_iload_n hX d_Law_law_523 rfl ?_
  refine q_iconst hX d_Law_law_524 ic_2 ?_
  refine q_iadd hX d_Law_law_525 ?_
  refine q_sldX hX hsc d_Law_law_526 h (fun hi72 h => ?_)
  obtain ⟨u73, hc74, h⟩ := qbind h
  refine q_lVr hX (c_M_feast X.l G hX.ad f _ _ _ hc74) cw_Law_56 rfl kc_104 rfl (Nat.le_of_ble_eq_true rfl) rfl (Nat.le_of_ble_eq_true rfl) d_Law_law_527 hT.2.1 ?_
  refine q_icmp_eq hX d_Law_law_530 rfl h (fun _ h => ?_) (fun _ h => ?_)
  · refine q_iinc hX d_Law_law_1618 rfl (ii_6 _) (by decide) rfl rfl ?_
    refine q_goto hX d_Law_law_1621 rfl ?_
    exact q_mask [true, true, true, true] rfl (hk18 _ _ h)
  · refine q_iconst hX d_Law_law_533 ic_0 ?_
    exact q_lawret hX hT h d_Law_law_534
set_option maxHeartbeats 4000000 in
theorem t_law_b535 {G : qG} {X : qX} (hX : qOk G X "ChantryRollsLaw" code 4 ret 40) {xs : Nat → Int32} {L : Nat} (hsc : qSc G X L xs) {u : Int32} {f : Nat} {k18 : qMem → Int32 → Option (Int32)} {σ : qMem} {x3 : Int32} (hT : qLT G X u) (hk18 : ∀ (σ : qMem) (x3 : Int32), k18 σ x3 = some u → qV G X 147 4386 qKS qRF σ 18 [some (.ref 1048950), some (.ref 0), some (.ref 104), some (.int x3)] []) (h : p_law_b535 f xs L  k18 σ x3 = some u) : qV G X 147 4386 qKS qRF σ 535 [some (.ref 1048950), some (.ref 0), some (.ref 104), some (.int x3)] [] := by
  unfold p_law_b535 at h
  refine q_aload_n hX d_Law_law_535 rfl ?_
  refine q_aload_n hX d_Law_law_536 rfl ?_
  refine q_iload_n hX d_Law_law_537 rfl ?_
  refine q_iconst hX d_Law_law_538 ic_1 ?_
  refine q_iadd hX d_Law_law_539 ?_
  refine q_sldX hX hsc d_Law_law_540 h (fun hi75 h => ?_)
  refine q_aload_n hX d_Law_law_541 rfl ?_
  refine q_iload_n hX d_Law_law_542 rfl ?_
  refine q_iconst hX d_Law_law_543 ic_2 ?_
  refine q_iadd hX d_Law_law_544 ?_
  refine q_sldX hX hsc d_Law_law_545 h (fun hi76 h => ?_)
  refine q_aload_n hX d_Law_law_546 rfl ?_
  refine q_iload_n hX d_Law_law_547 rfl ?_
  refine q_iconst hX d_Law_law_548 ic_3 ?_
  refine q_iadd hX d_Law_law_549 ?_
  refine q_sldX hX hsc d_Law_law_550 h (fun hi77 h => ?_)
  obtain ⟨u78, hc79, h⟩ := qbind h
  refine q_lVr hX (c_C_count X.l G hX.ad f _ _ _ _ hc79) cw_Law_57 rfl kc_0 rfl (Nat.le_of_ble_eq_true rfl) rfl (Nat.le_of_ble_eq_true rfl) d_Law_law_551 hT.2.1 ?_
  refine q_aload_n hX d_Law_law_554 rfl ?_
  refine q_aload_n hX d_Law_law_555 rfl ?_
  refine q_iload_n hX d_Law_law_556 rfl ?_
  refine q_iconst hX d_Law_law_557 ic_1 ?_
  refine q_iadd hX d_Law_law_558 ?_
  refine q_sldX hX hsc d_Law_law_559 h (fun hi80 h => ?_)
  refine q_aload_n hX d_Law_law_560 rfl ?_
  refine q_iload_n hX d_Law_law_561 rfl ?_
  refine q_iconst hX d_Law_law_562 ic_2 ?_
  refine q_iadd hX d_Law_law_563 ?_
  refine q_sldX hX hsc d_Law_law_564 h (fun hi81 h => ?_)
  refine q_aload_n hX d_Law_law_565 rfl ?_
  refine q_iload_n hX d_Law_law_566 rfl ?_
  refine q_iconst hX d_Law_law_567 ic_3 ?_
  refine q_iadd hX d_Law_law_568 ?_
  refine q_sldX hX hsc d_Law_law_569 h (fun hi82 h => ?_)
  obtain ⟨u83, hc84, h⟩ := qbind h
  refine q_lVr hX (c_M_count X.l G hX.ad f _ _ _ _ hc84) cw_Law_60 rfl kc_104 rfl (Nat.le_of_ble_eq_true rfl) rfl (Nat.le_of_ble_eq_true rfl) d_Law_law_570 hT.2.1 ?_
  refine q_icmp_eq hX d_Law_law_573 rfl h (fun _ h => ?_) (fun _ h => ?_)
  · refine q_iinc hX d_Law_law_1618 rfl (ii_6 _) (by decide) rfl rfl ?_
    refine q_goto hX d_Law_law_1621 rfl ?_
    exact q_mask [true, true, true, true] rfl (hk18 _ _ h)
  · refine q_iconst hX d_Law_law_576 ic_0 ?_
    exact q_lawret hX hT h d_Law_law_577
set_option maxHeartbeats 4000000 in
theorem t_law_b578 {G : qG} {X : qX} (hX : qOk G X "ChantryRollsLaw" code 4 ret 40) {xs : Nat → Int32} {L : Nat} (hsc : qSc G X L xs) {u : Int32} {f : Nat} {k18 : qMem → Int32 → Option (Int32)} {σ : qMem} {x3 : Int32} (hT : qLT G X u) (hk18 : ∀ (σ : qMem) (x3 : Int32), k18 σ x3 = some u → qV G X 147 4386 qKS qRF σ 18 [some (.ref 1048950), some (.ref 0), some (.ref 104), some (.int x3)] []) (h : p_law_b578 f xs L  k18 σ x3 = some u) : qV G X 147 4386 qKS qRF σ 578 [some (.ref 1048950), some (.ref 0), some (.ref 104), some (.int x3)] [] := by
  unfold p_law_b578 at h
  refine q_aload_n hX d_Law_law_578 rfl ?_
  refine q_aload_n hX d_Law_law_579 rfl ?_
  refine q_iload_n hX d_Law_law_580 rfl ?_
  refine q_iconst hX d_Law_law_581 ic_1 ?_
  refine q_iadd hX d_Law_law_582 ?_
  refine q_sldX hX hsc d_Law_law_583 h (fun hi85 h => ?_)
  refine q_aload_n hX d_Law_law_584 rfl ?_
  refine q_iload_n hX d_Law_law_585 rfl ?_
  refine q_iconst hX d_Law_law_586 ic_2 ?_
  refine q_iadd hX d_Law_law_587 ?_
  refine q_sldX hX hsc d_Law_law_588 h (fun hi86 h => ?_)
  obtain ⟨u87, hc88, h⟩ := qbind h
  refine q_lVr hX (c_C_vow X.l G hX.ad f _ _ _ hc88) cw_Law_61 rfl kc_0 rfl (Nat.le_of_ble_eq_true rfl) rfl (Nat.le_of_ble_eq_true rfl) d_Law_law_589 hT.2.1 ?_
  refine q_aload_n hX d_Law_law_592 rfl ?_
  refine q_aload_n hX d_Law_law_593 rfl ?_
  refine q_iload_n hX d_Law_law_594 rfl ?_
  refine q_iconst hX d_Law_law_595 ic_1 ?_
  refine q_iadd hX d_Law_law_596 ?_
  refine q_sldX hX hsc d_Law_law_597 h (fun hi89 h => ?_)
  refine q_aload_n hX d_Law_law_598 rfl ?_
  refine q_iload_n hX d_Law_law_599 rfl ?_
  refine q_iconst hX d_Law_law_600 ic_2 ?_
  refine q_iadd hX d_Law_law_601 ?_
  refine q_sldX hX hsc d_Law_law_602 h (fun hi90 h => ?_)
  obtain ⟨u91, hc92, h⟩ := qbind h
  refine q_lVr hX (c_M_vow X.l G hX.ad f _ _ _ hc92) cw_Law_64 rfl kc_104 rfl (Nat.le_of_ble_eq_true rfl) rfl (Nat.le_of_ble_eq_true rfl) d_Law_law_603 hT.2.1 ?_
  refine q_icmp_eq hX d_Law_law_606 rfl h (fun _ h => ?_) (fun _ h => ?_)
  · refine q_iinc hX d_Law_law_1618 rfl (ii_6 _) (by decide) rfl rfl ?_
    refine q_goto hX d_Law_law_1621 rfl ?_
    exact q_mask [true, true, true, true] rfl (hk18 _ _ h)
  · refine q_iconst hX d_Law_law_609 ic_0 ?_
    exact q_lawret hX hT h d_Law_law_610
set_option maxHeartbeats 4000000 in
theorem t_law_b611 {G : qG} {X : qX} (hX : qOk G X "ChantryRollsLaw" code 4 ret 40) {xs : Nat → Int32} {L : Nat} (hsc : qSc G X L xs) {u : Int32} {f : Nat} {k18 : qMem → Int32 → Option (Int32)} {σ : qMem} {x3 : Int32} (hT : qLT G X u) (hk18 : ∀ (σ : qMem) (x3 : Int32), k18 σ x3 = some u → qV G X 147 4386 qKS qRF σ 18 [some (.ref 1048950), some (.ref 0), some (.ref 104), some (.int x3)] []) (h : p_law_b611 f xs L  k18 σ x3 = some u) : qV G X 147 4386 qKS qRF σ 611 [some (.ref 1048950), some (.ref 0), some (.ref 104), some (.int x3)] [] := by
  unfold p_law_b611 at h
  refine q_aload_n hX d_Law_law_611 rfl ?_
  refine q_aload_n hX d_Law_law_612 rfl ?_
  refine q_iload_n hX d_Law_law_613 rfl ?_
  refine q_iconst hX d_Law_law_614 ic_1 ?_
  refine q_iadd hX d_Law_law_615 ?_
  refine q_sldX hX hsc d_Law_law_616 h (fun hi93 h => ?_)
  refine q_aload_n hX d_Law_law_617 rfl ?_
  refine q_iload_n hX d_Law_law_618 rfl ?_
  refine q_iconst hX d_Law_law_619 ic_2 ?_
  refine q_iadd hX d_Law_law_620 ?_
  refine q_sldX hX hsc d_Law_law_621 h (fun hi94 h => ?_)
  refine q_aload_n hX d_Law_law_622 rfl ?_
  refine q_iload_n hX d_Law_law_623 rfl ?_
  refine q_iconst hX d_Law_law_624 ic_3 ?_
  refine q_iadd hX d_Law_law_625 ?_
  refine q_sldX hX hsc d_Law_law_626 h (fun hi95 h => ?_)
  obtain ⟨u96, hc97, h⟩ := qbind h
  refine q_lVr hX (c_C_sick X.l G hX.ad f _ _ _ _ hc97) cw_Law_65 rfl kc_0 rfl (Nat.le_of_ble_eq_true rfl) rfl (Nat.le_of_ble_eq_true rfl) d_Law_law_627 hT.2.1 ?_
  refine q_aload_n hX d_Law_law_630 rfl ?_
  refine q_aload_n hX d_Law_law_631 rfl ?_
  refine q_iload_n hX d_Law_law_632 rfl ?_
  refine q_iconst hX d_Law_law_633 ic_1 ?_
  refine q_iadd hX d_Law_law_634 ?_
  refine q_sldX hX hsc d_Law_law_635 h (fun hi98 h => ?_)
  refine q_aload_n hX d_Law_law_636 rfl ?_
  refine q_iload_n hX d_Law_law_637 rfl ?_
  refine q_iconst hX d_Law_law_638 ic_2 ?_
  refine q_iadd hX d_Law_law_639 ?_
  refine q_sldX hX hsc d_Law_law_640 h (fun hi99 h => ?_)
  refine q_aload_n hX d_Law_law_641 rfl ?_
  refine q_iload_n hX d_Law_law_642 rfl ?_
  refine q_iconst hX d_Law_law_643 ic_3 ?_
  refine q_iadd hX d_Law_law_644 ?_
  refine q_sldX hX hsc d_Law_law_645 h (fun hi100 h => ?_)
  obtain ⟨u101, hc102, h⟩ := qbind h
  refine q_lVr hX (c_M_sick X.l G hX.ad f _ _ _ _ hc102) cw_Law_68 rfl kc_104 rfl (Nat.le_of_ble_eq_true rfl) rfl (Nat.le_of_ble_eq_true rfl) d_Law_law_646 hT.2.1 ?_
  refine q_icmp_eq hX d_Law_law_649 rfl h (fun _ h => ?_) (fun _ h => ?_)
  · refine q_iinc hX d_Law_law_1618 rfl (ii_6 _) (by decide) rfl rfl ?_
    refine q_goto hX d_Law_law_1621 rfl ?_
    exact q_mask [true, true, true, true] rfl (hk18 _ _ h)
  · refine q_iconst hX d_Law_law_652 ic_0 ?_
    exact q_lawret hX hT h d_Law_law_653
set_option maxHeartbeats 4000000 in
theorem t_law_b654 {G : qG} {X : qX} (hX : qOk G X "ChantryRollsLaw" code 4 ret 40) {xs : Nat → Int32} {L : Nat} (hsc : qSc G X L xs) {u : Int32} {f : Nat} {k18 : qMem → Int32 → Option (Int32)} {σ : qMem} {x3 : Int32} (hT : qLT G X u) (hk18 : ∀ (σ : qMem) (x3 : Int32), k18 σ x3 = some u → qV G X 147 4386 qKS qRF σ 18 [some (.ref 1048950), some (.ref 0), some (.ref 104), some (.int x3)] []) (h : p_law_b654 f xs L  k18 σ x3 = some u) : qV G X 147 4386 qKS qRF σ 654 [some (.ref 1048950), some (.ref 0), some (.ref 104), some (.int x3)] [] := by
  unfold p_law_b654 at h
  refine q_aload_n hX d_Law_law_654 rfl ?_
  refine q_aload_n hX d_Law_law_655 rfl ?_
  refine q_iload_n hX d_Law_law_656 rfl ?_
  refine q_iconst hX d_Law_law_657 ic_1 ?_
  refine q_iadd hX d_Law_law_658 ?_
  refine q_sldX hX hsc d_Law_law_659 h (fun hi103 h => ?_)
  refine q_aload_n hX d_Law_law_660 rfl ?_
  refine q_iload_n hX d_Law_law_661 rfl ?_
  refine q_iconst hX d_Law_law_662 ic_2 ?_
  refine q_iadd hX d_Law_law_663 ?_
  refine q_sldX hX hsc d_Law_law_664 h (fun hi104 h => ?_)
  refine q_aload_n hX d_Law_law_665 rfl ?_
  refine q_iload_n hX d_Law_law_666 rfl ?_
  refine q_iconst hX d_Law_law_667 ic_3 ?_
  refine q_iadd hX d_Law_law_668 ?_
  refine q_sldX hX hsc d_Law_law_669 h (fun hi105 h => ?_)
  obtain ⟨u106, hc107, h⟩ := qbind h
  refine q_lVr hX (c_C_say X.l G hX.ad f _ _ _ _ hc107) cw_Law_69 rfl kc_0 rfl (Nat.le_of_ble_eq_true rfl) rfl (Nat.le_of_ble_eq_true rfl) d_Law_law_670 hT.2.1 ?_
  refine q_aload_n hX d_Law_law_673 rfl ?_
  refine q_aload_n hX d_Law_law_674 rfl ?_
  refine q_iload_n hX d_Law_law_675 rfl ?_
  refine q_iconst hX d_Law_law_676 ic_1 ?_
  refine q_iadd hX d_Law_law_677 ?_
  refine q_sldX hX hsc d_Law_law_678 h (fun hi108 h => ?_)
  refine q_aload_n hX d_Law_law_679 rfl ?_
  refine q_iload_n hX d_Law_law_680 rfl ?_
  refine q_iconst hX d_Law_law_681 ic_2 ?_
  refine q_iadd hX d_Law_law_682 ?_
  refine q_sldX hX hsc d_Law_law_683 h (fun hi109 h => ?_)
  refine q_aload_n hX d_Law_law_684 rfl ?_
  refine q_iload_n hX d_Law_law_685 rfl ?_
  refine q_iconst hX d_Law_law_686 ic_3 ?_
  refine q_iadd hX d_Law_law_687 ?_
  refine q_sldX hX hsc d_Law_law_688 h (fun hi110 h => ?_)
  obtain ⟨u111, hc112, h⟩ := qbind h
  refine q_lVr hX (c_M_say X.l G hX.ad f _ _ _ _ hc112) cw_Law_72 rfl kc_104 rfl (Nat.le_of_ble_eq_true rfl) rfl (Nat.le_of_ble_eq_true rfl) d_Law_law_689 hT.2.1 ?_
  refine q_icmp_eq hX d_Law_law_692 rfl h (fun _ h => ?_) (fun _ h => ?_)
  · refine q_iinc hX d_Law_law_1618 rfl (ii_6 _) (by decide) rfl rfl ?_
    refine q_goto hX d_Law_law_1621 rfl ?_
    exact q_mask [true, true, true, true] rfl (hk18 _ _ h)
  · refine q_iconst hX d_Law_law_695 ic_0 ?_
    exact q_lawret hX hT h d_Law_law_696
set_option maxHeartbeats 4000000 in
theorem t_law_b697 {G : qG} {X : qX} (hX : qOk G X "ChantryRollsLaw" code 4 ret 40) {xs : Nat → Int32} {L : Nat} (hsc : qSc G X L xs) {u : Int32} {f : Nat} {k18 : qMem → Int32 → Option (Int32)} {σ : qMem} {x3 : Int32} (hT : qLT G X u) (hk18 : ∀ (σ : qMem) (x3 : Int32), k18 σ x3 = some u → qV G X 147 4386 qKS qRF σ 18 [some (.ref 1048950), some (.ref 0), some (.ref 104), some (.int x3)] []) (h : p_law_b697 f xs L  k18 σ x3 = some u) : qV G X 147 4386 qKS qRF σ 697 [some (.ref 1048950), some (.ref 0), some (.ref 104), some (.int x3)] [] := by
  unfold p_law_b697 at h
  refine q_aload_n hX d_Law_law_697 rfl ?_
  refine q_aload_n hX d_Law_law_698 rfl ?_
  refine q_iload_n hX d_Law_law_699 rfl ?_
  refine q_iconst hX d_Law_law_700 ic_1 ?_
  refine q_iadd hX d_Law_law_701 ?_
  refine q_sldX hX hsc d_Law_law_702 h (fun hi113 h => ?_)
  refine q_aload_n hX d_Law_law_703 rfl ?_
  refine q_iload_n hX d_Law_law_704 rfl ?_
  refine q_iconst hX d_Law_law_705 ic_2 ?_
  refine q_iadd hX d_Law_law_706 ?_
  refine q_sldX hX hsc d_Law_law_707 h (fun hi114 h => ?_)
  refine q_aload_n hX d_Law_law_708 rfl ?_
  refine q_iload_n hX d_Law_law_709 rfl ?_
  refine q_iconst hX d_Law_law_710 ic_3 ?_
  refine q_iadd hX d_Law_law_711 ?_
  refine q_sldX hX hsc d_Law_law_712 h (fun hi115 h => ?_)
  obtain ⟨u116, hc117, h⟩ := qbind h
  refine q_lVr hX (c_C_lines X.l G hX.ad f _ _ _ _ hc117) cw_Law_73 rfl kc_0 rfl (Nat.le_of_ble_eq_true rfl) rfl (Nat.le_of_ble_eq_true rfl) d_Law_law_713 hT.2.1 ?_
  refine q_aload_n hX d_Law_law_716 rfl ?_
  refine q_aload_n hX d_Law_law_717 rfl ?_
  refine q_iload_n hX d_Law_law_718 rfl ?_
  refine q_iconst hX d_Law_law_719 ic_1 ?_
  refine q_iadd hX d_Law_law_720 ?_
  refine q_sldX hX hsc d_Law_law_721 h (fun hi118 h => ?_)
  refine q_aload_n hX d_Law_law_722 rfl ?_
  refine q_iload_n hX d_Law_law_723 rfl ?_
  refine q_iconst hX d_Law_law_724 ic_2 ?_
  refine q_iadd hX d_Law_law_725 ?_
  refine q_sldX hX hsc d_Law_law_726 h (fun hi119 h => ?_)
  refine q_aload_n hX d_Law_law_727 rfl ?_
  refine q_iload_n hX d_Law_law_728 rfl ?_
  refine q_iconst hX d_Law_law_729 ic_3 ?_
  refine q_iadd hX d_Law_law_730 ?_
  refine q_sldX hX hsc d_Law_law_731 h (fun hi120 h => ?_)
  obtain ⟨u121, hc122, h⟩ := qbind h
  refine q_lVr hX (c_M_lines X.l G hX.ad f _ _ _ _ hc122) cw_Law_76 rfl kc_104 rfl (Nat.le_of_ble_eq_true rfl) rfl (Nat.le_of_ble_eq_true rfl) d_Law_law_732 hT.2.1 ?_
  refine q_icmp_eq hX d_Law_law_735 rfl h (fun _ h => ?_) (fun _ h => ?_)
  · refine q_iinc hX d_Law_law_1618 rfl (ii_6 _) (by decide) rfl rfl ?_
    refine q_goto hX d_Law_law_1621 rfl ?_
    exact q_mask [true, true, true, true] rfl (hk18 _ _ h)
  · refine q_iconst hX d_Law_law_738 ic_0 ?_
    exact q_lawret hX hT h d_Law_law_739
set_option maxHeartbeats 4000000 in
theorem t_law_b740 {G : qG} {X : qX} (hX : qOk G X "ChantryRollsLaw" code 4 ret 40) {xs : Nat → Int32} {L : Nat} (hsc : qSc G X L xs) {u : Int32} {f : Nat} {k18 : qMem → Int32 → Option (Int32)} {σ : qMem} {x3 : Int32} (hT : qLT G X u) (hk18 : ∀ (σ : qMem) (x3 : Int32), k18 σ x3 = some u → qV G X 147 4386 qKS qRF σ 18 [some (.ref 1048950), some (.ref 0), some (.ref 104), some (.int x3)] []) (h : p_law_b740 f xs L  k18 σ x3 = some u) : qV G X 147 4386 qKS qRF σ 740 [some (.ref 1048950), some (.ref 0), some (.ref 104), some (.int x3)] [] := by
  unfold p_law_b740 at h
  refine q_aload_n hX d_Law_law_740 rfl ?_
  refine q_aload_n hX d_Law_law_741 rfl ?_
  refine q_iload_n hX d_Law_law_742 rfl ?_
  refine q_iconst hX d_Law_law_743 ic_1 ?_
  refine q_iadd hX d_Law_law_744 ?_
  refine q_sldX hX hsc d_Law_law_745 h (fun hi123 h => ?_)
  obtain ⟨u124, hc125, h⟩ := qbind h
  refine q_lVr hX (c_C_good X.l G hX.ad f _ _ hc125) cw_Law_77 rfl kc_0 rfl (Nat.le_of_ble_eq_true rfl) rfl (Nat.le_of_ble_eq_true rfl) d_Law_law_746 hT.2.1 ?_
  refine q_aload_n hX d_Law_law_749 rfl ?_
  refine q_aload_n hX d_Law_law_750 rfl ?_
  refine q_iload_n hX d_Law_law_751 rfl ?_
  refine q_iconst hX d_Law_law_752 ic_1 ?_
  refine q_iadd hX d_Law_law_753 ?_
  refine q_sldX hX hsc d_Law_law_754 h (fun hi126 h => ?_)
  obtain ⟨u127, hc128, h⟩ := qbind h
  refine q_lVr hX (c_M_good X.l G hX.ad f _ _ hc128) cw_Law_80 rfl kc_104 rfl (Nat.le_of_ble_eq_true rfl) rfl (Nat.le_of_ble_eq_true rfl) d_Law_law_755 hT.2.1 ?_
  refine q_icmp_eq hX d_Law_law_758 rfl h (fun _ h => ?_) (fun _ h => ?_)
  · refine q_iinc hX d_Law_law_1618 rfl (ii_6 _) (by decide) rfl rfl ?_
    refine q_goto hX d_Law_law_1621 rfl ?_
    exact q_mask [true, true, true, true] rfl (hk18 _ _ h)
  · refine q_iconst hX d_Law_law_761 ic_0 ?_
    exact q_lawret hX hT h d_Law_law_762
set_option maxHeartbeats 4000000 in
theorem t_law_b763 {G : qG} {X : qX} (hX : qOk G X "ChantryRollsLaw" code 4 ret 40) {xs : Nat → Int32} {L : Nat} (hsc : qSc G X L xs) {u : Int32} {f : Nat} {k18 : qMem → Int32 → Option (Int32)} {σ : qMem} {x3 : Int32} (hT : qLT G X u) (hk18 : ∀ (σ : qMem) (x3 : Int32), k18 σ x3 = some u → qV G X 147 4386 qKS qRF σ 18 [some (.ref 1048950), some (.ref 0), some (.ref 104), some (.int x3)] []) (h : p_law_b763 f xs L  k18 σ x3 = some u) : qV G X 147 4386 qKS qRF σ 763 [some (.ref 1048950), some (.ref 0), some (.ref 104), some (.int x3)] [] := by
  unfold p_law_b763 at h
  refine q_aload_n hX d_Law_law_763 rfl ?_
  refine q_aload_n hX d_Law_law_764 rfl ?_
  refine q_iload_n hX d_Law_law_765 rfl ?_
  refine q_iconst hX d_Law_law_766 ic_1 ?_
  refine q_iadd hX d_Law_law_767 ?_
  refine q_sldX hX hsc d_Law_law_768 h (fun hi129 h => ?_)
  refine q_aload_n hX d_Law_law_769 rfl ?_
  refine q_iload_n hX d_Law_law_770 rfl ?_
  refine q_iconst hX d_Law_law_771 ic_2 ?_
  refine q_iadd hX d_Law_law_772 ?_
  refine q_sldX hX hsc d_Law_law_773 h (fun hi130 h => ?_)
  refine q_aload_n hX d_Law_law_774 rfl ?_
  refine q_iload_n hX d_Law_law_775 rfl ?_
  refine q_iconst hX d_Law_law_776 ic_3 ?_
  refine q_iadd hX d_Law_law_777 ?_
  refine q_sldX hX hsc d_Law_law_778 h (fun hi131 h => ?_)
  obtain ⟨u132, hc133, h⟩ := qbind h
  refine q_lVr hX (c_C_join X.l G hX.ad f _ _ _ _ hc133) cw_Law_81 rfl kc_0 rfl (Nat.le_of_ble_eq_true rfl) rfl (Nat.le_of_ble_eq_true rfl) d_Law_law_779 hT.2.1 ?_
  refine q_aload_n hX d_Law_law_782 rfl ?_
  refine q_aload_n hX d_Law_law_783 rfl ?_
  refine q_iload_n hX d_Law_law_784 rfl ?_
  refine q_iconst hX d_Law_law_785 ic_1 ?_
  refine q_iadd hX d_Law_law_786 ?_
  refine q_sldX hX hsc d_Law_law_787 h (fun hi134 h => ?_)
  refine q_aload_n hX d_Law_law_788 rfl ?_
  refine q_iload_n hX d_Law_law_789 rfl ?_
  refine q_iconst hX d_Law_law_790 ic_2 ?_
  refine q_iadd hX d_Law_law_791 ?_
  refine q_sldX hX hsc d_Law_law_792 h (fun hi135 h => ?_)
  refine q_aload_n hX d_Law_law_793 rfl ?_
  refine q_iload_n hX d_Law_law_794 rfl ?_
  refine q_iconst hX d_Law_law_795 ic_3 ?_
  refine q_iadd hX d_Law_law_796 ?_
  refine q_sldX hX hsc d_Law_law_797 h (fun hi136 h => ?_)
  obtain ⟨u137, hc138, h⟩ := qbind h
  refine q_lVr hX (c_M_join X.l G hX.ad f _ _ _ _ hc138) cw_Law_84 rfl kc_104 rfl (Nat.le_of_ble_eq_true rfl) rfl (Nat.le_of_ble_eq_true rfl) d_Law_law_798 hT.2.1 ?_
  refine q_icmp_eq hX d_Law_law_801 rfl h (fun _ h => ?_) (fun _ h => ?_)
  · refine q_iinc hX d_Law_law_1618 rfl (ii_6 _) (by decide) rfl rfl ?_
    refine q_goto hX d_Law_law_1621 rfl ?_
    exact q_mask [true, true, true, true] rfl (hk18 _ _ h)
  · refine q_iconst hX d_Law_law_804 ic_0 ?_
    exact q_lawret hX hT h d_Law_law_805
set_option maxHeartbeats 4000000 in
theorem t_law_b806 {G : qG} {X : qX} (hX : qOk G X "ChantryRollsLaw" code 4 ret 40) {xs : Nat → Int32} {L : Nat} (hsc : qSc G X L xs) {u : Int32} {f : Nat} {k18 : qMem → Int32 → Option (Int32)} {σ : qMem} {x3 : Int32} (hT : qLT G X u) (hk18 : ∀ (σ : qMem) (x3 : Int32), k18 σ x3 = some u → qV G X 147 4386 qKS qRF σ 18 [some (.ref 1048950), some (.ref 0), some (.ref 104), some (.int x3)] []) (h : p_law_b806 f xs L  k18 σ x3 = some u) : qV G X 147 4386 qKS qRF σ 806 [some (.ref 1048950), some (.ref 0), some (.ref 104), some (.int x3)] [] := by
  unfold p_law_b806 at h
  refine q_aload_n hX d_Law_law_806 rfl ?_
  refine q_aload_n hX d_Law_law_807 rfl ?_
  refine q_iload_n hX d_Law_law_808 rfl ?_
  refine q_iconst hX d_Law_law_809 ic_1 ?_
  refine q_iadd hX d_Law_law_810 ?_
  refine q_sldX hX hsc d_Law_law_811 h (fun hi139 h => ?_)
  refine q_aload_n hX d_Law_law_812 rfl ?_
  refine q_iload_n hX d_Law_law_813 rfl ?_
  refine q_iconst hX d_Law_law_814 ic_2 ?_
  refine q_iadd hX d_Law_law_815 ?_
  refine q_sldX hX hsc d_Law_law_816 h (fun hi140 h => ?_)
  obtain ⟨u141, hc142, h⟩ := qbind h
  refine q_lVr hX (c_C_split X.l G hX.ad f _ _ _ hc142) cw_Law_85 rfl kc_0 rfl (Nat.le_of_ble_eq_true rfl) rfl (Nat.le_of_ble_eq_true rfl) d_Law_law_817 hT.2.1 ?_
  refine q_aload_n hX d_Law_law_820 rfl ?_
  refine q_aload_n hX d_Law_law_821 rfl ?_
  refine q_iload_n hX d_Law_law_822 rfl ?_
  refine q_iconst hX d_Law_law_823 ic_1 ?_
  refine q_iadd hX d_Law_law_824 ?_
  refine q_sldX hX hsc d_Law_law_825 h (fun hi143 h => ?_)
  refine q_aload_n hX d_Law_law_826 rfl ?_
  refine q_iload_n hX d_Law_law_827 rfl ?_
  refine q_iconst hX d_Law_law_828 ic_2 ?_
  refine q_iadd hX d_Law_law_829 ?_
  refine q_sldX hX hsc d_Law_law_830 h (fun hi144 h => ?_)
  obtain ⟨u145, hc146, h⟩ := qbind h
  refine q_lVr hX (c_M_split X.l G hX.ad f _ _ _ hc146) cw_Law_88 rfl kc_104 rfl (Nat.le_of_ble_eq_true rfl) rfl (Nat.le_of_ble_eq_true rfl) d_Law_law_831 hT.2.1 ?_
  refine q_icmp_eq hX d_Law_law_834 rfl h (fun _ h => ?_) (fun _ h => ?_)
  · refine q_iinc hX d_Law_law_1618 rfl (ii_6 _) (by decide) rfl rfl ?_
    refine q_goto hX d_Law_law_1621 rfl ?_
    exact q_mask [true, true, true, true] rfl (hk18 _ _ h)
  · refine q_iconst hX d_Law_law_837 ic_0 ?_
    exact q_lawret hX hT h d_Law_law_838
set_option maxHeartbeats 4000000 in
theorem t_law_b839 {G : qG} {X : qX} (hX : qOk G X "ChantryRollsLaw" code 4 ret 40) {xs : Nat → Int32} {L : Nat} (hsc : qSc G X L xs) {u : Int32} {f : Nat} {k18 : qMem → Int32 → Option (Int32)} {σ : qMem} {x3 : Int32} (hT : qLT G X u) (hk18 : ∀ (σ : qMem) (x3 : Int32), k18 σ x3 = some u → qV G X 147 4386 qKS qRF σ 18 [some (.ref 1048950), some (.ref 0), some (.ref 104), some (.int x3)] []) (h : p_law_b839 f xs L  k18 σ x3 = some u) : qV G X 147 4386 qKS qRF σ 839 [some (.ref 1048950), some (.ref 0), some (.ref 104), some (.int x3)] [] := by
  unfold p_law_b839 at h
  refine q_aload_n hX d_Law_law_839 rfl ?_
  refine q_aload_n hX d_Law_law_840 rfl ?_
  refine q_iload_n hX d_Law_law_841 rfl ?_
  refine q_iconst hX d_Law_law_842 ic_1 ?_
  refine q_iadd hX d_Law_law_843 ?_
  refine q_sldX hX hsc d_Law_law_844 h (fun hi147 h => ?_)
  refine q_aload_n hX d_Law_law_845 rfl ?_
  refine q_iload_n hX d_Law_law_846 rfl ?_
  refine q_iconst hX d_Law_law_847 ic_2 ?_
  refine q_iadd hX d_Law_law_848 ?_
  refine q_sldX hX hsc d_Law_law_849 h (fun hi148 h => ?_)
  refine q_aload_n hX d_Law_law_850 rfl ?_
  refine q_iload_n hX d_Law_law_851 rfl ?_
  refine q_iconst hX d_Law_law_852 ic_3 ?_
  refine q_iadd hX d_Law_law_853 ?_
  refine q_sldX hX hsc d_Law_law_854 h (fun hi149 h => ?_)
  obtain ⟨u150, hc151, h⟩ := qbind h
  refine q_lVr hX (c_C_house X.l G hX.ad f _ _ _ _ hc151) cw_Law_89 rfl kc_0 rfl (Nat.le_of_ble_eq_true rfl) rfl (Nat.le_of_ble_eq_true rfl) d_Law_law_855 hT.2.1 ?_
  refine q_aload_n hX d_Law_law_858 rfl ?_
  refine q_aload_n hX d_Law_law_859 rfl ?_
  refine q_iload_n hX d_Law_law_860 rfl ?_
  refine q_iconst hX d_Law_law_861 ic_1 ?_
  refine q_iadd hX d_Law_law_862 ?_
  refine q_sldX hX hsc d_Law_law_863 h (fun hi152 h => ?_)
  refine q_aload_n hX d_Law_law_864 rfl ?_
  refine q_iload_n hX d_Law_law_865 rfl ?_
  refine q_iconst hX d_Law_law_866 ic_2 ?_
  refine q_iadd hX d_Law_law_867 ?_
  refine q_sldX hX hsc d_Law_law_868 h (fun hi153 h => ?_)
  refine q_aload_n hX d_Law_law_869 rfl ?_
  refine q_iload_n hX d_Law_law_870 rfl ?_
  refine q_iconst hX d_Law_law_871 ic_3 ?_
  refine q_iadd hX d_Law_law_872 ?_
  refine q_sldX hX hsc d_Law_law_873 h (fun hi154 h => ?_)
  obtain ⟨u155, hc156, h⟩ := qbind h
  refine q_lVr hX (c_M_house X.l G hX.ad f _ _ _ _ hc156) cw_Law_92 rfl kc_104 rfl (Nat.le_of_ble_eq_true rfl) rfl (Nat.le_of_ble_eq_true rfl) d_Law_law_874 hT.2.1 ?_
  refine q_icmp_eq hX d_Law_law_877 rfl h (fun _ h => ?_) (fun _ h => ?_)
  · refine q_iinc hX d_Law_law_1618 rfl (ii_6 _) (by decide) rfl rfl ?_
    refine q_goto hX d_Law_law_1621 rfl ?_
    exact q_mask [true, true, true, true] rfl (hk18 _ _ h)
  · refine q_iconst hX d_Law_law_880 ic_0 ?_
    exact q_lawret hX hT h d_Law_law_881
set_option maxHeartbeats 4000000 in
theorem t_law_b882 {G : qG} {X : qX} (hX : qOk G X "ChantryRollsLaw" code 4 ret 40) {xs : Nat → Int32} {L : Nat} (hsc : qSc G X L xs) {u : Int32} {f : Nat} {k18 : qMem → Int32 → Option (Int32)} {σ : qMem} {x3 : Int32} (hT : qLT G X u) (hk18 : ∀ (σ : qMem) (x3 : Int32), k18 σ x3 = some u → qV G X 147 4386 qKS qRF σ 18 [some (.ref 1048950), some (.ref 0), some (.ref 104), some (.int x3)] []) (h : p_law_b882 f xs L  k18 σ x3 = some u) : qV G X 147 4386 qKS qRF σ 882 [some (.ref 1048950), some (.ref 0), some (.ref 104), some (.int x3)] [] := by
  unfold p_law_b882 at h
  refine q_aload_n hX d_Law_law_882 rfl ?_
  refine q_aload_n hX d_Law_law_883 rfl ?_
  refine q_iload_n hX d_Law_law_884 rfl ?_
  refine q_iconst hX d_Law_law_885 ic_1 ?_
  refine q_iadd hX d_Law_law_886 ?_
  refine q_sldX hX hsc d_Law_law_887 h (fun hi157 h => ?_)
  refine q_aload_n hX d_Law_law_888 rfl ?_
  refine q_iload_n hX d_Law_law_889 rfl ?_
  refine q_iconst hX d_Law_law_890 ic_2 ?_
  refine q_iadd hX d_Law_law_891 ?_
  refine q_sldX hX hsc d_Law_law_892 h (fun hi158 h => ?_)
  refine q_aload_n hX d_Law_law_893 rfl ?_
  refine q_iload_n hX d_Law_law_894 rfl ?_
  refine q_iconst hX d_Law_law_895 ic_3 ?_
  refine q_iadd hX d_Law_law_896 ?_
  refine q_sldX hX hsc d_Law_law_897 h (fun hi159 h => ?_)
  obtain ⟨u160, hc161, h⟩ := qbind h
  refine q_lVr hX (c_C_repair X.l G hX.ad f _ _ _ _ hc161) cw_Law_93 rfl kc_0 rfl (Nat.le_of_ble_eq_true rfl) rfl (Nat.le_of_ble_eq_true rfl) d_Law_law_898 hT.2.1 ?_
  refine q_aload_n hX d_Law_law_901 rfl ?_
  refine q_aload_n hX d_Law_law_902 rfl ?_
  refine q_iload_n hX d_Law_law_903 rfl ?_
  refine q_iconst hX d_Law_law_904 ic_1 ?_
  refine q_iadd hX d_Law_law_905 ?_
  refine q_sldX hX hsc d_Law_law_906 h (fun hi162 h => ?_)
  refine q_aload_n hX d_Law_law_907 rfl ?_
  refine q_iload_n hX d_Law_law_908 rfl ?_
  refine q_iconst hX d_Law_law_909 ic_2 ?_
  refine q_iadd hX d_Law_law_910 ?_
  refine q_sldX hX hsc d_Law_law_911 h (fun hi163 h => ?_)
  refine q_aload_n hX d_Law_law_912 rfl ?_
  refine q_iload_n hX d_Law_law_913 rfl ?_
  refine q_iconst hX d_Law_law_914 ic_3 ?_
  refine q_iadd hX d_Law_law_915 ?_
  refine q_sldX hX hsc d_Law_law_916 h (fun hi164 h => ?_)
  obtain ⟨u165, hc166, h⟩ := qbind h
  refine q_lVr hX (c_M_repair X.l G hX.ad f _ _ _ _ hc166) cw_Law_96 rfl kc_104 rfl (Nat.le_of_ble_eq_true rfl) rfl (Nat.le_of_ble_eq_true rfl) d_Law_law_917 hT.2.1 ?_
  refine q_icmp_eq hX d_Law_law_920 rfl h (fun _ h => ?_) (fun _ h => ?_)
  · refine q_iinc hX d_Law_law_1618 rfl (ii_6 _) (by decide) rfl rfl ?_
    refine q_goto hX d_Law_law_1621 rfl ?_
    exact q_mask [true, true, true, true] rfl (hk18 _ _ h)
  · refine q_iconst hX d_Law_law_923 ic_0 ?_
    exact q_lawret hX hT h d_Law_law_924
set_option maxHeartbeats 4000000 in
theorem t_law_b925 {G : qG} {X : qX} (hX : qOk G X "ChantryRollsLaw" code 4 ret 40) {xs : Nat → Int32} {L : Nat} (hsc : qSc G X L xs) {u : Int32} {f : Nat} {k18 : qMem → Int32 → Option (Int32)} {σ : qMem} {x3 : Int32} (hT : qLT G X u) (hk18 : ∀ (σ : qMem) (x3 : Int32), k18 σ x3 = some u → qV G X 147 4386 qKS qRF σ 18 [some (.ref 1048950), some (.ref 0), some (.ref 104), some (.int x3)] []) (h : p_law_b925 f xs L  k18 σ x3 = some u) : qV G X 147 4386 qKS qRF σ 925 [some (.ref 1048950), some (.ref 0), some (.ref 104), some (.int x3)] [] := by
  unfold p_law_b925 at h
  refine q_aload_n hX d_Law_law_925 rfl ?_
  refine q_aload_n hX d_Law_law_926 rfl ?_
  refine q_iload_n hX d_Law_law_927 rfl ?_
  refine q_iconst hX d_Law_law_928 ic_1 ?_
  refine q_iadd hX d_Law_law_929 ?_
  refine q_sldX hX hsc d_Law_law_930 h (fun hi167 h => ?_)
  refine q_aload_n hX d_Law_law_931 rfl ?_
  refine q_iload_n hX d_Law_law_932 rfl ?_
  refine q_iconst hX d_Law_law_933 ic_2 ?_
  refine q_iadd hX d_Law_law_934 ?_
  refine q_sldX hX hsc d_Law_law_935 h (fun hi168 h => ?_)
  refine q_aload_n hX d_Law_law_936 rfl ?_
  refine q_iload_n hX d_Law_law_937 rfl ?_
  refine q_iconst hX d_Law_law_938 ic_3 ?_
  refine q_iadd hX d_Law_law_939 ?_
  refine q_sldX hX hsc d_Law_law_940 h (fun hi169 h => ?_)
  obtain ⟨u170, hc171, h⟩ := qbind h
  refine q_lVr hX (c_C_empty X.l G hX.ad f _ _ _ _ hc171) cw_Law_97 rfl kc_0 rfl (Nat.le_of_ble_eq_true rfl) rfl (Nat.le_of_ble_eq_true rfl) d_Law_law_941 hT.2.1 ?_
  refine q_aload_n hX d_Law_law_944 rfl ?_
  refine q_aload_n hX d_Law_law_945 rfl ?_
  refine q_iload_n hX d_Law_law_946 rfl ?_
  refine q_iconst hX d_Law_law_947 ic_1 ?_
  refine q_iadd hX d_Law_law_948 ?_
  refine q_sldX hX hsc d_Law_law_949 h (fun hi172 h => ?_)
  refine q_aload_n hX d_Law_law_950 rfl ?_
  refine q_iload_n hX d_Law_law_951 rfl ?_
  refine q_iconst hX d_Law_law_952 ic_2 ?_
  refine q_iadd hX d_Law_law_953 ?_
  refine q_sldX hX hsc d_Law_law_954 h (fun hi173 h => ?_)
  refine q_aload_n hX d_Law_law_955 rfl ?_
  refine q_iload_n hX d_Law_law_956 rfl ?_
  refine q_iconst hX d_Law_law_957 ic_3 ?_
  refine q_iadd hX d_Law_law_958 ?_
  refine q_sldX hX hsc d_Law_law_959 h (fun hi174 h => ?_)
  obtain ⟨u175, hc176, h⟩ := qbind h
  refine q_lVr hX (c_M_empty X.l G hX.ad f _ _ _ _ hc176) cw_Law_100 rfl kc_104 rfl (Nat.le_of_ble_eq_true rfl) rfl (Nat.le_of_ble_eq_true rfl) d_Law_law_960 hT.2.1 ?_
  refine q_icmp_eq hX d_Law_law_963 rfl h (fun _ h => ?_) (fun _ h => ?_)
  · refine q_iinc hX d_Law_law_1618 rfl (ii_6 _) (by decide) rfl rfl ?_
    refine q_goto hX d_Law_law_1621 rfl ?_
    exact q_mask [true, true, true, true] rfl (hk18 _ _ h)
  · refine q_iconst hX d_Law_law_966 ic_0 ?_
    exact q_lawret hX hT h d_Law_law_967
set_option maxHeartbeats 4000000 in
theorem t_law_b968 {G : qG} {X : qX} (hX : qOk G X "ChantryRollsLaw" code 4 ret 40) {xs : Nat → Int32} {L : Nat} (hsc : qSc G X L xs) {u : Int32} {f : Nat} {k18 : qMem → Int32 → Option (Int32)} {σ : qMem} {x3 : Int32} (hT : qLT G X u) (hk18 : ∀ (σ : qMem) (x3 : Int32), k18 σ x3 = some u → qV G X 147 4386 qKS qRF σ 18 [some (.ref 1048950), some (.ref 0), some (.ref 104), some (.int x3)] []) (h : p_law_b968 f xs L  k18 σ x3 = some u) : qV G X 147 4386 qKS qRF σ 968 [some (.ref 1048950), some (.ref 0), some (.ref 104), some (.int x3)] [] := by
  unfold p_law_b968 at h
  refine q_aload_n hX d_Law_law_968 rfl ?_
  refine q_aload_n hX d_Law_law_969 rfl ?_
  refine q_iload_n hX d_Law_law_970 rfl ?_
  refine q_iconst hX d_Law_law_971 ic_1 ?_
  refine q_iadd hX d_Law_law_972 ?_
  refine q_sldX hX hsc d_Law_law_973 h (fun hi177 h => ?_)
  refine q_aload_n hX d_Law_law_974 rfl ?_
  refine q_iload_n hX d_Law_law_975 rfl ?_
  refine q_iconst hX d_Law_law_976 ic_2 ?_
  refine q_iadd hX d_Law_law_977 ?_
  refine q_sldX hX hsc d_Law_law_978 h (fun hi178 h => ?_)
  obtain ⟨u179, hc180, h⟩ := qbind h
  refine q_lVr hX (c_C_rent X.l G hX.ad f _ _ _ hc180) cw_Law_101 rfl kc_0 rfl (Nat.le_of_ble_eq_true rfl) rfl (Nat.le_of_ble_eq_true rfl) d_Law_law_979 hT.2.1 ?_
  refine q_aload_n hX d_Law_law_982 rfl ?_
  refine q_aload_n hX d_Law_law_983 rfl ?_
  refine q_iload_n hX d_Law_law_984 rfl ?_
  refine q_iconst hX d_Law_law_985 ic_1 ?_
  refine q_iadd hX d_Law_law_986 ?_
  refine q_sldX hX hsc d_Law_law_987 h (fun hi181 h => ?_)
  refine q_aload_n hX d_Law_law_988 rfl ?_
  refine q_iload_n hX d_Law_law_989 rfl ?_
  refine q_iconst hX d_Law_law_990 ic_2 ?_
  refine q_iadd hX d_Law_law_991 ?_
  refine q_sldX hX hsc d_Law_law_992 h (fun hi182 h => ?_)
  obtain ⟨u183, hc184, h⟩ := qbind h
  refine q_lVr hX (c_M_rent X.l G hX.ad f _ _ _ hc184) cw_Law_104 rfl kc_104 rfl (Nat.le_of_ble_eq_true rfl) rfl (Nat.le_of_ble_eq_true rfl) d_Law_law_993 hT.2.1 ?_
  refine q_icmp_eq hX d_Law_law_996 rfl h (fun _ h => ?_) (fun _ h => ?_)
  · refine q_iinc hX d_Law_law_1618 rfl (ii_6 _) (by decide) rfl rfl ?_
    refine q_goto hX d_Law_law_1621 rfl ?_
    exact q_mask [true, true, true, true] rfl (hk18 _ _ h)
  · refine q_iconst hX d_Law_law_999 ic_0 ?_
    exact q_lawret hX hT h d_Law_law_1000
set_option maxHeartbeats 4000000 in
theorem t_law_b1001 {G : qG} {X : qX} (hX : qOk G X "ChantryRollsLaw" code 4 ret 40) {xs : Nat → Int32} {L : Nat} (hsc : qSc G X L xs) {u : Int32} {f : Nat} {k18 : qMem → Int32 → Option (Int32)} {σ : qMem} {x3 : Int32} (hT : qLT G X u) (hk18 : ∀ (σ : qMem) (x3 : Int32), k18 σ x3 = some u → qV G X 147 4386 qKS qRF σ 18 [some (.ref 1048950), some (.ref 0), some (.ref 104), some (.int x3)] []) (h : p_law_b1001 f xs L  k18 σ x3 = some u) : qV G X 147 4386 qKS qRF σ 1001 [some (.ref 1048950), some (.ref 0), some (.ref 104), some (.int x3)] [] := by
  unfold p_law_b1001 at h
  refine q_aload_n hX d_Law_law_1001 rfl ?_
  refine q_aload_n hX d_Law_law_1002 rfl ?_
  refine q_iload_n hX d_Law_law_1003 rfl ?_
  refine q_iconst hX d_Law_law_1004 ic_1 ?_
  refine q_iadd hX d_Law_law_1005 ?_
  refine q_sldX hX hsc d_Law_law_1006 h (fun hi185 h => ?_)
  refine q_aload_n hX d_Law_law_1007 rfl ?_
  refine q_iload_n hX d_Law_law_1008 rfl ?_
  refine q_iconst hX d_Law_law_1009 ic_2 ?_
  refine q_iadd hX d_Law_law_1010 ?_
  refine q_sldX hX hsc d_Law_law_1011 h (fun hi186 h => ?_)
  refine q_aload_n hX d_Law_law_1012 rfl ?_
  refine q_iload_n hX d_Law_law_1013 rfl ?_
  refine q_iconst hX d_Law_law_1014 ic_3 ?_
  refine q_iadd hX d_Law_law_1015 ?_
  refine q_sldX hX hsc d_Law_law_1016 h (fun hi187 h => ?_)
  obtain ⟨u188, hc189, h⟩ := qbind h
  refine q_lVr hX (c_C_comes X.l G hX.ad f _ _ _ _ hc189) cw_Law_105 rfl kc_0 rfl (Nat.le_of_ble_eq_true rfl) rfl (Nat.le_of_ble_eq_true rfl) d_Law_law_1017 hT.2.1 ?_
  refine q_aload_n hX d_Law_law_1020 rfl ?_
  refine q_aload_n hX d_Law_law_1021 rfl ?_
  refine q_iload_n hX d_Law_law_1022 rfl ?_
  refine q_iconst hX d_Law_law_1023 ic_1 ?_
  refine q_iadd hX d_Law_law_1024 ?_
  refine q_sldX hX hsc d_Law_law_1025 h (fun hi190 h => ?_)
  refine q_aload_n hX d_Law_law_1026 rfl ?_
  refine q_iload_n hX d_Law_law_1027 rfl ?_
  refine q_iconst hX d_Law_law_1028 ic_2 ?_
  refine q_iadd hX d_Law_law_1029 ?_
  refine q_sldX hX hsc d_Law_law_1030 h (fun hi191 h => ?_)
  refine q_aload_n hX d_Law_law_1031 rfl ?_
  refine q_iload_n hX d_Law_law_1032 rfl ?_
  refine q_iconst hX d_Law_law_1033 ic_3 ?_
  refine q_iadd hX d_Law_law_1034 ?_
  refine q_sldX hX hsc d_Law_law_1035 h (fun hi192 h => ?_)
  obtain ⟨u193, hc194, h⟩ := qbind h
  refine q_lVr hX (c_M_comes X.l G hX.ad f _ _ _ _ hc194) cw_Law_108 rfl kc_104 rfl (Nat.le_of_ble_eq_true rfl) rfl (Nat.le_of_ble_eq_true rfl) d_Law_law_1036 hT.2.1 ?_
  refine q_icmp_eq hX d_Law_law_1039 rfl h (fun _ h => ?_) (fun _ h => ?_)
  · refine q_iinc hX d_Law_law_1618 rfl (ii_6 _) (by decide) rfl rfl ?_
    refine q_goto hX d_Law_law_1621 rfl ?_
    exact q_mask [true, true, true, true] rfl (hk18 _ _ h)
  · refine q_iconst hX d_Law_law_1042 ic_0 ?_
    exact q_lawret hX hT h d_Law_law_1043
set_option maxHeartbeats 4000000 in
theorem t_law_b1044 {G : qG} {X : qX} (hX : qOk G X "ChantryRollsLaw" code 4 ret 40) {xs : Nat → Int32} {L : Nat} (hsc : qSc G X L xs) {u : Int32} {f : Nat} {k18 : qMem → Int32 → Option (Int32)} {σ : qMem} {x3 : Int32} (hT : qLT G X u) (hk18 : ∀ (σ : qMem) (x3 : Int32), k18 σ x3 = some u → qV G X 147 4386 qKS qRF σ 18 [some (.ref 1048950), some (.ref 0), some (.ref 104), some (.int x3)] []) (h : p_law_b1044 f xs L  k18 σ x3 = some u) : qV G X 147 4386 qKS qRF σ 1044 [some (.ref 1048950), some (.ref 0), some (.ref 104), some (.int x3)] [] := by
  unfold p_law_b1044 at h
  refine q_aload_n hX d_Law_law_1044 rfl ?_
  refine q_aload_n hX d_Law_law_1045 rfl ?_
  refine q_iload_n hX d_Law_law_1046 rfl ?_
  refine q_iconst hX d_Law_law_1047 ic_1 ?_
  refine q_iadd hX d_Law_law_1048 ?_
  refine q_sldX hX hsc d_Law_law_1049 h (fun hi195 h => ?_)
  obtain ⟨u196, hc197, h⟩ := qbind h
  refine q_lVr hX (c_C_fails X.l G hX.ad f _ _ hc197) cw_Law_109 rfl kc_0 rfl (Nat.le_of_ble_eq_true rfl) rfl (Nat.le_of_ble_eq_true rfl) d_Law_law_1050 hT.2.1 ?_
  refine q_aload_n hX d_Law_law_1053 rfl ?_
  refine q_aload_n hX d_Law_law_1054 rfl ?_
  refine q_iload_n hX d_Law_law_1055 rfl ?_
  refine q_iconst hX d_Law_law_1056 ic_1 ?_
  refine q_iadd hX d_Law_law_1057 ?_
  refine q_sldX hX hsc d_Law_law_1058 h (fun hi198 h => ?_)
  obtain ⟨u199, hc200, h⟩ := qbind h
  refine q_lVr hX (c_M_fails X.l G hX.ad f _ _ hc200) cw_Law_112 rfl kc_104 rfl (Nat.le_of_ble_eq_true rfl) rfl (Nat.le_of_ble_eq_true rfl) d_Law_law_1059 hT.2.1 ?_
  refine q_icmp_eq hX d_Law_law_1062 rfl h (fun _ h => ?_) (fun _ h => ?_)
  · refine q_iinc hX d_Law_law_1618 rfl (ii_6 _) (by decide) rfl rfl ?_
    refine q_goto hX d_Law_law_1621 rfl ?_
    exact q_mask [true, true, true, true] rfl (hk18 _ _ h)
  · refine q_iconst hX d_Law_law_1065 ic_0 ?_
    exact q_lawret hX hT h d_Law_law_1066
set_option maxHeartbeats 4000000 in
theorem t_law_b1067 {G : qG} {X : qX} (hX : qOk G X "ChantryRollsLaw" code 4 ret 40) {xs : Nat → Int32} {L : Nat} (hsc : qSc G X L xs) {u : Int32} {f : Nat} {k18 : qMem → Int32 → Option (Int32)} {σ : qMem} {x3 : Int32} (hT : qLT G X u) (hk18 : ∀ (σ : qMem) (x3 : Int32), k18 σ x3 = some u → qV G X 147 4386 qKS qRF σ 18 [some (.ref 1048950), some (.ref 0), some (.ref 104), some (.int x3)] []) (h : p_law_b1067 f xs L  k18 σ x3 = some u) : qV G X 147 4386 qKS qRF σ 1067 [some (.ref 1048950), some (.ref 0), some (.ref 104), some (.int x3)] [] := by
  unfold p_law_b1067 at h
  refine q_aload_n hX d_Law_law_1067 rfl ?_
  refine q_aload_n hX d_Law_law_1068 rfl ?_
  refine q_iload_n hX d_Law_law_1069 rfl ?_
  refine q_iconst hX d_Law_law_1070 ic_1 ?_
  refine q_iadd hX d_Law_law_1071 ?_
  refine q_sldX hX hsc d_Law_law_1072 h (fun hi201 h => ?_)
  refine q_aload_n hX d_Law_law_1073 rfl ?_
  refine q_iload_n hX d_Law_law_1074 rfl ?_
  refine q_iconst hX d_Law_law_1075 ic_2 ?_
  refine q_iadd hX d_Law_law_1076 ?_
  refine q_sldX hX hsc d_Law_law_1077 h (fun hi202 h => ?_)
  obtain ⟨u203, hc204, h⟩ := qbind h
  refine q_lVr hX (c_C_price X.l G hX.ad f _ _ _ hc204) cw_Law_113 rfl kc_0 rfl (Nat.le_of_ble_eq_true rfl) rfl (Nat.le_of_ble_eq_true rfl) d_Law_law_1078 hT.2.1 ?_
  refine q_aload_n hX d_Law_law_1081 rfl ?_
  refine q_aload_n hX d_Law_law_1082 rfl ?_
  refine q_iload_n hX d_Law_law_1083 rfl ?_
  refine q_iconst hX d_Law_law_1084 ic_1 ?_
  refine q_iadd hX d_Law_law_1085 ?_
  refine q_sldX hX hsc d_Law_law_1086 h (fun hi205 h => ?_)
  refine q_aload_n hX d_Law_law_1087 rfl ?_
  refine q_iload_n hX d_Law_law_1088 rfl ?_
  refine q_iconst hX d_Law_law_1089 ic_2 ?_
  refine q_iadd hX d_Law_law_1090 ?_
  refine q_sldX hX hsc d_Law_law_1091 h (fun hi206 h => ?_)
  obtain ⟨u207, hc208, h⟩ := qbind h
  refine q_lVr hX (c_M_price X.l G hX.ad f _ _ _ hc208) cw_Law_116 rfl kc_104 rfl (Nat.le_of_ble_eq_true rfl) rfl (Nat.le_of_ble_eq_true rfl) d_Law_law_1092 hT.2.1 ?_
  refine q_icmp_eq hX d_Law_law_1095 rfl h (fun _ h => ?_) (fun _ h => ?_)
  · refine q_iinc hX d_Law_law_1618 rfl (ii_6 _) (by decide) rfl rfl ?_
    refine q_goto hX d_Law_law_1621 rfl ?_
    exact q_mask [true, true, true, true] rfl (hk18 _ _ h)
  · refine q_iconst hX d_Law_law_1098 ic_0 ?_
    exact q_lawret hX hT h d_Law_law_1099
set_option maxHeartbeats 4000000 in
theorem t_law_b1100 {G : qG} {X : qX} (hX : qOk G X "ChantryRollsLaw" code 4 ret 40) {xs : Nat → Int32} {L : Nat} (hsc : qSc G X L xs) {u : Int32} {f : Nat} {k18 : qMem → Int32 → Option (Int32)} {σ : qMem} {x3 : Int32} (hT : qLT G X u) (hk18 : ∀ (σ : qMem) (x3 : Int32), k18 σ x3 = some u → qV G X 147 4386 qKS qRF σ 18 [some (.ref 1048950), some (.ref 0), some (.ref 104), some (.int x3)] []) (h : p_law_b1100 f xs L  k18 σ x3 = some u) : qV G X 147 4386 qKS qRF σ 1100 [some (.ref 1048950), some (.ref 0), some (.ref 104), some (.int x3)] [] := by
  unfold p_law_b1100 at h
  refine q_aload_n hX d_Law_law_1100 rfl ?_
  refine q_aload_n hX d_Law_law_1101 rfl ?_
  refine q_iload_n hX d_Law_law_1102 rfl ?_
  refine q_iconst hX d_Law_law_1103 ic_1 ?_
  refine q_iadd hX d_Law_law_1104 ?_
  refine q_sldX hX hsc d_Law_law_1105 h (fun hi209 h => ?_)
  obtain ⟨u210, hc211, h⟩ := qbind h
  refine q_lVr hX (c_C_spent X.l G hX.ad f _ _ hc211) cw_Law_117 rfl kc_0 rfl (Nat.le_of_ble_eq_true rfl) rfl (Nat.le_of_ble_eq_true rfl) d_Law_law_1106 hT.2.1 ?_
  refine q_aload_n hX d_Law_law_1109 rfl ?_
  refine q_aload_n hX d_Law_law_1110 rfl ?_
  refine q_iload_n hX d_Law_law_1111 rfl ?_
  refine q_iconst hX d_Law_law_1112 ic_1 ?_
  refine q_iadd hX d_Law_law_1113 ?_
  refine q_sldX hX hsc d_Law_law_1114 h (fun hi212 h => ?_)
  obtain ⟨u213, hc214, h⟩ := qbind h
  refine q_lVr hX (c_M_spent X.l G hX.ad f _ _ hc214) cw_Law_120 rfl kc_104 rfl (Nat.le_of_ble_eq_true rfl) rfl (Nat.le_of_ble_eq_true rfl) d_Law_law_1115 hT.2.1 ?_
  refine q_icmp_eq hX d_Law_law_1118 rfl h (fun _ h => ?_) (fun _ h => ?_)
  · refine q_iinc hX d_Law_law_1618 rfl (ii_6 _) (by decide) rfl rfl ?_
    refine q_goto hX d_Law_law_1621 rfl ?_
    exact q_mask [true, true, true, true] rfl (hk18 _ _ h)
  · refine q_iconst hX d_Law_law_1121 ic_0 ?_
    exact q_lawret hX hT h d_Law_law_1122
set_option maxHeartbeats 4000000 in
theorem t_law_b1123 {G : qG} {X : qX} (hX : qOk G X "ChantryRollsLaw" code 4 ret 40) {xs : Nat → Int32} {L : Nat} (hsc : qSc G X L xs) {u : Int32} {f : Nat} {k18 : qMem → Int32 → Option (Int32)} {σ : qMem} {x3 : Int32} (hT : qLT G X u) (hk18 : ∀ (σ : qMem) (x3 : Int32), k18 σ x3 = some u → qV G X 147 4386 qKS qRF σ 18 [some (.ref 1048950), some (.ref 0), some (.ref 104), some (.int x3)] []) (h : p_law_b1123 f xs L  k18 σ x3 = some u) : qV G X 147 4386 qKS qRF σ 1123 [some (.ref 1048950), some (.ref 0), some (.ref 104), some (.int x3)] [] := by
  unfold p_law_b1123 at h
  refine q_aload_n hX d_Law_law_1123 rfl ?_
  refine q_aload_n hX d_Law_law_1124 rfl ?_
  refine q_iload_n hX d_Law_law_1125 rfl ?_
  refine q_iconst hX d_Law_law_1126 ic_1 ?_
  refine q_iadd hX d_Law_law_1127 ?_
  refine q_sldX hX hsc d_Law_law_1128 h (fun hi215 h => ?_)
  refine q_aload_n hX d_Law_law_1129 rfl ?_
  refine q_iload_n hX d_Law_law_1130 rfl ?_
  refine q_iconst hX d_Law_law_1131 ic_2 ?_
  refine q_iadd hX d_Law_law_1132 ?_
  refine q_sldX hX hsc d_Law_law_1133 h (fun hi216 h => ?_)
  refine q_aload_n hX d_Law_law_1134 rfl ?_
  refine q_iload_n hX d_Law_law_1135 rfl ?_
  refine q_iconst hX d_Law_law_1136 ic_3 ?_
  refine q_iadd hX d_Law_law_1137 ?_
  refine q_sldX hX hsc d_Law_law_1138 h (fun hi217 h => ?_)
  refine q_aload_n hX d_Law_law_1139 rfl ?_
  refine q_iload_n hX d_Law_law_1140 rfl ?_
  refine q_iconst hX d_Law_law_1141 ic_4 ?_
  refine q_iadd hX d_Law_law_1142 ?_
  refine q_sldX hX hsc d_Law_law_1143 h (fun hi218 h => ?_)
  refine q_aload_n hX d_Law_law_1144 rfl ?_
  refine q_iload_n hX d_Law_law_1145 rfl ?_
  refine q_iconst hX d_Law_law_1146 ic_5 ?_
  refine q_iadd hX d_Law_law_1147 ?_
  refine q_sldX hX hsc d_Law_law_1148 h (fun hi219 h => ?_)
  obtain ⟨u220, hc221, h⟩ := qbind h
  refine q_lVr hX (c_C_vacant X.l G hX.ad f _ _ _ _ _ _ hc221) cw_Law_121 rfl kc_0 rfl (Nat.le_of_ble_eq_true rfl) rfl (Nat.le_of_ble_eq_true rfl) d_Law_law_1149 hT.2.1 ?_
  refine q_aload_n hX d_Law_law_1152 rfl ?_
  refine q_aload_n hX d_Law_law_1153 rfl ?_
  refine q_iload_n hX d_Law_law_1154 rfl ?_
  refine q_iconst hX d_Law_law_1155 ic_1 ?_
  refine q_iadd hX d_Law_law_1156 ?_
  refine q_sldX hX hsc d_Law_law_1157 h (fun hi222 h => ?_)
  refine q_aload_n hX d_Law_law_1158 rfl ?_
  refine q_iload_n hX d_Law_law_1159 rfl ?_
  refine q_iconst hX d_Law_law_1160 ic_2 ?_
  refine q_iadd hX d_Law_law_1161 ?_
  refine q_sldX hX hsc d_Law_law_1162 h (fun hi223 h => ?_)
  refine q_aload_n hX d_Law_law_1163 rfl ?_
  refine q_iload_n hX d_Law_law_1164 rfl ?_
  refine q_iconst hX d_Law_law_1165 ic_3 ?_
  refine q_iadd hX d_Law_law_1166 ?_
  refine q_sldX hX hsc d_Law_law_1167 h (fun hi224 h => ?_)
  refine q_aload_n hX d_Law_law_1168 rfl ?_
  refine q_iload_n hX d_Law_law_1169 rfl ?_
  refine q_iconst hX d_Law_law_1170 ic_4 ?_
  refine q_iadd hX d_Law_law_1171 ?_
  refine q_sldX hX hsc d_Law_law_1172 h (fun hi225 h => ?_)
  refine q_aload_n hX d_Law_law_1173 rfl ?_
  refine q_iload_n hX d_Law_law_1174 rfl ?_
  refine q_iconst hX d_Law_law_1175 ic_5 ?_
  refine q_iadd hX d_Law_law_1176 ?_
  refine q_sldX hX hsc d_Law_law_1177 h (fun hi226 h => ?_)
  obtain ⟨u227, hc228, h⟩ := qbind h
  refine q_lVr hX (c_M_vacant X.l G hX.ad f _ _ _ _ _ _ hc228) cw_Law_124 rfl kc_104 rfl (Nat.le_of_ble_eq_true rfl) rfl (Nat.le_of_ble_eq_true rfl) d_Law_law_1178 hT.2.1 ?_
  refine q_icmp_eq hX d_Law_law_1181 rfl h (fun _ h => ?_) (fun _ h => ?_)
  · refine q_iinc hX d_Law_law_1618 rfl (ii_6 _) (by decide) rfl rfl ?_
    refine q_goto hX d_Law_law_1621 rfl ?_
    exact q_mask [true, true, true, true] rfl (hk18 _ _ h)
  · refine q_iconst hX d_Law_law_1184 ic_0 ?_
    exact q_lawret hX hT h d_Law_law_1185
set_option maxHeartbeats 4000000 in
theorem t_law_b1186 {G : qG} {X : qX} (hX : qOk G X "ChantryRollsLaw" code 4 ret 40) {xs : Nat → Int32} {L : Nat} (hsc : qSc G X L xs) {u : Int32} {f : Nat} {k18 : qMem → Int32 → Option (Int32)} {σ : qMem} {x3 : Int32} (hT : qLT G X u) (hk18 : ∀ (σ : qMem) (x3 : Int32), k18 σ x3 = some u → qV G X 147 4386 qKS qRF σ 18 [some (.ref 1048950), some (.ref 0), some (.ref 104), some (.int x3)] []) (h : p_law_b1186 f xs L  k18 σ x3 = some u) : qV G X 147 4386 qKS qRF σ 1186 [some (.ref 1048950), some (.ref 0), some (.ref 104), some (.int x3)] [] := by
  unfold p_law_b1186 at h
  refine q_aload_n hX d_Law_law_1186 rfl ?_
  refine q_aload_n hX d_Law_law_1187 rfl ?_
  refine q_iload_n hX d_Law_law_1188 rfl ?_
  refine q_iconst hX d_Law_law_1189 ic_1 ?_
  refine q_iadd hX d_Law_law_1190 ?_
  refine q_sldX hX hsc d_Law_law_1191 h (fun hi229 h => ?_)
  refine q_aload_n hX d_Law_law_1192 rfl ?_
  refine q_iload_n hX d_Law_law_1193 rfl ?_
  refine q_iconst hX d_Law_law_1194 ic_2 ?_
  refine q_iadd hX d_Law_law_1195 ?_
  refine q_sldX hX hsc d_Law_law_1196 h (fun hi230 h => ?_)
  obtain ⟨u231, hc232, h⟩ := qbind h
  refine q_lVr hX (c_C_turn X.l G hX.ad f _ _ _ hc232) cw_Law_125 rfl kc_0 rfl (Nat.le_of_ble_eq_true rfl) rfl (Nat.le_of_ble_eq_true rfl) d_Law_law_1197 hT.2.1 ?_
  refine q_aload_n hX d_Law_law_1200 rfl ?_
  refine q_aload_n hX d_Law_law_1201 rfl ?_
  refine q_iload_n hX d_Law_law_1202 rfl ?_
  refine q_iconst hX d_Law_law_1203 ic_1 ?_
  refine q_iadd hX d_Law_law_1204 ?_
  refine q_sldX hX hsc d_Law_law_1205 h (fun hi233 h => ?_)
  refine q_aload_n hX d_Law_law_1206 rfl ?_
  refine q_iload_n hX d_Law_law_1207 rfl ?_
  refine q_iconst hX d_Law_law_1208 ic_2 ?_
  refine q_iadd hX d_Law_law_1209 ?_
  refine q_sldX hX hsc d_Law_law_1210 h (fun hi234 h => ?_)
  obtain ⟨u235, hc236, h⟩ := qbind h
  refine q_lVr hX (c_M_turn X.l G hX.ad f _ _ _ hc236) cw_Law_128 rfl kc_104 rfl (Nat.le_of_ble_eq_true rfl) rfl (Nat.le_of_ble_eq_true rfl) d_Law_law_1211 hT.2.1 ?_
  refine q_icmp_eq hX d_Law_law_1214 rfl h (fun _ h => ?_) (fun _ h => ?_)
  · refine q_iinc hX d_Law_law_1618 rfl (ii_6 _) (by decide) rfl rfl ?_
    refine q_goto hX d_Law_law_1621 rfl ?_
    exact q_mask [true, true, true, true] rfl (hk18 _ _ h)
  · refine q_iconst hX d_Law_law_1217 ic_0 ?_
    exact q_lawret hX hT h d_Law_law_1218
set_option maxHeartbeats 4000000 in
theorem t_law_b1219 {G : qG} {X : qX} (hX : qOk G X "ChantryRollsLaw" code 4 ret 40) {xs : Nat → Int32} {L : Nat} (hsc : qSc G X L xs) {u : Int32} {f : Nat} {k18 : qMem → Int32 → Option (Int32)} {σ : qMem} {x3 : Int32} (hT : qLT G X u) (hk18 : ∀ (σ : qMem) (x3 : Int32), k18 σ x3 = some u → qV G X 147 4386 qKS qRF σ 18 [some (.ref 1048950), some (.ref 0), some (.ref 104), some (.int x3)] []) (h : p_law_b1219 f xs L  k18 σ x3 = some u) : qV G X 147 4386 qKS qRF σ 1219 [some (.ref 1048950), some (.ref 0), some (.ref 104), some (.int x3)] [] := by
  unfold p_law_b1219 at h
  refine q_aload_n hX d_Law_law_1219 rfl ?_
  refine q_aload_n hX d_Law_law_1220 rfl ?_
  refine q_iload_n hX d_Law_law_1221 rfl ?_
  refine q_iconst hX d_Law_law_1222 ic_1 ?_
  refine q_iadd hX d_Law_law_1223 ?_
  refine q_sldX hX hsc d_Law_law_1224 h (fun hi237 h => ?_)
  refine q_aload_n hX d_Law_law_1225 rfl ?_
  refine q_iload_n hX d_Law_law_1226 rfl ?_
  refine q_iconst hX d_Law_law_1227 ic_2 ?_
  refine q_iadd hX d_Law_law_1228 ?_
  refine q_sldX hX hsc d_Law_law_1229 h (fun hi238 h => ?_)
  refine q_aload_n hX d_Law_law_1230 rfl ?_
  refine q_iload_n hX d_Law_law_1231 rfl ?_
  refine q_iconst hX d_Law_law_1232 ic_3 ?_
  refine q_iadd hX d_Law_law_1233 ?_
  refine q_sldX hX hsc d_Law_law_1234 h (fun hi239 h => ?_)
  refine q_aload_n hX d_Law_law_1235 rfl ?_
  refine q_iload_n hX d_Law_law_1236 rfl ?_
  refine q_iconst hX d_Law_law_1237 ic_4 ?_
  refine q_iadd hX d_Law_law_1238 ?_
  refine q_sldX hX hsc d_Law_law_1239 h (fun hi240 h => ?_)
  obtain ⟨u241, hc242, h⟩ := qbind h
  refine q_lVr hX (c_C_act X.l G hX.ad f _ _ _ _ _ hc242) cw_Law_129 rfl kc_0 rfl (Nat.le_of_ble_eq_true rfl) rfl (Nat.le_of_ble_eq_true rfl) d_Law_law_1240 hT.2.1 ?_
  refine q_aload_n hX d_Law_law_1243 rfl ?_
  refine q_aload_n hX d_Law_law_1244 rfl ?_
  refine q_iload_n hX d_Law_law_1245 rfl ?_
  refine q_iconst hX d_Law_law_1246 ic_1 ?_
  refine q_iadd hX d_Law_law_1247 ?_
  refine q_sldX hX hsc d_Law_law_1248 h (fun hi243 h => ?_)
  refine q_aload_n hX d_Law_law_1249 rfl ?_
  refine q_iload_n hX d_Law_law_1250 rfl ?_
  refine q_iconst hX d_Law_law_1251 ic_2 ?_
  refine q_iadd hX d_Law_law_1252 ?_
  refine q_sldX hX hsc d_Law_law_1253 h (fun hi244 h => ?_)
  refine q_aload_n hX d_Law_law_1254 rfl ?_
  refine q_iload_n hX d_Law_law_1255 rfl ?_
  refine q_iconst hX d_Law_law_1256 ic_3 ?_
  refine q_iadd hX d_Law_law_1257 ?_
  refine q_sldX hX hsc d_Law_law_1258 h (fun hi245 h => ?_)
  refine q_aload_n hX d_Law_law_1259 rfl ?_
  refine q_iload_n hX d_Law_law_1260 rfl ?_
  refine q_iconst hX d_Law_law_1261 ic_4 ?_
  refine q_iadd hX d_Law_law_1262 ?_
  refine q_sldX hX hsc d_Law_law_1263 h (fun hi246 h => ?_)
  obtain ⟨u247, hc248, h⟩ := qbind h
  refine q_lVr hX (c_M_act X.l G hX.ad f _ _ _ _ _ hc248) cw_Law_133 rfl kc_104 rfl (Nat.le_of_ble_eq_true rfl) rfl (Nat.le_of_ble_eq_true rfl) d_Law_law_1264 hT.2.1 ?_
  refine q_icmp_eq hX d_Law_law_1267 rfl h (fun _ h => ?_) (fun _ h => ?_)
  · refine q_iinc hX d_Law_law_1618 rfl (ii_6 _) (by decide) rfl rfl ?_
    refine q_goto hX d_Law_law_1621 rfl ?_
    exact q_mask [true, true, true, true] rfl (hk18 _ _ h)
  · refine q_iconst hX d_Law_law_1270 ic_0 ?_
    exact q_lawret hX hT h d_Law_law_1271
set_option maxHeartbeats 4000000 in
theorem t_law_b1272 {G : qG} {X : qX} (hX : qOk G X "ChantryRollsLaw" code 4 ret 40) {xs : Nat → Int32} {L : Nat} (hsc : qSc G X L xs) {u : Int32} {f : Nat} {k18 : qMem → Int32 → Option (Int32)} {σ : qMem} {x3 : Int32} (hT : qLT G X u) (hk18 : ∀ (σ : qMem) (x3 : Int32), k18 σ x3 = some u → qV G X 147 4386 qKS qRF σ 18 [some (.ref 1048950), some (.ref 0), some (.ref 104), some (.int x3)] []) (h : p_law_b1272 f xs L  k18 σ x3 = some u) : qV G X 147 4386 qKS qRF σ 1272 [some (.ref 1048950), some (.ref 0), some (.ref 104), some (.int x3)] [] := by
  unfold p_law_b1272 at h
  refine q_aload_n hX d_Law_law_1272 rfl ?_
  refine q_aload_n hX d_Law_law_1273 rfl ?_
  refine q_iload_n hX d_Law_law_1274 rfl ?_
  refine q_iconst hX d_Law_law_1275 ic_1 ?_
  refine q_iadd hX d_Law_law_1276 ?_
  refine q_sldX hX hsc d_Law_law_1277 h (fun hi249 h => ?_)
  obtain ⟨u250, hc251, h⟩ := qbind h
  refine q_lVr hX (c_C_taken X.l G hX.ad f _ _ hc251) cw_Law_134 rfl kc_0 rfl (Nat.le_of_ble_eq_true rfl) rfl (Nat.le_of_ble_eq_true rfl) d_Law_law_1278 hT.2.1 ?_
  refine q_aload_n hX d_Law_law_1281 rfl ?_
  refine q_aload_n hX d_Law_law_1282 rfl ?_
  refine q_iload_n hX d_Law_law_1283 rfl ?_
  refine q_iconst hX d_Law_law_1284 ic_1 ?_
  refine q_iadd hX d_Law_law_1285 ?_
  refine q_sldX hX hsc d_Law_law_1286 h (fun hi252 h => ?_)
  obtain ⟨u253, hc254, h⟩ := qbind h
  refine q_lVr hX (c_M_taken X.l G hX.ad f _ _ hc254) cw_Law_137 rfl kc_104 rfl (Nat.le_of_ble_eq_true rfl) rfl (Nat.le_of_ble_eq_true rfl) d_Law_law_1287 hT.2.1 ?_
  refine q_icmp_eq hX d_Law_law_1290 rfl h (fun _ h => ?_) (fun _ h => ?_)
  · refine q_iinc hX d_Law_law_1618 rfl (ii_6 _) (by decide) rfl rfl ?_
    refine q_goto hX d_Law_law_1621 rfl ?_
    exact q_mask [true, true, true, true] rfl (hk18 _ _ h)
  · refine q_iconst hX d_Law_law_1293 ic_0 ?_
    exact q_lawret hX hT h d_Law_law_1294
set_option maxHeartbeats 4000000 in
theorem t_law_b1295 {G : qG} {X : qX} (hX : qOk G X "ChantryRollsLaw" code 4 ret 40) {xs : Nat → Int32} {L : Nat} (hsc : qSc G X L xs) {u : Int32} {f : Nat} {k18 : qMem → Int32 → Option (Int32)} {σ : qMem} {x3 : Int32} (hT : qLT G X u) (hk18 : ∀ (σ : qMem) (x3 : Int32), k18 σ x3 = some u → qV G X 147 4386 qKS qRF σ 18 [some (.ref 1048950), some (.ref 0), some (.ref 104), some (.int x3)] []) (h : p_law_b1295 f xs L  k18 σ x3 = some u) : qV G X 147 4386 qKS qRF σ 1295 [some (.ref 1048950), some (.ref 0), some (.ref 104), some (.int x3)] [] := by
  unfold p_law_b1295 at h
  refine q_aload_n hX d_Law_law_1295 rfl ?_
  refine q_aload_n hX d_Law_law_1296 rfl ?_
  refine q_iload_n hX d_Law_law_1297 rfl ?_
  refine q_iconst hX d_Law_law_1298 ic_1 ?_
  refine q_iadd hX d_Law_law_1299 ?_
  refine q_sldX hX hsc d_Law_law_1300 h (fun hi255 h => ?_)
  refine q_aload_n hX d_Law_law_1301 rfl ?_
  refine q_iload_n hX d_Law_law_1302 rfl ?_
  refine q_iconst hX d_Law_law_1303 ic_2 ?_
  refine q_iadd hX d_Law_law_1304 ?_
  refine q_sldX hX hsc d_Law_law_1305 h (fun hi256 h => ?_)
  obtain ⟨u257, hc258, h⟩ := qbind h
  refine q_lVr hX (c_C_pension X.l G hX.ad f _ _ _ hc258) cw_Law_138 rfl kc_0 rfl (Nat.le_of_ble_eq_true rfl) rfl (Nat.le_of_ble_eq_true rfl) d_Law_law_1306 hT.2.1 ?_
  refine q_aload_n hX d_Law_law_1309 rfl ?_
  refine q_aload_n hX d_Law_law_1310 rfl ?_
  refine q_iload_n hX d_Law_law_1311 rfl ?_
  refine q_iconst hX d_Law_law_1312 ic_1 ?_
  refine q_iadd hX d_Law_law_1313 ?_
  refine q_sldX hX hsc d_Law_law_1314 h (fun hi259 h => ?_)
  refine q_aload_n hX d_Law_law_1315 rfl ?_
  refine q_iload_n hX d_Law_law_1316 rfl ?_
  refine q_iconst hX d_Law_law_1317 ic_2 ?_
  refine q_iadd hX d_Law_law_1318 ?_
  refine q_sldX hX hsc d_Law_law_1319 h (fun hi260 h => ?_)
  obtain ⟨u261, hc262, h⟩ := qbind h
  refine q_lVr hX (c_M_pension X.l G hX.ad f _ _ _ hc262) cw_Law_141 rfl kc_104 rfl (Nat.le_of_ble_eq_true rfl) rfl (Nat.le_of_ble_eq_true rfl) d_Law_law_1320 hT.2.1 ?_
  refine q_icmp_eq hX d_Law_law_1323 rfl h (fun _ h => ?_) (fun _ h => ?_)
  · refine q_iinc hX d_Law_law_1618 rfl (ii_6 _) (by decide) rfl rfl ?_
    refine q_goto hX d_Law_law_1621 rfl ?_
    exact q_mask [true, true, true, true] rfl (hk18 _ _ h)
  · refine q_iconst hX d_Law_law_1326 ic_0 ?_
    exact q_lawret hX hT h d_Law_law_1327
set_option maxHeartbeats 4000000 in
theorem t_law_b1328 {G : qG} {X : qX} (hX : qOk G X "ChantryRollsLaw" code 4 ret 40) {xs : Nat → Int32} {L : Nat} (hsc : qSc G X L xs) {u : Int32} {f : Nat} {k18 : qMem → Int32 → Option (Int32)} {σ : qMem} {x3 : Int32} (hT : qLT G X u) (hk18 : ∀ (σ : qMem) (x3 : Int32), k18 σ x3 = some u → qV G X 147 4386 qKS qRF σ 18 [some (.ref 1048950), some (.ref 0), some (.ref 104), some (.int x3)] []) (h : p_law_b1328 f xs L  k18 σ x3 = some u) : qV G X 147 4386 qKS qRF σ 1328 [some (.ref 1048950), some (.ref 0), some (.ref 104), some (.int x3)] [] := by
  unfold p_law_b1328 at h
  refine q_aload_n hX d_Law_law_1328 rfl ?_
  refine q_aload_n hX d_Law_law_1329 rfl ?_
  refine q_iload_n hX d_Law_law_1330 rfl ?_
  refine q_iconst hX d_Law_law_1331 ic_1 ?_
  refine q_iadd hX d_Law_law_1332 ?_
  refine q_sldX hX hsc d_Law_law_1333 h (fun hi263 h => ?_)
  refine q_aload_n hX d_Law_law_1334 rfl ?_
  refine q_iload_n hX d_Law_law_1335 rfl ?_
  refine q_iconst hX d_Law_law_1336 ic_2 ?_
  refine q_iadd hX d_Law_law_1337 ?_
  refine q_sldX hX hsc d_Law_law_1338 h (fun hi264 h => ?_)
  refine q_aload_n hX d_Law_law_1339 rfl ?_
  refine q_iload_n hX d_Law_law_1340 rfl ?_
  refine q_iconst hX d_Law_law_1341 ic_3 ?_
  refine q_iadd hX d_Law_law_1342 ?_
  refine q_sldX hX hsc d_Law_law_1343 h (fun hi265 h => ?_)
  obtain ⟨u266, hc267, h⟩ := qbind h
  refine q_lVr hX (c_C_bid X.l G hX.ad f _ _ _ _ hc267) cw_Law_142 rfl kc_0 rfl (Nat.le_of_ble_eq_true rfl) rfl (Nat.le_of_ble_eq_true rfl) d_Law_law_1344 hT.2.1 ?_
  refine q_aload_n hX d_Law_law_1347 rfl ?_
  refine q_aload_n hX d_Law_law_1348 rfl ?_
  refine q_iload_n hX d_Law_law_1349 rfl ?_
  refine q_iconst hX d_Law_law_1350 ic_1 ?_
  refine q_iadd hX d_Law_law_1351 ?_
  refine q_sldX hX hsc d_Law_law_1352 h (fun hi268 h => ?_)
  refine q_aload_n hX d_Law_law_1353 rfl ?_
  refine q_iload_n hX d_Law_law_1354 rfl ?_
  refine q_iconst hX d_Law_law_1355 ic_2 ?_
  refine q_iadd hX d_Law_law_1356 ?_
  refine q_sldX hX hsc d_Law_law_1357 h (fun hi269 h => ?_)
  refine q_aload_n hX d_Law_law_1358 rfl ?_
  refine q_iload_n hX d_Law_law_1359 rfl ?_
  refine q_iconst hX d_Law_law_1360 ic_3 ?_
  refine q_iadd hX d_Law_law_1361 ?_
  refine q_sldX hX hsc d_Law_law_1362 h (fun hi270 h => ?_)
  obtain ⟨u271, hc272, h⟩ := qbind h
  refine q_lVr hX (c_M_bid X.l G hX.ad f _ _ _ _ hc272) cw_Law_145 rfl kc_104 rfl (Nat.le_of_ble_eq_true rfl) rfl (Nat.le_of_ble_eq_true rfl) d_Law_law_1363 hT.2.1 ?_
  refine q_icmp_eq hX d_Law_law_1366 rfl h (fun _ h => ?_) (fun _ h => ?_)
  · refine q_iinc hX d_Law_law_1618 rfl (ii_6 _) (by decide) rfl rfl ?_
    refine q_goto hX d_Law_law_1621 rfl ?_
    exact q_mask [true, true, true, true] rfl (hk18 _ _ h)
  · refine q_iconst hX d_Law_law_1369 ic_0 ?_
    exact q_lawret hX hT h d_Law_law_1370
set_option maxHeartbeats 4000000 in
theorem t_law_b1371 {G : qG} {X : qX} (hX : qOk G X "ChantryRollsLaw" code 4 ret 40) {xs : Nat → Int32} {L : Nat} (hsc : qSc G X L xs) {u : Int32} {f : Nat} {k18 : qMem → Int32 → Option (Int32)} {σ : qMem} {x3 : Int32} (hT : qLT G X u) (hk18 : ∀ (σ : qMem) (x3 : Int32), k18 σ x3 = some u → qV G X 147 4386 qKS qRF σ 18 [some (.ref 1048950), some (.ref 0), some (.ref 104), some (.int x3)] []) (h : p_law_b1371 f xs L  k18 σ x3 = some u) : qV G X 147 4386 qKS qRF σ 1371 [some (.ref 1048950), some (.ref 0), some (.ref 104), some (.int x3)] [] := by
  unfold p_law_b1371 at h
  refine q_aload_n hX d_Law_law_1371 rfl ?_
  refine q_aload_n hX d_Law_law_1372 rfl ?_
  refine q_iload_n hX d_Law_law_1373 rfl ?_
  refine q_iconst hX d_Law_law_1374 ic_1 ?_
  refine q_iadd hX d_Law_law_1375 ?_
  refine q_sldX hX hsc d_Law_law_1376 h (fun hi273 h => ?_)
  refine q_aload_n hX d_Law_law_1377 rfl ?_
  refine q_iload_n hX d_Law_law_1378 rfl ?_
  refine q_iconst hX d_Law_law_1379 ic_2 ?_
  refine q_iadd hX d_Law_law_1380 ?_
  refine q_sldX hX hsc d_Law_law_1381 h (fun hi274 h => ?_)
  obtain ⟨u275, hc276, h⟩ := qbind h
  refine q_lVr hX (c_C_sold X.l G hX.ad f _ _ _ hc276) cw_Law_146 rfl kc_0 rfl (Nat.le_of_ble_eq_true rfl) rfl (Nat.le_of_ble_eq_true rfl) d_Law_law_1382 hT.2.1 ?_
  refine q_aload_n hX d_Law_law_1385 rfl ?_
  refine q_aload_n hX d_Law_law_1386 rfl ?_
  refine q_iload_n hX d_Law_law_1387 rfl ?_
  refine q_iconst hX d_Law_law_1388 ic_1 ?_
  refine q_iadd hX d_Law_law_1389 ?_
  refine q_sldX hX hsc d_Law_law_1390 h (fun hi277 h => ?_)
  refine q_aload_n hX d_Law_law_1391 rfl ?_
  refine q_iload_n hX d_Law_law_1392 rfl ?_
  refine q_iconst hX d_Law_law_1393 ic_2 ?_
  refine q_iadd hX d_Law_law_1394 ?_
  refine q_sldX hX hsc d_Law_law_1395 h (fun hi278 h => ?_)
  obtain ⟨u279, hc280, h⟩ := qbind h
  refine q_lVr hX (c_M_sold X.l G hX.ad f _ _ _ hc280) cw_Law_149 rfl kc_104 rfl (Nat.le_of_ble_eq_true rfl) rfl (Nat.le_of_ble_eq_true rfl) d_Law_law_1396 hT.2.1 ?_
  refine q_icmp_eq hX d_Law_law_1399 rfl h (fun _ h => ?_) (fun _ h => ?_)
  · refine q_iinc hX d_Law_law_1618 rfl (ii_6 _) (by decide) rfl rfl ?_
    refine q_goto hX d_Law_law_1621 rfl ?_
    exact q_mask [true, true, true, true] rfl (hk18 _ _ h)
  · refine q_iconst hX d_Law_law_1402 ic_0 ?_
    exact q_lawret hX hT h d_Law_law_1403
set_option maxHeartbeats 4000000 in
theorem t_law_b1404 {G : qG} {X : qX} (hX : qOk G X "ChantryRollsLaw" code 4 ret 40) {xs : Nat → Int32} {L : Nat} (hsc : qSc G X L xs) {u : Int32} {f : Nat} {k18 : qMem → Int32 → Option (Int32)} {σ : qMem} {x3 : Int32} (hT : qLT G X u) (hk18 : ∀ (σ : qMem) (x3 : Int32), k18 σ x3 = some u → qV G X 147 4386 qKS qRF σ 18 [some (.ref 1048950), some (.ref 0), some (.ref 104), some (.int x3)] []) (h : p_law_b1404 f xs L  k18 σ x3 = some u) : qV G X 147 4386 qKS qRF σ 1404 [some (.ref 1048950), some (.ref 0), some (.ref 104), some (.int x3)] [] := by
  unfold p_law_b1404 at h
  refine q_aload_n hX d_Law_law_1404 rfl ?_
  refine q_aload_n hX d_Law_law_1405 rfl ?_
  refine q_iload_n hX d_Law_law_1406 rfl ?_
  refine q_iconst hX d_Law_law_1407 ic_1 ?_
  refine q_iadd hX d_Law_law_1408 ?_
  refine q_sldX hX hsc d_Law_law_1409 h (fun hi281 h => ?_)
  refine q_aload_n hX d_Law_law_1410 rfl ?_
  refine q_iload_n hX d_Law_law_1411 rfl ?_
  refine q_iconst hX d_Law_law_1412 ic_2 ?_
  refine q_iadd hX d_Law_law_1413 ?_
  refine q_sldX hX hsc d_Law_law_1414 h (fun hi282 h => ?_)
  refine q_aload_n hX d_Law_law_1415 rfl ?_
  refine q_iload_n hX d_Law_law_1416 rfl ?_
  refine q_iconst hX d_Law_law_1417 ic_3 ?_
  refine q_iadd hX d_Law_law_1418 ?_
  refine q_sldX hX hsc d_Law_law_1419 h (fun hi283 h => ?_)
  obtain ⟨u284, hc285, h⟩ := qbind h
  refine q_lVr hX (c_C_dawn X.l G hX.ad f _ _ _ _ hc285) cw_Law_150 rfl kc_0 rfl (Nat.le_of_ble_eq_true rfl) rfl (Nat.le_of_ble_eq_true rfl) d_Law_law_1420 hT.2.1 ?_
  refine q_aload_n hX d_Law_law_1423 rfl ?_
  refine q_aload_n hX d_Law_law_1424 rfl ?_
  refine q_iload_n hX d_Law_law_1425 rfl ?_
  refine q_iconst hX d_Law_law_1426 ic_1 ?_
  refine q_iadd hX d_Law_law_1427 ?_
  refine q_sldX hX hsc d_Law_law_1428 h (fun hi286 h => ?_)
  refine q_aload_n hX d_Law_law_1429 rfl ?_
  refine q_iload_n hX d_Law_law_1430 rfl ?_
  refine q_iconst hX d_Law_law_1431 ic_2 ?_
  refine q_iadd hX d_Law_law_1432 ?_
  refine q_sldX hX hsc d_Law_law_1433 h (fun hi287 h => ?_)
  refine q_aload_n hX d_Law_law_1434 rfl ?_
  refine q_iload_n hX d_Law_law_1435 rfl ?_
  refine q_iconst hX d_Law_law_1436 ic_3 ?_
  refine q_iadd hX d_Law_law_1437 ?_
  refine q_sldX hX hsc d_Law_law_1438 h (fun hi288 h => ?_)
  obtain ⟨u289, hc290, h⟩ := qbind h
  refine q_lVr hX (c_M_dawn X.l G hX.ad f _ _ _ _ hc290) cw_Law_153 rfl kc_104 rfl (Nat.le_of_ble_eq_true rfl) rfl (Nat.le_of_ble_eq_true rfl) d_Law_law_1439 hT.2.1 ?_
  refine q_icmp_eq hX d_Law_law_1442 rfl h (fun _ h => ?_) (fun _ h => ?_)
  · refine q_iinc hX d_Law_law_1618 rfl (ii_6 _) (by decide) rfl rfl ?_
    refine q_goto hX d_Law_law_1621 rfl ?_
    exact q_mask [true, true, true, true] rfl (hk18 _ _ h)
  · refine q_iconst hX d_Law_law_1445 ic_0 ?_
    exact q_lawret hX hT h d_Law_law_1446
set_option maxHeartbeats 4000000 in
theorem t_law_b1447 {G : qG} {X : qX} (hX : qOk G X "ChantryRollsLaw" code 4 ret 40) {xs : Nat → Int32} {L : Nat} (hsc : qSc G X L xs) {u : Int32} {f : Nat} {k18 : qMem → Int32 → Option (Int32)} {σ : qMem} {x3 : Int32} (hT : qLT G X u) (hk18 : ∀ (σ : qMem) (x3 : Int32), k18 σ x3 = some u → qV G X 147 4386 qKS qRF σ 18 [some (.ref 1048950), some (.ref 0), some (.ref 104), some (.int x3)] []) (h : p_law_b1447 f xs L  k18 σ x3 = some u) : qV G X 147 4386 qKS qRF σ 1447 [some (.ref 1048950), some (.ref 0), some (.ref 104), some (.int x3)] [] := by
  unfold p_law_b1447 at h
  refine q_aload_n hX d_Law_law_1447 rfl ?_
  refine q_aload_n hX d_Law_law_1448 rfl ?_
  refine q_iload_n hX d_Law_law_1449 rfl ?_
  refine q_iconst hX d_Law_law_1450 ic_1 ?_
  refine q_iadd hX d_Law_law_1451 ?_
  refine q_sldX hX hsc d_Law_law_1452 h (fun hi291 h => ?_)
  obtain ⟨u292, hc293, h⟩ := qbind h
  refine q_lVr hX (c_C_day X.l G hX.ad f _ _ hc293) cw_Law_154 rfl kc_0 rfl (Nat.le_of_ble_eq_true rfl) rfl (Nat.le_of_ble_eq_true rfl) d_Law_law_1453 hT.2.1 ?_
  refine q_aload_n hX d_Law_law_1456 rfl ?_
  refine q_aload_n hX d_Law_law_1457 rfl ?_
  refine q_iload_n hX d_Law_law_1458 rfl ?_
  refine q_iconst hX d_Law_law_1459 ic_1 ?_
  refine q_iadd hX d_Law_law_1460 ?_
  refine q_sldX hX hsc d_Law_law_1461 h (fun hi294 h => ?_)
  obtain ⟨u295, hc296, h⟩ := qbind h
  refine q_lVr hX (c_M_day X.l G hX.ad f _ _ hc296) cw_Law_157 rfl kc_104 rfl (Nat.le_of_ble_eq_true rfl) rfl (Nat.le_of_ble_eq_true rfl) d_Law_law_1462 hT.2.1 ?_
  refine q_icmp_eq hX d_Law_law_1465 rfl h (fun _ h => ?_) (fun _ h => ?_)
  · refine q_iinc hX d_Law_law_1618 rfl (ii_6 _) (by decide) rfl rfl ?_
    refine q_goto hX d_Law_law_1621 rfl ?_
    exact q_mask [true, true, true, true] rfl (hk18 _ _ h)
  · refine q_iconst hX d_Law_law_1468 ic_0 ?_
    exact q_lawret hX hT h d_Law_law_1469
set_option maxHeartbeats 4000000 in
theorem t_law_b1470 {G : qG} {X : qX} (hX : qOk G X "ChantryRollsLaw" code 4 ret 40) {xs : Nat → Int32} {L : Nat} (hsc : qSc G X L xs) {u : Int32} {f : Nat} {k18 : qMem → Int32 → Option (Int32)} {σ : qMem} {x3 : Int32} (hT : qLT G X u) (hk18 : ∀ (σ : qMem) (x3 : Int32), k18 σ x3 = some u → qV G X 147 4386 qKS qRF σ 18 [some (.ref 1048950), some (.ref 0), some (.ref 104), some (.int x3)] []) (h : p_law_b1470 f xs L  k18 σ x3 = some u) : qV G X 147 4386 qKS qRF σ 1470 [some (.ref 1048950), some (.ref 0), some (.ref 104), some (.int x3)] [] := by
  unfold p_law_b1470 at h
  refine q_aload_n hX d_Law_law_1470 rfl ?_
  refine q_aload_n hX d_Law_law_1471 rfl ?_
  refine q_iload_n hX d_Law_law_1472 rfl ?_
  refine q_iconst hX d_Law_law_1473 ic_1 ?_
  refine q_iadd hX d_Law_law_1474 ?_
  refine q_sldX hX hsc d_Law_law_1475 h (fun hi297 h => ?_)
  obtain ⟨u298, hc299, h⟩ := qbind h
  refine q_lVr hX (c_C_kind X.l G hX.ad f _ _ hc299) cw_Law_158 rfl kc_0 rfl (Nat.le_of_ble_eq_true rfl) rfl (Nat.le_of_ble_eq_true rfl) d_Law_law_1476 hT.2.1 ?_
  refine q_aload_n hX d_Law_law_1479 rfl ?_
  refine q_aload_n hX d_Law_law_1480 rfl ?_
  refine q_iload_n hX d_Law_law_1481 rfl ?_
  refine q_iconst hX d_Law_law_1482 ic_1 ?_
  refine q_iadd hX d_Law_law_1483 ?_
  refine q_sldX hX hsc d_Law_law_1484 h (fun hi300 h => ?_)
  obtain ⟨u301, hc302, h⟩ := qbind h
  refine q_lVr hX (c_M_kind X.l G hX.ad f _ _ hc302) cw_Law_161 rfl kc_104 rfl (Nat.le_of_ble_eq_true rfl) rfl (Nat.le_of_ble_eq_true rfl) d_Law_law_1485 hT.2.1 ?_
  refine q_icmp_eq hX d_Law_law_1488 rfl h (fun _ h => ?_) (fun _ h => ?_)
  · refine q_iinc hX d_Law_law_1618 rfl (ii_6 _) (by decide) rfl rfl ?_
    refine q_goto hX d_Law_law_1621 rfl ?_
    exact q_mask [true, true, true, true] rfl (hk18 _ _ h)
  · refine q_iconst hX d_Law_law_1491 ic_0 ?_
    exact q_lawret hX hT h d_Law_law_1492
set_option maxHeartbeats 4000000 in
theorem t_law_b1493 {G : qG} {X : qX} (hX : qOk G X "ChantryRollsLaw" code 4 ret 40) {xs : Nat → Int32} {L : Nat} (hsc : qSc G X L xs) {u : Int32} {f : Nat} {k18 : qMem → Int32 → Option (Int32)} {σ : qMem} {x3 : Int32} (hT : qLT G X u) (hk18 : ∀ (σ : qMem) (x3 : Int32), k18 σ x3 = some u → qV G X 147 4386 qKS qRF σ 18 [some (.ref 1048950), some (.ref 0), some (.ref 104), some (.int x3)] []) (h : p_law_b1493 f xs L  k18 σ x3 = some u) : qV G X 147 4386 qKS qRF σ 1493 [some (.ref 1048950), some (.ref 0), some (.ref 104), some (.int x3)] [] := by
  unfold p_law_b1493 at h
  refine q_aload_n hX d_Law_law_1493 rfl ?_
  refine q_aload_n hX d_Law_law_1494 rfl ?_
  refine q_iload_n hX d_Law_law_1495 rfl ?_
  refine q_iconst hX d_Law_law_1496 ic_1 ?_
  refine q_iadd hX d_Law_law_1497 ?_
  refine q_sldX hX hsc d_Law_law_1498 h (fun hi303 h => ?_)
  refine q_aload_n hX d_Law_law_1499 rfl ?_
  refine q_iload_n hX d_Law_law_1500 rfl ?_
  refine q_iconst hX d_Law_law_1501 ic_2 ?_
  refine q_iadd hX d_Law_law_1502 ?_
  refine q_sldX hX hsc d_Law_law_1503 h (fun hi304 h => ?_)
  obtain ⟨u305, hc306, h⟩ := qbind h
  refine q_lVr hX (c_C_as X.l G hX.ad f _ _ _ hc306) cw_Law_162 rfl kc_0 rfl (Nat.le_of_ble_eq_true rfl) rfl (Nat.le_of_ble_eq_true rfl) d_Law_law_1504 hT.2.1 ?_
  refine q_aload_n hX d_Law_law_1507 rfl ?_
  refine q_aload_n hX d_Law_law_1508 rfl ?_
  refine q_iload_n hX d_Law_law_1509 rfl ?_
  refine q_iconst hX d_Law_law_1510 ic_1 ?_
  refine q_iadd hX d_Law_law_1511 ?_
  refine q_sldX hX hsc d_Law_law_1512 h (fun hi307 h => ?_)
  refine q_aload_n hX d_Law_law_1513 rfl ?_
  refine q_iload_n hX d_Law_law_1514 rfl ?_
  refine q_iconst hX d_Law_law_1515 ic_2 ?_
  refine q_iadd hX d_Law_law_1516 ?_
  refine q_sldX hX hsc d_Law_law_1517 h (fun hi308 h => ?_)
  obtain ⟨u309, hc310, h⟩ := qbind h
  refine q_lVr hX (c_M_as X.l G hX.ad f _ _ _ hc310) cw_Law_165 rfl kc_104 rfl (Nat.le_of_ble_eq_true rfl) rfl (Nat.le_of_ble_eq_true rfl) d_Law_law_1518 hT.2.1 ?_
  refine q_icmp_eq hX d_Law_law_1521 rfl h (fun _ h => ?_) (fun _ h => ?_)
  · refine q_iinc hX d_Law_law_1618 rfl (ii_6 _) (by decide) rfl rfl ?_
    refine q_goto hX d_Law_law_1621 rfl ?_
    exact q_mask [true, true, true, true] rfl (hk18 _ _ h)
  · refine q_iconst hX d_Law_law_1524 ic_0 ?_
    exact q_lawret hX hT h d_Law_law_1525
set_option maxHeartbeats 4000000 in
theorem t_law_b1526 {G : qG} {X : qX} (hX : qOk G X "ChantryRollsLaw" code 4 ret 40) {xs : Nat → Int32} {L : Nat} (hsc : qSc G X L xs) {u : Int32} {f : Nat} {k18 : qMem → Int32 → Option (Int32)} {σ : qMem} {x3 : Int32} (hT : qLT G X u) (hk18 : ∀ (σ : qMem) (x3 : Int32), k18 σ x3 = some u → qV G X 147 4386 qKS qRF σ 18 [some (.ref 1048950), some (.ref 0), some (.ref 104), some (.int x3)] []) (h : p_law_b1526 f xs L  k18 σ x3 = some u) : qV G X 147 4386 qKS qRF σ 1526 [some (.ref 1048950), some (.ref 0), some (.ref 104), some (.int x3)] [] := by
  unfold p_law_b1526 at h
  refine q_aload_n hX d_Law_law_1526 rfl ?_
  refine q_aload_n hX d_Law_law_1527 rfl ?_
  refine q_iload_n hX d_Law_law_1528 rfl ?_
  refine q_iconst hX d_Law_law_1529 ic_1 ?_
  refine q_iadd hX d_Law_law_1530 ?_
  refine q_sldX hX hsc d_Law_law_1531 h (fun hi311 h => ?_)
  refine q_aload_n hX d_Law_law_1532 rfl ?_
  refine q_iload_n hX d_Law_law_1533 rfl ?_
  refine q_iconst hX d_Law_law_1534 ic_2 ?_
  refine q_iadd hX d_Law_law_1535 ?_
  refine q_sldX hX hsc d_Law_law_1536 h (fun hi312 h => ?_)
  obtain ⟨u313, hc314, h⟩ := qbind h
  refine q_lVr hX (c_C_ask X.l G hX.ad f _ _ _ hc314) cw_Law_166 rfl kc_0 rfl (Nat.le_of_ble_eq_true rfl) rfl (Nat.le_of_ble_eq_true rfl) d_Law_law_1537 hT.2.1 ?_
  refine q_aload_n hX d_Law_law_1540 rfl ?_
  refine q_aload_n hX d_Law_law_1541 rfl ?_
  refine q_iload_n hX d_Law_law_1542 rfl ?_
  refine q_iconst hX d_Law_law_1543 ic_1 ?_
  refine q_iadd hX d_Law_law_1544 ?_
  refine q_sldX hX hsc d_Law_law_1545 h (fun hi315 h => ?_)
  refine q_aload_n hX d_Law_law_1546 rfl ?_
  refine q_iload_n hX d_Law_law_1547 rfl ?_
  refine q_iconst hX d_Law_law_1548 ic_2 ?_
  refine q_iadd hX d_Law_law_1549 ?_
  refine q_sldX hX hsc d_Law_law_1550 h (fun hi316 h => ?_)
  obtain ⟨u317, hc318, h⟩ := qbind h
  refine q_lVr hX (c_M_ask X.l G hX.ad f _ _ _ hc318) cw_Law_169 rfl kc_104 rfl (Nat.le_of_ble_eq_true rfl) rfl (Nat.le_of_ble_eq_true rfl) d_Law_law_1551 hT.2.1 ?_
  refine q_icmp_eq hX d_Law_law_1554 rfl h (fun _ h => ?_) (fun _ h => ?_)
  · refine q_iinc hX d_Law_law_1618 rfl (ii_6 _) (by decide) rfl rfl ?_
    refine q_goto hX d_Law_law_1621 rfl ?_
    exact q_mask [true, true, true, true] rfl (hk18 _ _ h)
  · refine q_iconst hX d_Law_law_1557 ic_0 ?_
    exact q_lawret hX hT h d_Law_law_1558
set_option maxHeartbeats 4000000 in
theorem t_law_b1559 {G : qG} {X : qX} (hX : qOk G X "ChantryRollsLaw" code 4 ret 40) {xs : Nat → Int32} {L : Nat} (hsc : qSc G X L xs) {u : Int32} {f : Nat} {k18 : qMem → Int32 → Option (Int32)} {σ : qMem} {x3 : Int32} (hT : qLT G X u) (hk18 : ∀ (σ : qMem) (x3 : Int32), k18 σ x3 = some u → qV G X 147 4386 qKS qRF σ 18 [some (.ref 1048950), some (.ref 0), some (.ref 104), some (.int x3)] []) (h : p_law_b1559 f xs L  k18 σ x3 = some u) : qV G X 147 4386 qKS qRF σ 1559 [some (.ref 1048950), some (.ref 0), some (.ref 104), some (.int x3)] [] := by
  unfold p_law_b1559 at h
  refine q_aload_n hX d_Law_law_1559 rfl ?_
  refine q_aload_n hX d_Law_law_1560 rfl ?_
  refine q_iload_n hX d_Law_law_1561 rfl ?_
  refine q_iconst hX d_Law_law_1562 ic_1 ?_
  refine q_iadd hX d_Law_law_1563 ?_
  refine q_sldX hX hsc d_Law_law_1564 h (fun hi319 h => ?_)
  obtain ⟨u320, hc321, h⟩ := qbind h
  refine q_lVr hX (c_C_trace X.l G hX.ad f _ _ hc321) cw_Law_170 rfl kc_0 rfl (Nat.le_of_ble_eq_true rfl) rfl (Nat.le_of_ble_eq_true rfl) d_Law_law_1565 hT.2.1 ?_
  refine q_aload_n hX d_Law_law_1568 rfl ?_
  refine q_aload_n hX d_Law_law_1569 rfl ?_
  refine q_iload_n hX d_Law_law_1570 rfl ?_
  refine q_iconst hX d_Law_law_1571 ic_1 ?_
  refine q_iadd hX d_Law_law_1572 ?_
  refine q_sldX hX hsc d_Law_law_1573 h (fun hi322 h => ?_)
  obtain ⟨u323, hc324, h⟩ := qbind h
  refine q_lVr hX (c_M_trace X.l G hX.ad f _ _ hc324) cw_Law_173 rfl kc_104 rfl (Nat.le_of_ble_eq_true rfl) rfl (Nat.le_of_ble_eq_true rfl) d_Law_law_1574 hT.2.1 ?_
  refine q_icmp_eq hX d_Law_law_1577 rfl h (fun _ h => ?_) (fun _ h => ?_)
  · refine q_iinc hX d_Law_law_1618 rfl (ii_6 _) (by decide) rfl rfl ?_
    refine q_goto hX d_Law_law_1621 rfl ?_
    exact q_mask [true, true, true, true] rfl (hk18 _ _ h)
  · refine q_iconst hX d_Law_law_1580 ic_0 ?_
    exact q_lawret hX hT h d_Law_law_1581
set_option maxHeartbeats 4000000 in
theorem t_law_b1582 {G : qG} {X : qX} (hX : qOk G X "ChantryRollsLaw" code 4 ret 40) {xs : Nat → Int32} {L : Nat} (hsc : qSc G X L xs) {u : Int32} {f : Nat} {k18 : qMem → Int32 → Option (Int32)} {σ : qMem} {x3 : Int32} (hT : qLT G X u) (hk18 : ∀ (σ : qMem) (x3 : Int32), k18 σ x3 = some u → qV G X 147 4386 qKS qRF σ 18 [some (.ref 1048950), some (.ref 0), some (.ref 104), some (.int x3)] []) (h : p_law_b1582 f xs L  k18 σ x3 = some u) : qV G X 147 4386 qKS qRF σ 1582 [some (.ref 1048950), some (.ref 0), some (.ref 104), some (.int x3)] [] := by
  unfold p_law_b1582 at h
  refine q_aload_n hX d_Law_law_1582 rfl ?_
  refine q_aload_n hX d_Law_law_1583 rfl ?_
  refine q_iload_n hX d_Law_law_1584 rfl ?_
  refine q_iconst hX d_Law_law_1585 ic_1 ?_
  refine q_iadd hX d_Law_law_1586 ?_
  refine q_sldX hX hsc d_Law_law_1587 h (fun hi325 h => ?_)
  obtain ⟨u326, hc327, h⟩ := qbind h
  refine q_lVr hX (c_C_all X.l G hX.ad f _ _ hc327) cw_Law_174 rfl kc_0 rfl (Nat.le_of_ble_eq_true rfl) rfl (Nat.le_of_ble_eq_true rfl) d_Law_law_1588 hT.2.1 ?_
  refine q_aload_n hX d_Law_law_1591 rfl ?_
  refine q_aload_n hX d_Law_law_1592 rfl ?_
  refine q_iload_n hX d_Law_law_1593 rfl ?_
  refine q_iconst hX d_Law_law_1594 ic_1 ?_
  refine q_iadd hX d_Law_law_1595 ?_
  refine q_sldX hX hsc d_Law_law_1596 h (fun hi328 h => ?_)
  obtain ⟨u329, hc330, h⟩ := qbind h
  refine q_lVr hX (c_M_all X.l G hX.ad f _ _ hc330) cw_Law_177 rfl kc_104 rfl (Nat.le_of_ble_eq_true rfl) rfl (Nat.le_of_ble_eq_true rfl) d_Law_law_1597 hT.2.1 ?_
  refine q_icmp_eq hX d_Law_law_1600 rfl h (fun _ h => ?_) (fun _ h => ?_)
  · refine q_iinc hX d_Law_law_1618 rfl (ii_6 _) (by decide) rfl rfl ?_
    refine q_goto hX d_Law_law_1621 rfl ?_
    exact q_mask [true, true, true, true] rfl (hk18 _ _ h)
  · refine q_iconst hX d_Law_law_1603 ic_0 ?_
    exact q_lawret hX hT h d_Law_law_1604
set_option maxHeartbeats 4000000 in
theorem t_law_b1605 {G : qG} {X : qX} (hX : qOk G X "ChantryRollsLaw" code 4 ret 40) {xs : Nat → Int32} {L : Nat} (hsc : qSc G X L xs) {u : Int32} {f : Nat} {k18 : qMem → Int32 → Option (Int32)} {σ : qMem} {x3 : Int32} (hT : qLT G X u) (hk18 : ∀ (σ : qMem) (x3 : Int32), k18 σ x3 = some u → qV G X 147 4386 qKS qRF σ 18 [some (.ref 1048950), some (.ref 0), some (.ref 104), some (.int x3)] []) (h : p_law_b1605 f xs L  k18 σ x3 = some u) : qV G X 147 4386 qKS qRF σ 1605 [some (.ref 1048950), some (.ref 0), some (.ref 104), some (.int x3)] [] := by
  unfold p_law_b1605 at h
  refine q_aload_n hX d_Law_law_1605 rfl ?_
  obtain ⟨u331, hc332, h⟩ := qbind h
  refine q_lVr hX (c_C_status X.l G hX.ad f _  hc332) cw_Law_178 rfl kc_0 rfl (Nat.le_of_ble_eq_true rfl) rfl (Nat.le_of_ble_eq_true rfl) d_Law_law_1606 hT.2.1 ?_
  refine q_aload_n hX d_Law_law_1609 rfl ?_
  obtain ⟨u333, hc334, h⟩ := qbind h
  refine q_lVr hX (c_M_status X.l G hX.ad f _  hc334) cw_Law_181 rfl kc_104 rfl (Nat.le_of_ble_eq_true rfl) rfl (Nat.le_of_ble_eq_true rfl) d_Law_law_1610 hT.2.1 ?_
  refine q_icmp_eq hX d_Law_law_1613 rfl h (fun _ h => ?_) (fun _ h => ?_)
  · refine q_iinc hX d_Law_law_1618 rfl (ii_6 _) (by decide) rfl rfl ?_
    refine q_goto hX d_Law_law_1621 rfl ?_
    exact q_mask [true, true, true, true] rfl (hk18 _ _ h)
  · refine q_iconst hX d_Law_law_1616 ic_0 ?_
    exact q_lawret hX hT h d_Law_law_1617
set_option maxHeartbeats 4000000 in
theorem t_law_lb18 {G : qG} {X : qX} (hX : qOk G X "ChantryRollsLaw" code 4 ret 40) {xs : Nat → Int32} {L : Nat} (hsc : qSc G X L xs) {u : Int32} {f : Nat} (hT : qLT G X u) {k18 : qMem → Int32 → Option (Int32)} (hk18 : ∀ (σ : qMem) (x3 : Int32), k18 σ x3 = some u → qV G X 147 4386 qKS qRF σ 18 [some (.ref 1048950), some (.ref 0), some (.ref 104), some (.int x3)] []) {σ : qMem} {x3 : Int32} (h : p_law_l18 f xs L   k18 σ x3 = some u) : qV G X 147 4386 qKS qRF σ 18 [some (.ref 1048950), some (.ref 0), some (.ref 104), some (.int x3)] [] := by
  unfold p_law_l18 at h
  refine q_iload_n hX d_Law_law_18 rfl ?_
  refine q_aload_n hX d_Law_law_19 rfl ?_
  refine q_slenX hX hsc d_Law_law_20 ?_
  refine q_bipush hX d_Law_law_21 bp_6 ?_
  refine q_isub hX d_Law_law_23 ?_
  refine q_icmp_gt hX d_Law_law_24 rfl h (fun _ h => ?_) (fun _ h => ?_)
  · refine q_iconst hX d_Law_law_1624 ic_1 ?_
    exact q_lawret hX hT h d_Law_law_1625
  · refine q_aload_n hX d_Law_law_27 rfl ?_
    refine q_iload_n hX d_Law_law_28 rfl ?_
    refine q_sldX hX hsc d_Law_law_29 h (fun hi335 h => ?_)
    refine q_bipush hX d_Law_law_30 bp_63 ?_
    refine q_iand hX d_Law_law_32 ?_
    by_cases hs33_0 : ((xs (qi x3)) &&& (63 : Int32)) = (0 : Int32)
    · have h := q_dec0 h hs33_0
      refine q_tabIn hX hs33_0 d_Law_law_33 (by decide) (by decide) rfl rfl ?_
      exact q_mask [true, true, true, true] rfl (t_law_b208 hX hsc hT hk18 h)
    have h := q_dec1 h hs33_0
    by_cases hs33_1 : ((xs (qi x3)) &&& (63 : Int32)) = (1 : Int32)
    · have h := q_dec0 h hs33_1
      refine q_tabIn hX hs33_1 d_Law_law_33 (by decide) (by decide) rfl rfl ?_
      exact q_mask [true, true, true, true] rfl (t_law_b251 hX hsc hT hk18 h)
    have h := q_dec1 h hs33_1
    by_cases hs33_2 : ((xs (qi x3)) &&& (63 : Int32)) = (2 : Int32)
    · have h := q_dec0 h hs33_2
      refine q_tabIn hX hs33_2 d_Law_law_33 (by decide) (by decide) rfl rfl ?_
      exact q_mask [true, true, true, true] rfl (t_law_b294 hX hsc hT hk18 h)
    have h := q_dec1 h hs33_2
    by_cases hs33_3 : ((xs (qi x3)) &&& (63 : Int32)) = (3 : Int32)
    · have h := q_dec0 h hs33_3
      refine q_tabIn hX hs33_3 d_Law_law_33 (by decide) (by decide) rfl rfl ?_
      exact q_mask [true, true, true, true] rfl (t_law_b357 hX hsc hT hk18 h)
    have h := q_dec1 h hs33_3
    by_cases hs33_4 : ((xs (qi x3)) &&& (63 : Int32)) = (4 : Int32)
    · have h := q_dec0 h hs33_4
      refine q_tabIn hX hs33_4 d_Law_law_33 (by decide) (by decide) rfl rfl ?_
      exact q_mask [true, true, true, true] rfl (t_law_b380 hX hsc hT hk18 h)
    have h := q_dec1 h hs33_4
    by_cases hs33_5 : ((xs (qi x3)) &&& (63 : Int32)) = (5 : Int32)
    · have h := q_dec0 h hs33_5
      refine q_tabIn hX hs33_5 d_Law_law_33 (by decide) (by decide) rfl rfl ?_
      exact q_mask [true, true, true, true] rfl (t_law_b443 hX hsc hT hk18 h)
    have h := q_dec1 h hs33_5
    by_cases hs33_6 : ((xs (qi x3)) &&& (63 : Int32)) = (6 : Int32)
    · have h := q_dec0 h hs33_6
      refine q_tabIn hX hs33_6 d_Law_law_33 (by decide) (by decide) rfl rfl ?_
      exact q_mask [true, true, true, true] rfl (t_law_b456 hX hsc hT hk18 h)
    have h := q_dec1 h hs33_6
    by_cases hs33_7 : ((xs (qi x3)) &&& (63 : Int32)) = (7 : Int32)
    · have h := q_dec0 h hs33_7
      refine q_tabIn hX hs33_7 d_Law_law_33 (by decide) (by decide) rfl rfl ?_
      exact q_mask [true, true, true, true] rfl (t_law_b469 hX hsc hT hk18 h)
    have h := q_dec1 h hs33_7
    by_cases hs33_8 : ((xs (qi x3)) &&& (63 : Int32)) = (8 : Int32)
    · have h := q_dec0 h hs33_8
      refine q_tabIn hX hs33_8 d_Law_law_33 (by decide) (by decide) rfl rfl ?_
      exact q_mask [true, true, true, true] rfl (t_law_b502 hX hsc hT hk18 h)
    have h := q_dec1 h hs33_8
    by_cases hs33_9 : ((xs (qi x3)) &&& (63 : Int32)) = (9 : Int32)
    · have h := q_dec0 h hs33_9
      refine q_tabIn hX hs33_9 d_Law_law_33 (by decide) (by decide) rfl rfl ?_
      exact q_mask [true, true, true, true] rfl (t_law_b535 hX hsc hT hk18 h)
    have h := q_dec1 h hs33_9
    by_cases hs33_10 : ((xs (qi x3)) &&& (63 : Int32)) = (10 : Int32)
    · have h := q_dec0 h hs33_10
      refine q_tabIn hX hs33_10 d_Law_law_33 (by decide) (by decide) rfl rfl ?_
      exact q_mask [true, true, true, true] rfl (t_law_b578 hX hsc hT hk18 h)
    have h := q_dec1 h hs33_10
    by_cases hs33_11 : ((xs (qi x3)) &&& (63 : Int32)) = (11 : Int32)
    · have h := q_dec0 h hs33_11
      refine q_tabIn hX hs33_11 d_Law_law_33 (by decide) (by decide) rfl rfl ?_
      exact q_mask [true, true, true, true] rfl (t_law_b611 hX hsc hT hk18 h)
    have h := q_dec1 h hs33_11
    by_cases hs33_12 : ((xs (qi x3)) &&& (63 : Int32)) = (12 : Int32)
    · have h := q_dec0 h hs33_12
      refine q_tabIn hX hs33_12 d_Law_law_33 (by decide) (by decide) rfl rfl ?_
      exact q_mask [true, true, true, true] rfl (t_law_b654 hX hsc hT hk18 h)
    have h := q_dec1 h hs33_12
    by_cases hs33_13 : ((xs (qi x3)) &&& (63 : Int32)) = (13 : Int32)
    · have h := q_dec0 h hs33_13
      refine q_tabIn hX hs33_13 d_Law_law_33 (by decide) (by decide) rfl rfl ?_
      exact q_mask [true, true, true, true] rfl (t_law_b697 hX hsc hT hk18 h)
    have h := q_dec1 h hs33_13
    by_cases hs33_14 : ((xs (qi x3)) &&& (63 : Int32)) = (14 : Int32)
    · have h := q_dec0 h hs33_14
      refine q_tabIn hX hs33_14 d_Law_law_33 (by decide) (by decide) rfl rfl ?_
      exact q_mask [true, true, true, true] rfl (t_law_b740 hX hsc hT hk18 h)
    have h := q_dec1 h hs33_14
    by_cases hs33_15 : ((xs (qi x3)) &&& (63 : Int32)) = (15 : Int32)
    · have h := q_dec0 h hs33_15
      refine q_tabIn hX hs33_15 d_Law_law_33 (by decide) (by decide) rfl rfl ?_
      exact q_mask [true, true, true, true] rfl (t_law_b763 hX hsc hT hk18 h)
    have h := q_dec1 h hs33_15
    by_cases hs33_16 : ((xs (qi x3)) &&& (63 : Int32)) = (16 : Int32)
    · have h := q_dec0 h hs33_16
      refine q_tabIn hX hs33_16 d_Law_law_33 (by decide) (by decide) rfl rfl ?_
      exact q_mask [true, true, true, true] rfl (t_law_b806 hX hsc hT hk18 h)
    have h := q_dec1 h hs33_16
    by_cases hs33_17 : ((xs (qi x3)) &&& (63 : Int32)) = (17 : Int32)
    · have h := q_dec0 h hs33_17
      refine q_tabIn hX hs33_17 d_Law_law_33 (by decide) (by decide) rfl rfl ?_
      exact q_mask [true, true, true, true] rfl (t_law_b839 hX hsc hT hk18 h)
    have h := q_dec1 h hs33_17
    by_cases hs33_18 : ((xs (qi x3)) &&& (63 : Int32)) = (18 : Int32)
    · have h := q_dec0 h hs33_18
      refine q_tabIn hX hs33_18 d_Law_law_33 (by decide) (by decide) rfl rfl ?_
      exact q_mask [true, true, true, true] rfl (t_law_b882 hX hsc hT hk18 h)
    have h := q_dec1 h hs33_18
    by_cases hs33_19 : ((xs (qi x3)) &&& (63 : Int32)) = (19 : Int32)
    · have h := q_dec0 h hs33_19
      refine q_tabIn hX hs33_19 d_Law_law_33 (by decide) (by decide) rfl rfl ?_
      exact q_mask [true, true, true, true] rfl (t_law_b925 hX hsc hT hk18 h)
    have h := q_dec1 h hs33_19
    by_cases hs33_20 : ((xs (qi x3)) &&& (63 : Int32)) = (20 : Int32)
    · have h := q_dec0 h hs33_20
      refine q_tabIn hX hs33_20 d_Law_law_33 (by decide) (by decide) rfl rfl ?_
      exact q_mask [true, true, true, true] rfl (t_law_b968 hX hsc hT hk18 h)
    have h := q_dec1 h hs33_20
    by_cases hs33_21 : ((xs (qi x3)) &&& (63 : Int32)) = (21 : Int32)
    · have h := q_dec0 h hs33_21
      refine q_tabIn hX hs33_21 d_Law_law_33 (by decide) (by decide) rfl rfl ?_
      exact q_mask [true, true, true, true] rfl (t_law_b1001 hX hsc hT hk18 h)
    have h := q_dec1 h hs33_21
    by_cases hs33_22 : ((xs (qi x3)) &&& (63 : Int32)) = (22 : Int32)
    · have h := q_dec0 h hs33_22
      refine q_tabIn hX hs33_22 d_Law_law_33 (by decide) (by decide) rfl rfl ?_
      exact q_mask [true, true, true, true] rfl (t_law_b1044 hX hsc hT hk18 h)
    have h := q_dec1 h hs33_22
    by_cases hs33_23 : ((xs (qi x3)) &&& (63 : Int32)) = (23 : Int32)
    · have h := q_dec0 h hs33_23
      refine q_tabIn hX hs33_23 d_Law_law_33 (by decide) (by decide) rfl rfl ?_
      exact q_mask [true, true, true, true] rfl (t_law_b1067 hX hsc hT hk18 h)
    have h := q_dec1 h hs33_23
    by_cases hs33_24 : ((xs (qi x3)) &&& (63 : Int32)) = (24 : Int32)
    · have h := q_dec0 h hs33_24
      refine q_tabIn hX hs33_24 d_Law_law_33 (by decide) (by decide) rfl rfl ?_
      exact q_mask [true, true, true, true] rfl (t_law_b1100 hX hsc hT hk18 h)
    have h := q_dec1 h hs33_24
    by_cases hs33_25 : ((xs (qi x3)) &&& (63 : Int32)) = (25 : Int32)
    · have h := q_dec0 h hs33_25
      refine q_tabIn hX hs33_25 d_Law_law_33 (by decide) (by decide) rfl rfl ?_
      exact q_mask [true, true, true, true] rfl (t_law_b1123 hX hsc hT hk18 h)
    have h := q_dec1 h hs33_25
    by_cases hs33_26 : ((xs (qi x3)) &&& (63 : Int32)) = (26 : Int32)
    · have h := q_dec0 h hs33_26
      refine q_tabIn hX hs33_26 d_Law_law_33 (by decide) (by decide) rfl rfl ?_
      exact q_mask [true, true, true, true] rfl (t_law_b1186 hX hsc hT hk18 h)
    have h := q_dec1 h hs33_26
    by_cases hs33_27 : ((xs (qi x3)) &&& (63 : Int32)) = (27 : Int32)
    · have h := q_dec0 h hs33_27
      refine q_tabIn hX hs33_27 d_Law_law_33 (by decide) (by decide) rfl rfl ?_
      exact q_mask [true, true, true, true] rfl (t_law_b1219 hX hsc hT hk18 h)
    have h := q_dec1 h hs33_27
    by_cases hs33_28 : ((xs (qi x3)) &&& (63 : Int32)) = (28 : Int32)
    · have h := q_dec0 h hs33_28
      refine q_tabIn hX hs33_28 d_Law_law_33 (by decide) (by decide) rfl rfl ?_
      exact q_mask [true, true, true, true] rfl (t_law_b1272 hX hsc hT hk18 h)
    have h := q_dec1 h hs33_28
    by_cases hs33_29 : ((xs (qi x3)) &&& (63 : Int32)) = (29 : Int32)
    · have h := q_dec0 h hs33_29
      refine q_tabIn hX hs33_29 d_Law_law_33 (by decide) (by decide) rfl rfl ?_
      exact q_mask [true, true, true, true] rfl (t_law_b1295 hX hsc hT hk18 h)
    have h := q_dec1 h hs33_29
    by_cases hs33_30 : ((xs (qi x3)) &&& (63 : Int32)) = (30 : Int32)
    · have h := q_dec0 h hs33_30
      refine q_tabIn hX hs33_30 d_Law_law_33 (by decide) (by decide) rfl rfl ?_
      exact q_mask [true, true, true, true] rfl (t_law_b1328 hX hsc hT hk18 h)
    have h := q_dec1 h hs33_30
    by_cases hs33_31 : ((xs (qi x3)) &&& (63 : Int32)) = (31 : Int32)
    · have h := q_dec0 h hs33_31
      refine q_tabIn hX hs33_31 d_Law_law_33 (by decide) (by decide) rfl rfl ?_
      exact q_mask [true, true, true, true] rfl (t_law_b1371 hX hsc hT hk18 h)
    have h := q_dec1 h hs33_31
    by_cases hs33_32 : ((xs (qi x3)) &&& (63 : Int32)) = (32 : Int32)
    · have h := q_dec0 h hs33_32
      refine q_tabIn hX hs33_32 d_Law_law_33 (by decide) (by decide) rfl rfl ?_
      exact q_mask [true, true, true, true] rfl (t_law_b1404 hX hsc hT hk18 h)
    have h := q_dec1 h hs33_32
    by_cases hs33_33 : ((xs (qi x3)) &&& (63 : Int32)) = (33 : Int32)
    · have h := q_dec0 h hs33_33
      refine q_tabIn hX hs33_33 d_Law_law_33 (by decide) (by decide) rfl rfl ?_
      exact q_mask [true, true, true, true] rfl (t_law_b1447 hX hsc hT hk18 h)
    have h := q_dec1 h hs33_33
    by_cases hs33_34 : ((xs (qi x3)) &&& (63 : Int32)) = (34 : Int32)
    · have h := q_dec0 h hs33_34
      refine q_tabIn hX hs33_34 d_Law_law_33 (by decide) (by decide) rfl rfl ?_
      exact q_mask [true, true, true, true] rfl (t_law_b1470 hX hsc hT hk18 h)
    have h := q_dec1 h hs33_34
    by_cases hs33_35 : ((xs (qi x3)) &&& (63 : Int32)) = (35 : Int32)
    · have h := q_dec0 h hs33_35
      refine q_tabIn hX hs33_35 d_Law_law_33 (by decide) (by decide) rfl rfl ?_
      exact q_mask [true, true, true, true] rfl (t_law_b1493 hX hsc hT hk18 h)
    have h := q_dec1 h hs33_35
    by_cases hs33_36 : ((xs (qi x3)) &&& (63 : Int32)) = (36 : Int32)
    · have h := q_dec0 h hs33_36
      refine q_tabIn hX hs33_36 d_Law_law_33 (by decide) (by decide) rfl rfl ?_
      exact q_mask [true, true, true, true] rfl (t_law_b1526 hX hsc hT hk18 h)
    have h := q_dec1 h hs33_36
    by_cases hs33_37 : ((xs (qi x3)) &&& (63 : Int32)) = (37 : Int32)
    · have h := q_dec0 h hs33_37
      refine q_tabIn hX hs33_37 d_Law_law_33 (by decide) (by decide) rfl rfl ?_
      exact q_mask [true, true, true, true] rfl (t_law_b1559 hX hsc hT hk18 h)
    have h := q_dec1 h hs33_37
    by_cases hs33_38 : ((xs (qi x3)) &&& (63 : Int32)) = (38 : Int32)
    · have h := q_dec0 h hs33_38
      refine q_tabIn hX hs33_38 d_Law_law_33 (by decide) (by decide) rfl rfl ?_
      exact q_mask [true, true, true, true] rfl (t_law_b1582 hX hsc hT hk18 h)
    have h := q_dec1 h hs33_38
    by_cases hs33_39 : ((xs (qi x3)) &&& (63 : Int32)) = (39 : Int32)
    · have h := q_dec0 h hs33_39
      refine q_tabIn hX hs33_39 d_Law_law_33 (by decide) (by decide) rfl rfl ?_
      exact q_mask [true, true, true, true] rfl (t_law_b1605 hX hsc hT hk18 h)
    have h := q_dec1 h hs33_39
    have hout : (((xs (qi x3)) &&& (63 : Int32))).toInt < 0 ∨ 39 < (((xs (qi x3)) &&& (63 : Int32))).toInt := by
      have e0 : (((xs (qi x3)) &&& (63 : Int32))).toInt ≠ 0 := q_ne32 hs33_0
      have e1 : (((xs (qi x3)) &&& (63 : Int32))).toInt ≠ 1 := q_ne32 hs33_1
      have e2 : (((xs (qi x3)) &&& (63 : Int32))).toInt ≠ 2 := q_ne32 hs33_2
      have e3 : (((xs (qi x3)) &&& (63 : Int32))).toInt ≠ 3 := q_ne32 hs33_3
      have e4 : (((xs (qi x3)) &&& (63 : Int32))).toInt ≠ 4 := q_ne32 hs33_4
      have e5 : (((xs (qi x3)) &&& (63 : Int32))).toInt ≠ 5 := q_ne32 hs33_5
      have e6 : (((xs (qi x3)) &&& (63 : Int32))).toInt ≠ 6 := q_ne32 hs33_6
      have e7 : (((xs (qi x3)) &&& (63 : Int32))).toInt ≠ 7 := q_ne32 hs33_7
      have e8 : (((xs (qi x3)) &&& (63 : Int32))).toInt ≠ 8 := q_ne32 hs33_8
      have e9 : (((xs (qi x3)) &&& (63 : Int32))).toInt ≠ 9 := q_ne32 hs33_9
      have e10 : (((xs (qi x3)) &&& (63 : Int32))).toInt ≠ 10 := q_ne32 hs33_10
      have e11 : (((xs (qi x3)) &&& (63 : Int32))).toInt ≠ 11 := q_ne32 hs33_11
      have e12 : (((xs (qi x3)) &&& (63 : Int32))).toInt ≠ 12 := q_ne32 hs33_12
      have e13 : (((xs (qi x3)) &&& (63 : Int32))).toInt ≠ 13 := q_ne32 hs33_13
      have e14 : (((xs (qi x3)) &&& (63 : Int32))).toInt ≠ 14 := q_ne32 hs33_14
      have e15 : (((xs (qi x3)) &&& (63 : Int32))).toInt ≠ 15 := q_ne32 hs33_15
      have e16 : (((xs (qi x3)) &&& (63 : Int32))).toInt ≠ 16 := q_ne32 hs33_16
      have e17 : (((xs (qi x3)) &&& (63 : Int32))).toInt ≠ 17 := q_ne32 hs33_17
      have e18 : (((xs (qi x3)) &&& (63 : Int32))).toInt ≠ 18 := q_ne32 hs33_18
      have e19 : (((xs (qi x3)) &&& (63 : Int32))).toInt ≠ 19 := q_ne32 hs33_19
      have e20 : (((xs (qi x3)) &&& (63 : Int32))).toInt ≠ 20 := q_ne32 hs33_20
      have e21 : (((xs (qi x3)) &&& (63 : Int32))).toInt ≠ 21 := q_ne32 hs33_21
      have e22 : (((xs (qi x3)) &&& (63 : Int32))).toInt ≠ 22 := q_ne32 hs33_22
      have e23 : (((xs (qi x3)) &&& (63 : Int32))).toInt ≠ 23 := q_ne32 hs33_23
      have e24 : (((xs (qi x3)) &&& (63 : Int32))).toInt ≠ 24 := q_ne32 hs33_24
      have e25 : (((xs (qi x3)) &&& (63 : Int32))).toInt ≠ 25 := q_ne32 hs33_25
      have e26 : (((xs (qi x3)) &&& (63 : Int32))).toInt ≠ 26 := q_ne32 hs33_26
      have e27 : (((xs (qi x3)) &&& (63 : Int32))).toInt ≠ 27 := q_ne32 hs33_27
      have e28 : (((xs (qi x3)) &&& (63 : Int32))).toInt ≠ 28 := q_ne32 hs33_28
      have e29 : (((xs (qi x3)) &&& (63 : Int32))).toInt ≠ 29 := q_ne32 hs33_29
      have e30 : (((xs (qi x3)) &&& (63 : Int32))).toInt ≠ 30 := q_ne32 hs33_30
      have e31 : (((xs (qi x3)) &&& (63 : Int32))).toInt ≠ 31 := q_ne32 hs33_31
      have e32 : (((xs (qi x3)) &&& (63 : Int32))).toInt ≠ 32 := q_ne32 hs33_32
      have e33 : (((xs (qi x3)) &&& (63 : Int32))).toInt ≠ 33 := q_ne32 hs33_33
      have e34 : (((xs (qi x3)) &&& (63 : Int32))).toInt ≠ 34 := q_ne32 hs33_34
      have e35 : (((xs (qi x3)) &&& (63 : Int32))).toInt ≠ 35 := q_ne32 hs33_35
      have e36 : (((xs (qi x3)) &&& (63 : Int32))).toInt ≠ 36 := q_ne32 hs33_36
      have e37 : (((xs (qi x3)) &&& (63 : Int32))).toInt ≠ 37 := q_ne32 hs33_37
      have e38 : (((xs (qi x3)) &&& (63 : Int32))).toInt ≠ 38 := q_ne32 hs33_38
      have e39 : (((xs (qi x3)) &&& (63 : Int32))).toInt ≠ 39 := q_ne32 hs33_39
      omega
    refine q_tabOut hX hout d_Law_law_33 rfl ?_
    refine q_iinc hX d_Law_law_1618 rfl (ii_6 _) (by decide) rfl rfl ?_
    refine q_goto hX d_Law_law_1621 rfl ?_
    exact q_mask [true, true, true, true] rfl (hk18 _ _ h)
theorem t_law_l18 {G : qG} {X : qX} (hX : qOk G X "ChantryRollsLaw" code 4 ret 40) {xs : Nat → Int32} {L : Nat} (hsc : qSc G X L xs) {u : Int32} {f : Nat} (hT : qLT G X u) : ∀ (n : Nat) (σ : qMem) (x3 : Int32), qfix2 (p_law_l18 f xs L  ) n σ x3 = some u → qV G X 147 4386 qKS qRF σ 18 [some (.ref 1048950), some (.ref 0), some (.ref 104), some (.int x3)] [] :=
  qfix2_ind (fun k hk _ _ h => t_law_lb18 hX hsc  hT  hk h)

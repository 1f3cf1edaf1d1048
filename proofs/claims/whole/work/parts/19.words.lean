theorem wd_2 : Cond.selects RE yE_begin yE_begin ∈ gtb := gtb_in (i := 2) (by decide +kernel) (by decide +kernel)
theorem wd_3 : Cond.selects RL yL_keepAll yL_keepAll ∈ gtb := gtb_in (i := 3) (by decide +kernel) (by decide +kernel)
theorem wd_4 : Cond.selects RL yL_widen yL_widen ∈ gtb := gtb_in (i := 4) (by decide +kernel) (by decide +kernel)
theorem wd_5 : Cond.selects RL yL_isThere yL_isThere ∈ gtb := gtb_in (i := 5) (by decide +kernel) (by decide +kernel)
theorem wd_6 : Cond.selects RL yL_keep yL_keep ∈ gtb := gtb_in (i := 6) (by decide +kernel) (by decide +kernel)
theorem wd_7 : Cond.selects RL yL_levelOf yL_levelOf ∈ gtb := gtb_in (i := 7) (by decide +kernel) (by decide +kernel)
theorem wd_8 : Cond.selects RK yK_setSlopes yK_setSlopes ∈ gtb := gtb_in (i := 8) (by decide +kernel) (by decide +kernel)
theorem wd_9 : Cond.selects RK yK_pointsOf yK_pointsOf ∈ gtb := gtb_in (i := 9) (by decide +kernel) (by decide +kernel)
theorem wd_10 : Cond.selects RX yX_forget yX_forget ∈ gtb := gtb_in (i := 10) (by decide +kernel) (by decide +kernel)
theorem wd_11 : Cond.selects RK yK_seek yK_seek ∈ gtb := gtb_in (i := 11) (by decide +kernel) (by decide +kernel)
theorem wd_12 : Cond.selects RL yL_leaveRoomToStuffs yL_leaveRoomToStuffs ∈ gtb := gtb_in (i := 12) (by decide +kernel) (by decide +kernel)
theorem wd_13 : Cond.selects RK yK_setPlanes yK_setPlanes ∈ gtb := gtb_in (i := 13) (by decide +kernel) (by decide +kernel)
theorem wd_14 : Cond.selects RK yK_addPlanesOfOneAmount yK_addPlanesOfOneAmount ∈ gtb := gtb_in (i := 14) (by decide +kernel) (by decide +kernel)
theorem wd_15 : Cond.selects RK yK_addPlane yK_addPlane ∈ gtb := gtb_in (i := 15) (by decide +kernel) (by decide +kernel)
theorem wd_16 : Cond.selects RK yK_addPlanesOfStuffs yK_addPlanesOfStuffs ∈ gtb := gtb_in (i := 16) (by decide +kernel) (by decide +kernel)
theorem wd_17 : Cond.selects RK yK_addPlanesOfNutrients yK_addPlanesOfNutrients ∈ gtb := gtb_in (i := 17) (by decide +kernel) (by decide +kernel)
theorem wd_18 : Cond.selects RL yL_extremeOf yL_extremeOf ∈ gtb := gtb_in (i := 18) (by decide +kernel) (by decide +kernel)
theorem wd_19 : Cond.selects RK yK_setCrossOf yK_setCrossOf ∈ gtb := gtb_in (i := 19) (by decide +kernel) (by decide +kernel)
theorem wd_20 : Cond.selects RK yK_isCorner yK_isCorner ∈ gtb := gtb_in (i := 20) (by decide +kernel) (by decide +kernel)
theorem wd_21 : Cond.selects RL yL_allow yL_allow ∈ gtb := gtb_in (i := 21) (by decide +kernel) (by decide +kernel)
theorem wd_22 : Cond.selects RL yL_allOf yL_allOf ∈ gtb := gtb_in (i := 22) (by decide +kernel) (by decide +kernel)
theorem wd_23 : Cond.selects RX yX_sum yX_sum ∈ gtb := gtb_in (i := 23) (by decide +kernel) (by decide +kernel)
theorem wd_24 : Cond.selects RK yK_offer yK_offer ∈ gtb := gtb_in (i := 24) (by decide +kernel) (by decide +kernel)
theorem wd_25 : Cond.selects RX yX_isBetterThan yX_isBetterThan ∈ gtb := gtb_in (i := 25) (by decide +kernel) (by decide +kernel)
theorem wd_26 : Cond.selects RX yX_become yX_become ∈ gtb := gtb_in (i := 26) (by decide +kernel) (by decide +kernel)
theorem wd_27 : Cond.selects RX yX_isNone yX_isNone ∈ gtb := gtb_in (i := 27) (by decide +kernel) (by decide +kernel)
theorem wd_31 : Cond.selects RL yL_leaveOut yL_leaveOut ∈ gtb := gtb_in (i := 31) (by decide +kernel) (by decide +kernel)
theorem wd_51 : Cond.initialized RF ∈ gtb := gtb_in (i := 51) (by decide +kernel) (by decide +kernel)
theorem wd_53 : Cond.initialized RE ∈ gtb := gtb_in (i := 53) (by decide +kernel) (by decide +kernel)
theorem wd_54 : Cond.initialized RL ∈ gtb := gtb_in (i := 54) (by decide +kernel) (by decide +kernel)
theorem wd_55 : Cond.initialized RK ∈ gtb := gtb_in (i := 55) (by decide +kernel) (by decide +kernel)
theorem wd_56 : Cond.initialized RX ∈ gtb := gtb_in (i := 56) (by decide +kernel) (by decide +kernel)
theorem wd_58 : Cond.initialized RJM ∈ gtb := gtb_in (i := 58) (by decide +kernel) (by decide +kernel)
theorem wd_59 : Cond.initialized RJL ∈ gtb := gtb_in (i := 59) (by decide +kernel) (by decide +kernel)
theorem wd_138 : Cond.fieldLink RL 33 "FeedMixes$Limits" "told" "LFeedMixes$Told;" ∈ gtb := gtb_in (i := 138) (by decide +kernel) (by decide +kernel)
theorem wd_139 : Cond.fieldLink RL 9 "FeedMixes$Limits" "weight" "I" ∈ gtb := gtb_in (i := 139) (by decide +kernel) (by decide +kernel)
theorem wd_140 : Cond.fieldLink RL 15 "FeedMixes$Limits" "whole" "I" ∈ gtb := gtb_in (i := 140) (by decide +kernel) (by decide +kernel)
theorem wd_143 : Cond.fieldLink RL 18 "FeedMixes$Limits" "kept" "I" ∈ gtb := gtb_in (i := 143) (by decide +kernel) (by decide +kernel)
theorem wd_145 : Cond.fieldLink RL 21 "FeedMixes$Limits" "low" "[I" ∈ gtb := gtb_in (i := 145) (by decide +kernel) (by decide +kernel)
theorem wd_148 : Cond.fieldLink RL 25 "FeedMixes$Limits" "high" "[I" ∈ gtb := gtb_in (i := 148) (by decide +kernel) (by decide +kernel)
theorem wd_151 : Cond.fieldLink RL 30 "FeedMixes$Limits" "leanFirst" "[[I" ∈ gtb := gtb_in (i := 151) (by decide +kernel) (by decide +kernel)
theorem wd_180 : Cond.fieldLink RX 9 "FeedMixes$Mix" "amount" "[J" ∈ gtb := gtb_in (i := 180) (by decide +kernel) (by decide +kernel)
theorem wd_184 : Cond.fieldLink RX 15 "FeedMixes$Mix" "price" "J" ∈ gtb := gtb_in (i := 184) (by decide +kernel) (by decide +kernel)
theorem wd_187 : Cond.fieldLink RX 19 "FeedMixes$Mix" "under" "J" ∈ gtb := gtb_in (i := 187) (by decide +kernel) (by decide +kernel)
theorem wd_199 : Cond.fieldLink RK 44 "FeedMixes$Corners" "told" "LFeedMixes$Told;" ∈ gtb := gtb_in (i := 199) (by decide +kernel) (by decide +kernel)
theorem wd_200 : Cond.fieldLink RK 48 "FeedMixes$Corners" "limits" "LFeedMixes$Limits;" ∈ gtb := gtb_in (i := 200) (by decide +kernel) (by decide +kernel)
theorem wd_201 : Cond.fieldLink RK 9 "FeedMixes$Corners" "ofLast" "[I" ∈ gtb := gtb_in (i := 201) (by decide +kernel) (by decide +kernel)
theorem wd_202 : Cond.fieldLink RK 17 "FeedMixes$Corners" "slope" "[[I" ∈ gtb := gtb_in (i := 202) (by decide +kernel) (by decide +kernel)
theorem wd_203 : Cond.fieldLink RK 20 "FeedMixes$Corners" "planeRow" "[I" ∈ gtb := gtb_in (i := 203) (by decide +kernel) (by decide +kernel)
theorem wd_204 : Cond.fieldLink RK 23 "FeedMixes$Corners" "planeLevel" "[I" ∈ gtb := gtb_in (i := 204) (by decide +kernel) (by decide +kernel)
theorem wd_205 : Cond.fieldLink RK 26 "FeedMixes$Corners" "planes" "I" ∈ gtb := gtb_in (i := 205) (by decide +kernel) (by decide +kernel)
theorem wd_206 : Cond.fieldLink RK 30 "FeedMixes$Corners" "throughAll" "I" ∈ gtb := gtb_in (i := 206) (by decide +kernel) (by decide +kernel)
theorem wd_207 : Cond.fieldLink RK 33 "FeedMixes$Corners" "crossAB" "[J" ∈ gtb := gtb_in (i := 207) (by decide +kernel) (by decide +kernel)
theorem wd_208 : Cond.fieldLink RK 40 "FeedMixes$Corners" "corner" "LFeedMixes$Mix;" ∈ gtb := gtb_in (i := 208) (by decide +kernel) (by decide +kernel)
theorem wd_230 : Cond.fieldLink RE 9 "FeedMixes$Mixer" "told" "LFeedMixes$Told;" ∈ gtb := gtb_in (i := 230) (by decide +kernel) (by decide +kernel)
theorem wd_231 : Cond.fieldLink RE 20 "FeedMixes$Mixer" "limits" "LFeedMixes$Limits;" ∈ gtb := gtb_in (i := 231) (by decide +kernel) (by decide +kernel)
theorem wd_232 : Cond.fieldLink RE 29 "FeedMixes$Mixer" "corners" "LFeedMixes$Corners;" ∈ gtb := gtb_in (i := 232) (by decide +kernel) (by decide +kernel)
theorem wd_286 : Cond.methodLink RF 86 yF_isWithin ∈ gtb := gtb_in (i := 286) (by decide +kernel) (by decide +kernel)
theorem wd_287 : Cond.static yF_isWithin ∈ gtb := gtb_in (i := 287) (by decide +kernel) (by decide +kernel)
set_option maxRecDepth 100000 in
theorem wd_288 : Cond.code yF_isWithin bF_isWithin 3 (some .boolean) ∈ gtb := gtb_in (i := 288) rfl (by decide +kernel)
theorem wd_334 : Cond.methodLink RE 40 yE_begin ∈ gtb := gtb_in (i := 334) (by decide +kernel) (by decide +kernel)
theorem wd_336 : Cond.instanceMethod yE_begin ∈ gtb := gtb_in (i := 336) (by decide +kernel) (by decide +kernel)
set_option maxRecDepth 100000 in
theorem wd_337 : Cond.code yE_begin bE_begin 2 none ∈ gtb := gtb_in (i := 337) rfl (by decide +kernel)
theorem wd_340 : Cond.instanceMethod yL_keepAll ∈ gtb := gtb_in (i := 340) (by decide +kernel) (by decide +kernel)
set_option maxRecDepth 100000 in
theorem wd_341 : Cond.code yL_keepAll bL_keepAll 3 none ∈ gtb := gtb_in (i := 341) rfl (by decide +kernel)
theorem wd_342 : Cond.methodLink RL 37 yL_widen ∈ gtb := gtb_in (i := 342) (by decide +kernel) (by decide +kernel)
theorem wd_344 : Cond.instanceMethod yL_widen ∈ gtb := gtb_in (i := 344) (by decide +kernel) (by decide +kernel)
set_option maxRecDepth 100000 in
theorem wd_345 : Cond.code yL_widen bL_widen 2 none ∈ gtb := gtb_in (i := 345) rfl (by decide +kernel)
theorem wd_346 : Cond.methodLink RL 41 yL_isThere ∈ gtb := gtb_in (i := 346) (by decide +kernel) (by decide +kernel)
theorem wd_348 : Cond.instanceMethod yL_isThere ∈ gtb := gtb_in (i := 348) (by decide +kernel) (by decide +kernel)
set_option maxRecDepth 100000 in
theorem wd_349 : Cond.code yL_isThere bL_isThere 3 (some .boolean) ∈ gtb := gtb_in (i := 349) rfl (by decide +kernel)
theorem wd_351 : Cond.static yF_rowOf ∈ gtb := gtb_in (i := 351) (by decide +kernel) (by decide +kernel)
set_option maxRecDepth 100000 in
theorem wd_352 : Cond.code yF_rowOf bF_rowOf 1 (some .int) ∈ gtb := gtb_in (i := 352) rfl (by decide +kernel)
theorem wd_353 : Cond.methodLink RL 45 yL_keep ∈ gtb := gtb_in (i := 353) (by decide +kernel) (by decide +kernel)
theorem wd_355 : Cond.instanceMethod yL_keep ∈ gtb := gtb_in (i := 355) (by decide +kernel) (by decide +kernel)
set_option maxRecDepth 100000 in
theorem wd_356 : Cond.code yL_keep bL_keep 3 none ∈ gtb := gtb_in (i := 356) rfl (by decide +kernel)
theorem wd_358 : Cond.static yF_isLeast ∈ gtb := gtb_in (i := 358) (by decide +kernel) (by decide +kernel)
set_option maxRecDepth 100000 in
theorem wd_359 : Cond.code yF_isLeast bF_isLeast 1 (some .boolean) ∈ gtb := gtb_in (i := 359) rfl (by decide +kernel)
theorem wd_360 : Cond.methodLink RL 67 yL_levelOf ∈ gtb := gtb_in (i := 360) (by decide +kernel) (by decide +kernel)
theorem wd_362 : Cond.instanceMethod yL_levelOf ∈ gtb := gtb_in (i := 362) (by decide +kernel) (by decide +kernel)
set_option maxRecDepth 100000 in
theorem wd_363 : Cond.code yL_levelOf bL_levelOf 4 (some .int) ∈ gtb := gtb_in (i := 363) rfl (by decide +kernel)
theorem wd_364 : Cond.methodLink RL 70 yJM_max ∈ gtb := gtb_in (i := 364) (by decide +kernel) (by decide +kernel)
theorem wd_365 : Cond.static yJM_max ∈ gtb := gtb_in (i := 365) (by decide +kernel) (by decide +kernel)
set_option maxRecDepth 100000 in
theorem wd_366 : Cond.code yJM_max bJM_max 2 (some .int) ∈ gtb := gtb_in (i := 366) rfl (by decide +kernel)
theorem wd_367 : Cond.methodLink RL 76 yJM_min ∈ gtb := gtb_in (i := 367) (by decide +kernel) (by decide +kernel)
theorem wd_368 : Cond.static yJM_min ∈ gtb := gtb_in (i := 368) (by decide +kernel) (by decide +kernel)
set_option maxRecDepth 100000 in
theorem wd_369 : Cond.code yJM_min bJM_min 2 (some .int) ∈ gtb := gtb_in (i := 369) rfl (by decide +kernel)
theorem wd_370 : Cond.methodLink RL 53 yL_sortByPoints ∈ gtb := gtb_in (i := 370) (by decide +kernel) (by decide +kernel)
theorem wd_371 : Cond.static yL_sortByPoints ∈ gtb := gtb_in (i := 371) (by decide +kernel) (by decide +kernel)
set_option maxRecDepth 100000 in
theorem wd_372 : Cond.code yL_sortByPoints bL_sortByPoints 4 none ∈ gtb := gtb_in (i := 372) rfl (by decide +kernel)
theorem wd_375 : Cond.instanceMethod yK_setSlopes ∈ gtb := gtb_in (i := 375) (by decide +kernel) (by decide +kernel)
set_option maxRecDepth 100000 in
theorem wd_376 : Cond.code yK_setSlopes bK_setSlopes 4 none ∈ gtb := gtb_in (i := 376) rfl (by decide +kernel)
theorem wd_377 : Cond.methodLink RK 52 yK_pointsOf ∈ gtb := gtb_in (i := 377) (by decide +kernel) (by decide +kernel)
theorem wd_379 : Cond.instanceMethod yK_pointsOf ∈ gtb := gtb_in (i := 379) (by decide +kernel) (by decide +kernel)
set_option maxRecDepth 100000 in
theorem wd_380 : Cond.code yK_pointsOf bK_pointsOf 3 (some .int) ∈ gtb := gtb_in (i := 380) rfl (by decide +kernel)
theorem wd_383 : Cond.instanceMethod yX_forget ∈ gtb := gtb_in (i := 383) (by decide +kernel) (by decide +kernel)
set_option maxRecDepth 100000 in
theorem wd_384 : Cond.code yX_forget bX_forget 1 none ∈ gtb := gtb_in (i := 384) rfl (by decide +kernel)
theorem wd_385 : Cond.methodLink RE 52 yE_fillFromSilos ∈ gtb := gtb_in (i := 385) (by decide +kernel) (by decide +kernel)
theorem wd_386 : Cond.static yE_fillFromSilos ∈ gtb := gtb_in (i := 386) (by decide +kernel) (by decide +kernel)
set_option maxRecDepth 100000 in
theorem wd_387 : Cond.code yE_fillFromSilos bE_fillFromSilos 9 none ∈ gtb := gtb_in (i := 387) rfl (by decide +kernel)
theorem wd_390 : Cond.instanceMethod yK_seek ∈ gtb := gtb_in (i := 390) (by decide +kernel) (by decide +kernel)
set_option maxRecDepth 100000 in
theorem wd_391 : Cond.code yK_seek bK_seek 6 (some .boolean) ∈ gtb := gtb_in (i := 391) rfl (by decide +kernel)
theorem wd_394 : Cond.instanceMethod yL_leaveRoomToStuffs ∈ gtb := gtb_in (i := 394) (by decide +kernel) (by decide +kernel)
set_option maxRecDepth 100000 in
theorem wd_395 : Cond.code yL_leaveRoomToStuffs bL_leaveRoomToStuffs 4 (some .boolean) ∈ gtb := gtb_in (i := 395) rfl (by decide +kernel)
theorem wd_396 : Cond.methodLink RK 70 yK_setPlanes ∈ gtb := gtb_in (i := 396) (by decide +kernel) (by decide +kernel)
theorem wd_398 : Cond.instanceMethod yK_setPlanes ∈ gtb := gtb_in (i := 398) (by decide +kernel) (by decide +kernel)
set_option maxRecDepth 100000 in
theorem wd_399 : Cond.code yK_setPlanes bK_setPlanes 1 (some .boolean) ∈ gtb := gtb_in (i := 399) rfl (by decide +kernel)
theorem wd_400 : Cond.methodLink RK 85 yK_addPlanesOfOneAmount ∈ gtb := gtb_in (i := 400) (by decide +kernel) (by decide +kernel)
theorem wd_402 : Cond.instanceMethod yK_addPlanesOfOneAmount ∈ gtb := gtb_in (i := 402) (by decide +kernel) (by decide +kernel)
set_option maxRecDepth 100000 in
theorem wd_403 : Cond.code yK_addPlanesOfOneAmount bK_addPlanesOfOneAmount 2 none ∈ gtb := gtb_in (i := 403) rfl (by decide +kernel)
theorem wd_404 : Cond.methodLink RK 100 yK_addPlane ∈ gtb := gtb_in (i := 404) (by decide +kernel) (by decide +kernel)
theorem wd_406 : Cond.instanceMethod yK_addPlane ∈ gtb := gtb_in (i := 406) (by decide +kernel) (by decide +kernel)
set_option maxRecDepth 100000 in
theorem wd_407 : Cond.code yK_addPlane bK_addPlane 3 none ∈ gtb := gtb_in (i := 407) rfl (by decide +kernel)
theorem wd_408 : Cond.methodLink RK 88 yK_addPlanesOfStuffs ∈ gtb := gtb_in (i := 408) (by decide +kernel) (by decide +kernel)
theorem wd_410 : Cond.instanceMethod yK_addPlanesOfStuffs ∈ gtb := gtb_in (i := 410) (by decide +kernel) (by decide +kernel)
set_option maxRecDepth 100000 in
theorem wd_411 : Cond.code yK_addPlanesOfStuffs bK_addPlanesOfStuffs 2 none ∈ gtb := gtb_in (i := 411) rfl (by decide +kernel)
theorem wd_412 : Cond.methodLink RK 91 yK_addPlanesOfNutrients ∈ gtb := gtb_in (i := 412) (by decide +kernel) (by decide +kernel)
theorem wd_414 : Cond.instanceMethod yK_addPlanesOfNutrients ∈ gtb := gtb_in (i := 414) (by decide +kernel) (by decide +kernel)
set_option maxRecDepth 100000 in
theorem wd_415 : Cond.code yK_addPlanesOfNutrients bK_addPlanesOfNutrients 5 (some .boolean) ∈ gtb := gtb_in (i := 415) rfl (by decide +kernel)
theorem wd_418 : Cond.instanceMethod yL_extremeOf ∈ gtb := gtb_in (i := 418) (by decide +kernel) (by decide +kernel)
set_option maxRecDepth 100000 in
theorem wd_419 : Cond.code yL_extremeOf bL_extremeOf 10 (some .int) ∈ gtb := gtb_in (i := 419) rfl (by decide +kernel)
theorem wd_420 : Cond.methodLink RK 73 yK_setCrossOf ∈ gtb := gtb_in (i := 420) (by decide +kernel) (by decide +kernel)
theorem wd_422 : Cond.instanceMethod yK_setCrossOf ∈ gtb := gtb_in (i := 422) (by decide +kernel) (by decide +kernel)
set_option maxRecDepth 100000 in
theorem wd_423 : Cond.code yK_setCrossOf bK_setCrossOf 4 none ∈ gtb := gtb_in (i := 423) rfl (by decide +kernel)
theorem wd_424 : Cond.methodLink RK 111 yK_cross ∈ gtb := gtb_in (i := 424) (by decide +kernel) (by decide +kernel)
theorem wd_425 : Cond.static yK_cross ∈ gtb := gtb_in (i := 425) (by decide +kernel) (by decide +kernel)
set_option maxRecDepth 100000 in
theorem wd_426 : Cond.code yK_cross bK_cross 5 (some .long) ∈ gtb := gtb_in (i := 426) rfl (by decide +kernel)
theorem wd_427 : Cond.methodLink RK 77 yK_isCorner ∈ gtb := gtb_in (i := 427) (by decide +kernel) (by decide +kernel)
theorem wd_429 : Cond.instanceMethod yK_isCorner ∈ gtb := gtb_in (i := 429) (by decide +kernel) (by decide +kernel)
set_option maxRecDepth 100000 in
theorem wd_430 : Cond.code yK_isCorner bK_isCorner 15 (some .boolean) ∈ gtb := gtb_in (i := 430) rfl (by decide +kernel)
theorem wd_433 : Cond.instanceMethod yL_allow ∈ gtb := gtb_in (i := 433) (by decide +kernel) (by decide +kernel)
set_option maxRecDepth 100000 in
theorem wd_434 : Cond.code yL_allow bL_allow 6 (some .boolean) ∈ gtb := gtb_in (i := 434) rfl (by decide +kernel)
theorem wd_437 : Cond.instanceMethod yL_allOf ∈ gtb := gtb_in (i := 437) (by decide +kernel) (by decide +kernel)
set_option maxRecDepth 100000 in
theorem wd_438 : Cond.code yL_allOf bL_allOf 3 (some .long) ∈ gtb := gtb_in (i := 438) rfl (by decide +kernel)
theorem wd_441 : Cond.instanceMethod yX_sum ∈ gtb := gtb_in (i := 441) (by decide +kernel) (by decide +kernel)
set_option maxRecDepth 100000 in
theorem wd_442 : Cond.code yX_sum bX_sum 2 (some .long) ∈ gtb := gtb_in (i := 442) rfl (by decide +kernel)
theorem wd_443 : Cond.methodLink RK 81 yK_offer ∈ gtb := gtb_in (i := 443) (by decide +kernel) (by decide +kernel)
theorem wd_445 : Cond.instanceMethod yK_offer ∈ gtb := gtb_in (i := 445) (by decide +kernel) (by decide +kernel)
set_option maxRecDepth 100000 in
theorem wd_446 : Cond.code yK_offer bK_offer 2 none ∈ gtb := gtb_in (i := 446) rfl (by decide +kernel)
theorem wd_450 : Cond.instanceMethod yX_isBetterThan ∈ gtb := gtb_in (i := 450) (by decide +kernel) (by decide +kernel)
set_option maxRecDepth 100000 in
theorem wd_451 : Cond.code yX_isBetterThan bX_isBetterThan 4 (some .boolean) ∈ gtb := gtb_in (i := 451) rfl (by decide +kernel)
theorem wd_452 : Cond.methodLink RX 22 yJL_compare ∈ gtb := gtb_in (i := 452) (by decide +kernel) (by decide +kernel)
theorem wd_453 : Cond.static yJL_compare ∈ gtb := gtb_in (i := 453) (by decide +kernel) (by decide +kernel)
set_option maxRecDepth 100000 in
theorem wd_454 : Cond.code yJL_compare bJL_compare 4 (some .int) ∈ gtb := gtb_in (i := 454) rfl (by decide +kernel)
theorem wd_457 : Cond.instanceMethod yX_become ∈ gtb := gtb_in (i := 457) (by decide +kernel) (by decide +kernel)
set_option maxRecDepth 100000 in
theorem wd_458 : Cond.code yX_become bX_become 3 none ∈ gtb := gtb_in (i := 458) rfl (by decide +kernel)
theorem wd_461 : Cond.instanceMethod yX_isNone ∈ gtb := gtb_in (i := 461) (by decide +kernel) (by decide +kernel)
set_option maxRecDepth 100000 in
theorem wd_462 : Cond.code yX_isNone bX_isNone 1 (some .boolean) ∈ gtb := gtb_in (i := 462) rfl (by decide +kernel)
theorem wd_480 : Cond.static yF_hasBound ∈ gtb := gtb_in (i := 480) (by decide +kernel) (by decide +kernel)
set_option maxRecDepth 100000 in
theorem wd_481 : Cond.code yF_hasBound bF_hasBound 2 (some .boolean) ∈ gtb := gtb_in (i := 481) rfl (by decide +kernel)
theorem wd_484 : Cond.instanceMethod yL_leaveOut ∈ gtb := gtb_in (i := 484) (by decide +kernel) (by decide +kernel)
set_option maxRecDepth 100000 in
theorem wd_485 : Cond.code yL_leaveOut bL_leaveOut 6 (some .boolean) ∈ gtb := gtb_in (i := 485) rfl (by decide +kernel)
theorem wd_492 : Cond.constantLong RF 124 (-1) ∈ gtb := gtb_in (i := 492) (by decide +kernel) (by decide +kernel)
theorem wd_497 : Cond.methodLink RF 146 yF_commonDivisor ∈ gtb := gtb_in (i := 497) (by decide +kernel) (by decide +kernel)
theorem wd_498 : Cond.static yF_commonDivisor ∈ gtb := gtb_in (i := 498) (by decide +kernel) (by decide +kernel)
set_option maxRecDepth 100000 in
theorem wd_499 : Cond.code yF_commonDivisor bF_commonDivisor 11 (some .long) ∈ gtb := gtb_in (i := 499) rfl (by decide +kernel)
theorem nw_487 : Cond.methodLinkNest RE 90 yL_keep RF ∈ nwt := nwt_in (i := 487) (by decide +kernel) rfl
theorem nw_486 : Cond.methodLinkNest RL 79 yF_hasBound RF ∈ nwt := nwt_in (i := 486) (by decide +kernel) rfl
theorem nw_482 : Cond.methodLinkNest RE 86 yL_leaveOut RF ∈ nwt := nwt_in (i := 482) (by decide +kernel) rfl
theorem nw_479 : Cond.methodLinkNest RE 82 yF_hasBound RF ∈ nwt := nwt_in (i := 479) (by decide +kernel) rfl
theorem nw_470 : Cond.methodLinkNest RE 104 yL_levelOf RF ∈ nwt := nwt_in (i := 470) (by decide +kernel) rfl
theorem nw_469 : Cond.methodLinkNest RE 100 yL_allOf RF ∈ nwt := nwt_in (i := 469) (by decide +kernel) rfl
theorem nw_468 : Cond.methodLinkNest RE 96 yF_rowOf RF ∈ nwt := nwt_in (i := 468) (by decide +kernel) rfl
theorem nw_467 : Cond.methodLinkNest RE 93 yL_isThere RF ∈ nwt := nwt_in (i := 467) (by decide +kernel) rfl
theorem nw_459 : Cond.methodLinkNest RE 56 yX_isNone RF ∈ nwt := nwt_in (i := 459) (by decide +kernel) rfl
theorem nw_455 : Cond.methodLinkNest RK 139 yX_become RF ∈ nwt := nwt_in (i := 455) (by decide +kernel) rfl
theorem nw_448 : Cond.methodLinkNest RK 135 yX_isBetterThan RF ∈ nwt := nwt_in (i := 448) (by decide +kernel) rfl
theorem nw_447 : Cond.methodLinkNest RK 129 yX_sum RF ∈ nwt := nwt_in (i := 447) (by decide +kernel) rfl
theorem nw_439 : Cond.methodLinkNest RL 104 yX_sum RF ∈ nwt := nwt_in (i := 439) (by decide +kernel) rfl
theorem nw_435 : Cond.methodLinkNest RK 122 yL_allOf RF ∈ nwt := nwt_in (i := 435) (by decide +kernel) rfl
theorem nw_431 : Cond.methodLinkNest RK 115 yL_allow RF ∈ nwt := nwt_in (i := 431) (by decide +kernel) rfl
theorem nw_416 : Cond.methodLinkNest RK 103 yL_extremeOf RF ∈ nwt := nwt_in (i := 416) (by decide +kernel) rfl
theorem nw_392 : Cond.methodLinkNest RK 66 yL_leaveRoomToStuffs RF ∈ nwt := nwt_in (i := 392) (by decide +kernel) rfl
theorem nw_388 : Cond.methodLinkNest RE 65 yK_seek RF ∈ nwt := nwt_in (i := 388) (by decide +kernel) rfl
theorem nw_381 : Cond.methodLinkNest RE 43 yX_forget RF ∈ nwt := nwt_in (i := 381) (by decide +kernel) rfl
theorem nw_373 : Cond.methodLinkNest RE 37 yK_setSlopes RF ∈ nwt := nwt_in (i := 373) (by decide +kernel) rfl
theorem nw_357 : Cond.methodLinkNest RL 64 yF_isLeast RF ∈ nwt := nwt_in (i := 357) (by decide +kernel) rfl
theorem nw_350 : Cond.methodLinkNest RL 60 yF_rowOf RF ∈ nwt := nwt_in (i := 350) (by decide +kernel) rfl
theorem nw_338 : Cond.methodLinkNest RE 33 yL_keepAll RF ∈ nwt := nwt_in (i := 338) (by decide +kernel) rfl
theorem nw_190 : Cond.fieldLinkNest RK 107 "FeedMixes$Mix" "under" "J" RF ∈ nwt := nwt_in (i := 190) (by decide +kernel) rfl
theorem nw_188 : Cond.fieldLinkNest RE 107 "FeedMixes$Mix" "under" "J" RF ∈ nwt := nwt_in (i := 188) (by decide +kernel) rfl
theorem nw_186 : Cond.fieldLinkNest RK 133 "FeedMixes$Mix" "price" "J" RF ∈ nwt := nwt_in (i := 186) (by decide +kernel) rfl
theorem nw_183 : Cond.fieldLinkNest RL 98 "FeedMixes$Mix" "amount" "[J" RF ∈ nwt := nwt_in (i := 183) (by decide +kernel) rfl
theorem nw_182 : Cond.fieldLinkNest RK 119 "FeedMixes$Mix" "amount" "[J" RF ∈ nwt := nwt_in (i := 182) (by decide +kernel) rfl
theorem nw_150 : Cond.fieldLinkNest RK 97 "FeedMixes$Limits" "high" "[I" RF ∈ nwt := nwt_in (i := 150) (by decide +kernel) rfl
theorem nw_149 : Cond.fieldLinkNest RE 76 "FeedMixes$Limits" "high" "[I" RF ∈ nwt := nwt_in (i := 149) (by decide +kernel) rfl
theorem nw_147 : Cond.fieldLinkNest RK 94 "FeedMixes$Limits" "low" "[I" RF ∈ nwt := nwt_in (i := 147) (by decide +kernel) rfl
theorem nw_146 : Cond.fieldLinkNest RE 73 "FeedMixes$Limits" "low" "[I" RF ∈ nwt := nwt_in (i := 146) (by decide +kernel) rfl
theorem nw_144 : Cond.fieldLinkNest RE 79 "FeedMixes$Limits" "kept" "I" RF ∈ nwt := nwt_in (i := 144) (by decide +kernel) rfl
theorem nw_142 : Cond.fieldLinkNest RE 48 "FeedMixes$Limits" "whole" "I" RF ∈ nwt := nwt_in (i := 142) (by decide +kernel) rfl
theorem nw_141 : Cond.fieldLinkNest RK 56 "FeedMixes$Limits" "whole" "I" RF ∈ nwt := nwt_in (i := 141) (by decide +kernel) rfl
theorem nw_104 : Cond.fieldLinkNest RL 95 "FeedMixes$Told" "mostNeed" "[I" RF ∈ nwt := nwt_in (i := 104) (by decide +kernel) rfl
theorem nw_101 : Cond.fieldLinkNest RL 92 "FeedMixes$Told" "leastNeed" "[I" RF ∈ nwt := nwt_in (i := 101) (by decide +kernel) rfl
theorem nw_97 : Cond.fieldLinkNest RK 61 "FeedMixes$Told" "points" "[[I" RF ∈ nwt := nwt_in (i := 97) (by decide +kernel) rfl
theorem nw_96 : Cond.fieldLinkNest RL 48 "FeedMixes$Told" "points" "[[I" RF ∈ nwt := nwt_in (i := 96) (by decide +kernel) rfl
theorem nw_93 : Cond.fieldLinkNest RE 69 "FeedMixes$Told" "silo" "[I" RF ∈ nwt := nwt_in (i := 93) (by decide +kernel) rfl
theorem nw_91 : Cond.fieldLinkNest RL 89 "FeedMixes$Told" "mostShare" "[I" RF ∈ nwt := nwt_in (i := 91) (by decide +kernel) rfl
theorem nw_88 : Cond.fieldLinkNest RL 86 "FeedMixes$Told" "leastShare" "[I" RF ∈ nwt := nwt_in (i := 88) (by decide +kernel) rfl
theorem nw_85 : Cond.fieldLinkNest RL 83 "FeedMixes$Told" "stock" "[I" RF ∈ nwt := nwt_in (i := 85) (by decide +kernel) rfl
theorem nw_82 : Cond.fieldLinkNest RK 126 "FeedMixes$Told" "price" "[I" RF ∈ nwt := nwt_in (i := 82) (by decide +kernel) rfl
theorem nw_79 : Cond.fieldLinkNest RL 57 "FeedMixes$Told" "stuffs" "I" RF ∈ nwt := nwt_in (i := 79) (by decide +kernel) rfl
theorem nw_78 : Cond.fieldLinkNest RE 60 "FeedMixes$Told" "stuffs" "I" RF ∈ nwt := nwt_in (i := 78) (by decide +kernel) rfl

theorem m9_326 : Cond.constant RL 7 (40503) ∈ wsL_law := wc_14 _ (List.mem_of_getElem? (i := 14) rfl)
theorem m9_333 : Cond.constant RL 8 (2147483647) ∈ wsL_law := wc_14 _ (List.mem_of_getElem? (i := 21) rfl)
theorem m9_250 : Cond.methodLink RL 67 yX5_refusal ∈ wsL_law := wc_11 _ (List.mem_of_getElem? (i := 10) rfl)
theorem m9_251 : Cond.instanceMethod yX5_refusal ∈ wsL_law := wc_11 _ (List.mem_of_getElem? (i := 11) rfl)
theorem m9_252 : Cond.selects RX5 yX5_refusal yX5_refusal ∈ wsL_law := wc_11 _ (List.mem_of_getElem? (i := 12) rfl)
theorem m9_253 : Cond.code yX5_refusal cX5_refusal 5 (some .int) ∈ wsL_law := wc_11 _ (List.mem_of_getElem? (i := 13) rfl)
theorem m9_66 : Cond.methodLink RL 9 yX5_count ∈ wsL_law := wc_3 _ (List.mem_of_getElem? (i := 18) rfl)
theorem m9_67 : Cond.instanceMethod yX5_count ∈ wsL_law := wc_3 _ (List.mem_of_getElem? (i := 19) rfl)
theorem m9_68 : Cond.selects RX5 yX5_count yX5_count ∈ wsL_law := wc_3 _ (List.mem_of_getElem? (i := 20) rfl)
theorem m9_69 : Cond.code yX5_count cX5_count 2 (some .int) ∈ wsL_law := wc_3 _ (List.mem_of_getElem? (i := 21) rfl)
theorem m9_139 : Cond.methodLink RL 24 yX5_ropeOf ∈ wsL_law := wc_6 _ (List.mem_of_getElem? (i := 19) rfl)
theorem m9_140 : Cond.instanceMethod yX5_ropeOf ∈ wsL_law := wc_6 _ (List.mem_of_getElem? (i := 20) rfl)
theorem m9_141 : Cond.selects RX5 yX5_ropeOf yX5_ropeOf ∈ wsL_law := wc_6 _ (List.mem_of_getElem? (i := 21) rfl)
theorem m9_142 : Cond.code yX5_ropeOf cX5_ropeOf 4 (some .int) ∈ wsL_law := wc_6 _ (List.mem_of_getElem? (i := 22) rfl)
theorem m9_210 : Cond.methodLink RL 27 yX5_gapOf ∈ wsL_law := wc_9 _ (List.mem_of_getElem? (i := 18) rfl)
theorem m9_211 : Cond.instanceMethod yX5_gapOf ∈ wsL_law := wc_9 _ (List.mem_of_getElem? (i := 19) rfl)
theorem m9_212 : Cond.selects RX5 yX5_gapOf yX5_gapOf ∈ wsL_law := wc_9 _ (List.mem_of_getElem? (i := 20) rfl)
theorem m9_213 : Cond.code yX5_gapOf cX5_gapOf 2 (some .int) ∈ wsL_law := wc_9 _ (List.mem_of_getElem? (i := 21) rfl)
theorem m9_369 : Cond.methodLink RL 70 yX5_lay ∈ wsL_law := wc_16 _ (List.mem_of_getElem? (i := 9) rfl)
theorem m9_370 : Cond.instanceMethod yX5_lay ∈ wsL_law := wc_16 _ (List.mem_of_getElem? (i := 10) rfl)
theorem m9_371 : Cond.selects RX5 yX5_lay yX5_lay ∈ wsL_law := wc_16 _ (List.mem_of_getElem? (i := 11) rfl)
theorem m9_372 : Cond.code yX5_lay cX5_lay 5 (some .int) ∈ wsL_law := wc_16 _ (List.mem_of_getElem? (i := 12) rfl)
theorem m9_191 : Cond.methodLink RL 34 yX5_hueOf ∈ wsL_law := wc_8 _ (List.mem_of_getElem? (i := 23) rfl)
theorem m9_192 : Cond.instanceMethod yX5_hueOf ∈ wsL_law := wc_9 _ (List.mem_of_getElem? (i := 0) rfl)
theorem m9_193 : Cond.selects RX5 yX5_hueOf yX5_hueOf ∈ wsL_law := wc_9 _ (List.mem_of_getElem? (i := 1) rfl)
theorem m9_194 : Cond.code yX5_hueOf cX5_hueOf 5 (some .int) ∈ wsL_law := wc_9 _ (List.mem_of_getElem? (i := 2) rfl)
theorem m9_399 : Cond.methodLink RL 73 yX5_stretch ∈ wsL_law := wc_17 _ (List.mem_of_getElem? (i := 15) rfl)
theorem m9_400 : Cond.instanceMethod yX5_stretch ∈ wsL_law := wc_17 _ (List.mem_of_getElem? (i := 16) rfl)
theorem m9_401 : Cond.selects RX5 yX5_stretch yX5_stretch ∈ wsL_law := wc_17 _ (List.mem_of_getElem? (i := 17) rfl)
theorem m9_402 : Cond.code yX5_stretch cX5_stretch 5 (some .int) ∈ wsL_law := wc_17 _ (List.mem_of_getElem? (i := 18) rfl)
theorem m9_274 : Cond.methodLink RL 58 yX5_joining ∈ wsL_law := wc_12 _ (List.mem_of_getElem? (i := 10) rfl)
theorem m9_275 : Cond.instanceMethod yX5_joining ∈ wsL_law := wc_12 _ (List.mem_of_getElem? (i := 11) rfl)
theorem m9_276 : Cond.selects RX5 yX5_joining yX5_joining ∈ wsL_law := wc_12 _ (List.mem_of_getElem? (i := 12) rfl)
theorem m9_277 : Cond.code yX5_joining cX5_joining 5 (some .int) ∈ wsL_law := wc_12 _ (List.mem_of_getElem? (i := 13) rfl)
theorem m9_423 : Cond.methodLink RL 61 yX5_join ∈ wsL_law := wc_18 _ (List.mem_of_getElem? (i := 15) rfl)
theorem m9_424 : Cond.instanceMethod yX5_join ∈ wsL_law := wc_18 _ (List.mem_of_getElem? (i := 16) rfl)
theorem m9_425 : Cond.selects RX5 yX5_join yX5_join ∈ wsL_law := wc_18 _ (List.mem_of_getElem? (i := 17) rfl)
theorem m9_426 : Cond.code yX5_join cX5_join 5 (some .int) ∈ wsL_law := wc_18 _ (List.mem_of_getElem? (i := 18) rfl)
theorem m9_435 : Cond.methodLink RL 79 yX5_undo ∈ wsL_law := wc_19 _ (List.mem_of_getElem? (i := 3) rfl)
theorem m9_436 : Cond.instanceMethod yX5_undo ∈ wsL_law := wc_19 _ (List.mem_of_getElem? (i := 4) rfl)
theorem m9_437 : Cond.selects RX5 yX5_undo yX5_undo ∈ wsL_law := wc_19 _ (List.mem_of_getElem? (i := 5) rfl)
theorem m9_438 : Cond.code yX5_undo cX5_undo 1 (some .int) ∈ wsL_law := wc_19 _ (List.mem_of_getElem? (i := 6) rfl)
theorem m9_411 : Cond.methodLink RL 76 yX5_cut ∈ wsL_law := wc_18 _ (List.mem_of_getElem? (i := 3) rfl)
theorem m9_412 : Cond.instanceMethod yX5_cut ∈ wsL_law := wc_18 _ (List.mem_of_getElem? (i := 4) rfl)
theorem m9_413 : Cond.selects RX5 yX5_cut yX5_cut ∈ wsL_law := wc_18 _ (List.mem_of_getElem? (i := 5) rfl)
theorem m9_414 : Cond.code yX5_cut cX5_cut 5 (some .int) ∈ wsL_law := wc_18 _ (List.mem_of_getElem? (i := 6) rfl)
theorem m9_214 : Cond.methodLink RL 83 yX5_place ∈ wsL_law := wc_9 _ (List.mem_of_getElem? (i := 22) rfl)
theorem m9_215 : Cond.instanceMethod yX5_place ∈ wsL_law := wc_9 _ (List.mem_of_getElem? (i := 23) rfl)
theorem m9_216 : Cond.selects RX5 yX5_place yX5_place ∈ wsL_law := wc_10 _ (List.mem_of_getElem? (i := 0) rfl)
theorem m9_217 : Cond.code yX5_place cX5_place 4 (some .int) ∈ wsL_law := wc_10 _ (List.mem_of_getElem? (i := 1) rfl)
theorem m9_446 : Cond.methodLink RL 86 yX5_turn ∈ wsL_law := wc_19 _ (List.mem_of_getElem? (i := 14) rfl)
theorem m9_447 : Cond.instanceMethod yX5_turn ∈ wsL_law := wc_19 _ (List.mem_of_getElem? (i := 15) rfl)
theorem m9_448 : Cond.selects RX5 yX5_turn yX5_turn ∈ wsL_law := wc_19 _ (List.mem_of_getElem? (i := 16) rfl)
theorem m9_449 : Cond.code yX5_turn cX5_turn 3 (some .int) ∈ wsL_law := wc_19 _ (List.mem_of_getElem? (i := 17) rfl)
theorem m9_379 : Cond.methodLink RL 38 yX5_take ∈ wsL_law := wc_16 _ (List.mem_of_getElem? (i := 19) rfl)
theorem m9_380 : Cond.instanceMethod yX5_take ∈ wsL_law := wc_16 _ (List.mem_of_getElem? (i := 20) rfl)
theorem m9_381 : Cond.selects RX5 yX5_take yX5_take ∈ wsL_law := wc_16 _ (List.mem_of_getElem? (i := 21) rfl)
theorem m9_382 : Cond.code yX5_take cX5_take 4 (some .int) ∈ wsL_law := wc_16 _ (List.mem_of_getElem? (i := 22) rfl)
theorem m9_330 : Cond.methodLink RL 15 yL_low ∈ wsL_law := wc_14 _ (List.mem_of_getElem? (i := 18) rfl)
theorem m9_331 : Cond.static yL_low ∈ wsL_law := wc_14 _ (List.mem_of_getElem? (i := 19) rfl)
theorem m9_64 : Cond.initialized RL ∈ wsL_law := wc_3 _ (List.mem_of_getElem? (i := 16) rfl)
theorem m9_332 : Cond.code yL_low cL_low 2 (some .int) ∈ wsL_law := wc_14 _ (List.mem_of_getElem? (i := 20) rfl)
theorem m9_387 : Cond.methodLink RL 41 yX5_gap ∈ wsL_law := wc_17 _ (List.mem_of_getElem? (i := 3) rfl)
theorem m9_388 : Cond.instanceMethod yX5_gap ∈ wsL_law := wc_17 _ (List.mem_of_getElem? (i := 4) rfl)
theorem m9_389 : Cond.selects RX5 yX5_gap yX5_gap ∈ wsL_law := wc_17 _ (List.mem_of_getElem? (i := 5) rfl)
theorem m9_390 : Cond.code yX5_gap cX5_gap 4 (some .int) ∈ wsL_law := wc_17 _ (List.mem_of_getElem? (i := 6) rfl)
theorem m9_334 : Cond.methodLink RL 21 yX5_rope ∈ wsL_law := wc_14 _ (List.mem_of_getElem? (i := 22) rfl)
theorem m9_335 : Cond.instanceMethod yX5_rope ∈ wsL_law := wc_14 _ (List.mem_of_getElem? (i := 23) rfl)
theorem m9_336 : Cond.selects RX5 yX5_rope yX5_rope ∈ wsL_law := wc_15 _ (List.mem_of_getElem? (i := 0) rfl)
theorem m9_337 : Cond.code yX5_rope cX5_rope 2 (some .int) ∈ wsL_law := wc_15 _ (List.mem_of_getElem? (i := 1) rfl)
theorem m9_366 : Cond.methodLink RL 30 yL_lays ∈ wsL_law := wc_16 _ (List.mem_of_getElem? (i := 6) rfl)
theorem m9_367 : Cond.static yL_lays ∈ wsL_law := wc_16 _ (List.mem_of_getElem? (i := 7) rfl)
theorem m9_368 : Cond.code yL_lays cL_lays 10 (some .boolean) ∈ wsL_law := wc_16 _ (List.mem_of_getElem? (i := 8) rfl)
theorem m9_259 : Cond.methodLink RL 44 yX5_greatest ∈ wsL_law := wc_11 _ (List.mem_of_getElem? (i := 19) rfl)
theorem m9_260 : Cond.instanceMethod yX5_greatest ∈ wsL_law := wc_11 _ (List.mem_of_getElem? (i := 20) rfl)
theorem m9_261 : Cond.selects RX5 yX5_greatest yX5_greatest ∈ wsL_law := wc_11 _ (List.mem_of_getElem? (i := 21) rfl)
theorem m9_262 : Cond.code yX5_greatest cX5_greatest 2 (some .int) ∈ wsL_law := wc_11 _ (List.mem_of_getElem? (i := 22) rfl)
theorem m9_396 : Cond.methodLink RL 47 yL_stretches ∈ wsL_law := wc_17 _ (List.mem_of_getElem? (i := 12) rfl)
theorem m9_397 : Cond.static yL_stretches ∈ wsL_law := wc_17 _ (List.mem_of_getElem? (i := 13) rfl)
theorem m9_398 : Cond.code yL_stretches cL_stretches 5 (some .boolean) ∈ wsL_law := wc_17 _ (List.mem_of_getElem? (i := 14) rfl)
theorem m9_408 : Cond.methodLink RL 51 yL_cuts ∈ wsL_law := wc_18 _ (List.mem_of_getElem? (i := 0) rfl)
theorem m9_409 : Cond.static yL_cuts ∈ wsL_law := wc_18 _ (List.mem_of_getElem? (i := 1) rfl)
theorem m9_410 : Cond.code yL_cuts cL_cuts 8 (some .boolean) ∈ wsL_law := wc_18 _ (List.mem_of_getElem? (i := 2) rfl)
theorem m9_443 : Cond.methodLink RL 54 yL_turns ∈ wsL_law := wc_19 _ (List.mem_of_getElem? (i := 11) rfl)
theorem m9_444 : Cond.static yL_turns ∈ wsL_law := wc_19 _ (List.mem_of_getElem? (i := 12) rfl)
theorem m9_445 : Cond.code yL_turns cL_turns 7 (some .boolean) ∈ wsL_law := wc_19 _ (List.mem_of_getElem? (i := 13) rfl)
theorem m9_458 : Cond.methodLink RL 64 yX5_drop ∈ wsL_law := wc_20 _ (List.mem_of_getElem? (i := 2) rfl)
theorem m9_459 : Cond.instanceMethod yX5_drop ∈ wsL_law := wc_20 _ (List.mem_of_getElem? (i := 3) rfl)
theorem m9_460 : Cond.selects RX5 yX5_drop yX5_drop ∈ wsL_law := wc_20 _ (List.mem_of_getElem? (i := 4) rfl)
theorem m9_461 : Cond.code yX5_drop cX5_drop 2 (some .int) ∈ wsL_law := wc_20 _ (List.mem_of_getElem? (i := 5) rfl)
theorem m9_219 : Cond.methodLink RL 89 yX5_phases ∈ wsL_law := wc_10 _ (List.mem_of_getElem? (i := 3) rfl)
theorem m9_220 : Cond.instanceMethod yX5_phases ∈ wsL_law := wc_10 _ (List.mem_of_getElem? (i := 4) rfl)
theorem m9_221 : Cond.selects RX5 yX5_phases yX5_phases ∈ wsL_law := wc_10 _ (List.mem_of_getElem? (i := 5) rfl)
theorem m9_222 : Cond.code yX5_phases cX5_phases 5 (some .int) ∈ wsL_law := wc_10 _ (List.mem_of_getElem? (i := 6) rfl)
theorem m9_247 : Cond.methodLink RL 92 yL_arePhases ∈ wsL_law := wc_11 _ (List.mem_of_getElem? (i := 7) rfl)
theorem m9_248 : Cond.static yL_arePhases ∈ wsL_law := wc_11 _ (List.mem_of_getElem? (i := 8) rfl)
theorem m9_249 : Cond.code yL_arePhases cL_arePhases 7 (some .boolean) ∈ wsL_law := wc_11 _ (List.mem_of_getElem? (i := 9) rfl)
theorem m9_473 : Cond.methodLink RL 99 yX5_walked ∈ wsL_law := wc_20 _ (List.mem_of_getElem? (i := 17) rfl)
theorem m9_474 : Cond.instanceMethod yX5_walked ∈ wsL_law := wc_20 _ (List.mem_of_getElem? (i := 18) rfl)
theorem m9_475 : Cond.selects RX5 yX5_walked yX5_walked ∈ wsL_law := wc_20 _ (List.mem_of_getElem? (i := 19) rfl)
theorem m9_476 : Cond.code yX5_walked cX5_walked 5 (some .int) ∈ wsL_law := wc_20 _ (List.mem_of_getElem? (i := 20) rfl)
theorem m9_465 : Cond.methodLink RL 95 yX5_meeting ∈ wsL_law := wc_20 _ (List.mem_of_getElem? (i := 9) rfl)
theorem m9_466 : Cond.instanceMethod yX5_meeting ∈ wsL_law := wc_20 _ (List.mem_of_getElem? (i := 10) rfl)
theorem m9_467 : Cond.selects RX5 yX5_meeting yX5_meeting ∈ wsL_law := wc_20 _ (List.mem_of_getElem? (i := 11) rfl)
theorem m9_468 : Cond.code yX5_meeting cX5_meeting 5 (some .int) ∈ wsL_law := wc_20 _ (List.mem_of_getElem? (i := 12) rfl)
theorem m9_307 : Cond.methodLink RL 105 yX5_fullness ∈ wsL_law := wc_13 _ (List.mem_of_getElem? (i := 19) rfl)
theorem m9_308 : Cond.instanceMethod yX5_fullness ∈ wsL_law := wc_13 _ (List.mem_of_getElem? (i := 20) rfl)
theorem m9_309 : Cond.selects RX5 yX5_fullness yX5_fullness ∈ wsL_law := wc_13 _ (List.mem_of_getElem? (i := 21) rfl)
theorem m9_310 : Cond.code yX5_fullness cX5_fullness 3 (some .double) ∈ wsL_law := wc_13 _ (List.mem_of_getElem? (i := 22) rfl)
theorem m9_136 : Cond.methodLink RL 102 yL_isRope ∈ wsL_law := wc_6 _ (List.mem_of_getElem? (i := 16) rfl)
theorem m9_137 : Cond.static yL_isRope ∈ wsL_law := wc_6 _ (List.mem_of_getElem? (i := 17) rfl)
theorem m9_138 : Cond.code yL_isRope cL_isRope 13 (some .boolean) ∈ wsL_law := wc_6 _ (List.mem_of_getElem? (i := 18) rfl)
theorem m9_480 : Cond.methodLink RL 127 yX5_restore ∈ wsL_law := wc_21 _ (List.mem_of_getElem? (i := 0) rfl)
theorem m9_481 : Cond.instanceMethod yX5_restore ∈ wsL_law := wc_21 _ (List.mem_of_getElem? (i := 1) rfl)
theorem m9_482 : Cond.selects RX5 yX5_restore yX5_restore ∈ wsL_law := wc_21 _ (List.mem_of_getElem? (i := 2) rfl)
theorem m9_483 : Cond.code yX5_restore cX5_restore 1 (some .int) ∈ wsL_law := wc_21 _ (List.mem_of_getElem? (i := 3) rfl)
theorem m9_311 : Cond.methodLink RL 114 yX5_keep ∈ wsL_law := wc_13 _ (List.mem_of_getElem? (i := 23) rfl)
theorem m9_312 : Cond.instanceMethod yX5_keep ∈ wsL_law := wc_14 _ (List.mem_of_getElem? (i := 0) rfl)
theorem m9_313 : Cond.selects RX5 yX5_keep yX5_keep ∈ wsL_law := wc_14 _ (List.mem_of_getElem? (i := 1) rfl)
theorem m9_314 : Cond.code yX5_keep cX5_keep 1 (some .int) ∈ wsL_law := wc_14 _ (List.mem_of_getElem? (i := 2) rfl)
theorem m9_323 : Cond.methodLink RL 117 yL_cell ∈ wsL_law := wc_14 _ (List.mem_of_getElem? (i := 11) rfl)
theorem m9_324 : Cond.static yL_cell ∈ wsL_law := wc_14 _ (List.mem_of_getElem? (i := 12) rfl)
theorem m9_325 : Cond.code yL_cell cL_cell 2 (some .int) ∈ wsL_law := wc_14 _ (List.mem_of_getElem? (i := 13) rfl)
theorem m9_327 : Cond.methodLink RL 121 yL_change ∈ wsL_law := wc_14 _ (List.mem_of_getElem? (i := 15) rfl)
theorem m9_328 : Cond.static yL_change ∈ wsL_law := wc_14 _ (List.mem_of_getElem? (i := 16) rfl)
theorem m9_329 : Cond.code yL_change cL_change 10 (some .boolean) ∈ wsL_law := wc_14 _ (List.mem_of_getElem? (i := 17) rfl)
theorem m9_62 : Cond.methodLink RL 110 yL_holds ∈ wsL_law := wc_3 _ (List.mem_of_getElem? (i := 14) rfl)
theorem m9_63 : Cond.static yL_holds ∈ wsL_law := wc_3 _ (List.mem_of_getElem? (i := 15) rfl)
theorem m9_65 : Cond.code yL_holds cL_holds 5 (some .boolean) ∈ wsL_law := wc_3 _ (List.mem_of_getElem? (i := 17) rfl)
theorem m9_462 : Cond.methodLink RL 124 yL_meets ∈ wsL_law := wc_20 _ (List.mem_of_getElem? (i := 6) rfl)
theorem m9_463 : Cond.static yL_meets ∈ wsL_law := wc_20 _ (List.mem_of_getElem? (i := 7) rfl)
theorem m9_464 : Cond.code yL_meets cL_meets 9 (some .boolean) ∈ wsL_law := wc_20 _ (List.mem_of_getElem? (i := 8) rfl)
theorem kd_L_cell : yL_cell.cls ≠ "java/lang/invoke/MethodHandle" ∧ yL_cell.cls ≠ "java/lang/invoke/VarHandle" ∧ (parseMethodDescriptor yL_cell.desc).map (fun d => d.parameters.length) = some 2 := by decide +kernel
set_option maxRecDepth 20000 in
set_option maxHeartbeats 4000000 in
theorem cc_L_cell {l : Launch} {h : PH} {b9 lL : Nat} {xs : Nat → Int32} {a1 : Int32} {r : Int32} (hf : f_L_cell xs lL a1 = some r) : CC l yL_cell cL_cell 2 0 0 b9 lL xs [.ref b9, .int a1] h (some (.int r)) := by
  refine CC.of (own := RL) rfl (by decide) (Nat.le_of_ble_eq_true rfl) ?_
  intro p e R s m args below meth c g X hR C hX hbl hbo
  subst hR
  unfold f_L_cell at hf
  have hj20 : ∀ (k0 : Int32), f_L_cell_J20 (fun _ => none) k0 = some r → G p l e ({ frames := 0, cells := 0, slots := 0, locals := 0 } : Room) s m args below meth c 2 g X h 0 0 (MQ below (QW g X h s.heap.size (some (.int r)) h) args s 0 0 (AF X h s.heap.size)) 20 [] [.int (k0)] h := by
    intro k0 hf
    unfold f_L_cell_J20 at hf
    cases hf
    exact G.iret C rfl dL_cell_20
  refine G.sub C [0, 1] (lv' := [(0, .ref (b9)), (1, .int (a1))]) rfl ?_
  refine G.iload_n C 1 dL_cell_0 rfl rfl ?_
  refine G.aload_n C 0 dL_cell_1 rfl rfl ?_
  refine G.slen C hX hbl hbo dL_cell_2 ?_
  refine G.icmp_ge (tgt := 12) C dL_cell_3 (by decide) hf (fun c2 hf => ?_) (fun c2 hf => ?_)
  · refine G.ldcI (v := 40503) C m9_326 dL_cell_12 ?_
    refine G.iload_n C 1 dL_cell_14 rfl rfl ?_
    refine G.imul C dL_cell_15 ?_
    refine G.sipush (v := 977) C dL_cell_16 (by decide) ?_
    refine G.iadd C dL_cell_19 ?_
    refine G.sub C [] (lv' := []) rfl ?_
    exact hj20 _ hf
  · refine G.aload_n C 0 dL_cell_6 rfl rfl ?_
    refine G.iload_n C 1 dL_cell_7 rfl rfl ?_
    obtain ⟨c1, hf⟩ := gd_ok hf
    refine G.sld C hX hbl hbo c1 dL_cell_8 ?_
    refine G.goto (tgt := 20) C dL_cell_9 (by decide) ?_
    refine G.sub C [] (lv' := []) rfl ?_
    exact hj20 _ hf
theorem kd_L_low : yL_low.cls ≠ "java/lang/invoke/MethodHandle" ∧ yL_low.cls ≠ "java/lang/invoke/VarHandle" ∧ (parseMethodDescriptor yL_low.desc).map (fun d => d.parameters.length) = some 2 := by decide +kernel
set_option maxRecDepth 20000 in
set_option maxHeartbeats 4000000 in
theorem ct_L_low {l : Launch} {h : PH} {a0 : Int32} {a1 : Int32} {r : Int32} (hf : f_L_low h a0 a1 = some r) : CT l yL_low cL_low 2 (some .int) 0 0 [.int (a0), .int (a1)] h (some (.int r)) h := by
  refine CT.of (own := RL) rfl (by decide) (Nat.le_of_ble_eq_true rfl) ?_
  intro p e R s m args below meth c g X hR C
  subst hR
  unfold f_L_low at hf
  refine G.sub C [0, 1] (lv' := [(0, .int (a0)), (1, .int (a1))]) rfl ?_
  refine G.iload_n C 0 dL_low_0 rfl rfl ?_
  refine G.ldcI (v := 2147483647) C m9_333 dL_low_1 ?_
  refine G.iand C dL_low_3 ?_
  refine G.iload_n C 1 dL_low_4 rfl rfl ?_
  obtain ⟨c1, hf⟩ := gd_ok hf
  refine G.irem C dL_low_5 c1 ?_
  cases hf
  exact G.iret C rfl dL_low_6
theorem kd_L_lays : yL_lays.cls ≠ "java/lang/invoke/MethodHandle" ∧ yL_lays.cls ≠ "java/lang/invoke/VarHandle" ∧ (parseMethodDescriptor yL_lays.desc).map (fun d => d.parameters.length) = some 4 := by decide +kernel
set_option maxRecDepth 20000 in
set_option maxHeartbeats 8000000 in
theorem cl_L_lays {l : Launch} {h : PH} {a0 : Nat} {a1 : Int32} {a2 : Int32} {a3 : Int32} {r : (Int32 × PH)} (hf : f_L_lays h a0 a1 a2 a3 = some r) : CL l yL_lays cL_lays 10 (some .boolean) 8 136 0 0 [.ref (a0), .int (a1), .int (a2), .int (a3)] h (some (.int r.1)) r.2 := by
  refine CL.of (own := RL) rfl (by decide) (Nat.le_of_ble_eq_true rfl) ?_
  intro p e R s m args below meth c g X hR C TT
  subst hR
  unfold f_L_lays at hf
  have hj106 : ∀ (k0 : Int32), f_L_lays_J106 h k0 = some r → G p l e ({ frames := 8, cells := 0, slots := 0, locals := 136 } : Room) s m args below meth c 10 g X h 0 0 (MQ below (QW g X h s.heap.size (some (.int r.1)) r.2) args s 0 0 (AF X h s.heap.size)) 106 [] [.int (k0)] h := by
    intro k0 hf
    unfold f_L_lays_J106 at hf
    obtain ⟨c18, hf⟩ := gd_ok hf
    cases hf
    exact G.zretC C ⟨by omega, by omega⟩ rfl (z01_n c18) dL_lays_106
  have hj105 : f_L_lays_J105 h = some r → G p l e ({ frames := 8, cells := 0, slots := 0, locals := 136 } : Room) s m args below meth c 10 g X h 0 0 (MQ below (QW g X h s.heap.size (some (.int r.1)) r.2) args s 0 0 (AF X h s.heap.size)) 105 [] [] h := by
    intro hf
    unfold f_L_lays_J105 at hf
    refine G.iconst (v := 0) C dL_lays_105 (by decide) ?_
    refine G.sub C [] (lv' := []) rfl ?_
    exact hj106 _ hf
  have hj199 : ∀ (hh : PH) (k0 : Int32), f_L_lays_J199 hh k0 = some r → G p l e ({ frames := 8, cells := 0, slots := 0, locals := 136 } : Room) s m args below meth c 10 g X h 0 0 (MQ below (QW g X h s.heap.size (some (.int r.1)) r.2) args s 0 0 (AF X h s.heap.size)) 199 [] [.int (k0)] hh := by
    intro hh k0 hf
    unfold f_L_lays_J199 at hf
    obtain ⟨c19, hf⟩ := gd_ok hf
    cases hf
    exact G.zretC C ⟨by omega, by omega⟩ rfl (z01_n c19) dL_lays_199
  have hj198 : ∀ (hh : PH), f_L_lays_J198 hh = some r → G p l e ({ frames := 8, cells := 0, slots := 0, locals := 136 } : Room) s m args below meth c 10 g X h 0 0 (MQ below (QW g X h s.heap.size (some (.int r.1)) r.2) args s 0 0 (AF X h s.heap.size)) 198 [] [] hh := by
    intro hh hf
    unfold f_L_lays_J198 at hf
    refine G.iconst (v := 0) C dL_lays_198 (by decide) ?_
    refine G.sub C [] (lv' := []) rfl ?_
    exact hj199 _ _ hf
  refine G.sub C [0, 1, 2, 3] (lv' := [(0, .ref (a0)), (1, .int (a1)), (2, .int (a2)), (3, .int (a3))]) rfl ?_
  refine G.aload_n C 0 dL_lays_0 rfl rfl ?_
  refine G.iload_n C 1 dL_lays_1 rfl rfl ?_
  refine G.iload_n C 2 dL_lays_2 rfl rfl ?_
  refine G.iload_n C 3 dL_lays_3 rfl rfl ?_
  obtain ⟨q1, hq1, hf⟩ := bind_some hf
  try dsimp only at hf
  have hq1 := okL9_at hq1
  refine G.callX9 C TT (st := []) (st2 := [.int (q1)]) (cx_X5_refusal hq1) rfl (ko_X5_refusal hq1) rfl m9_250 m9_251 m9_252 m9_2 m9_253 kd_X5_refusal ⟨Nat.le_of_ble_eq_true rfl, Nat.le_of_ble_eq_true rfl⟩ ⟨Nat.le_of_ble_eq_true rfl, Nat.le_of_ble_eq_true rfl⟩ (Nat.le_of_ble_eq_true rfl) rfl rfl dL_lays_4 ?_
  refine G.istore (lv' := [(4, .int (q1)), (0, .ref (a0)), (1, .int (a1)), (2, .int (a2)), (3, .int (a3))]) C dL_lays_7 (by decide) rfl ?_
  refine G.aload_n C 1 dL_lays_9 rfl rfl ?_
  refine G.iconst (v := 4) C dL_lays_10 (by decide) ?_
  obtain ⟨q2, hq2, hf⟩ := bind_some hf
  try dsimp only at hf
  have hq2 := okL9_at hq2
  refine G.callX9 C TT (st := []) (st2 := [.int (q2)]) (cx_X5_count hq2) rfl (ko_X5_count hq2) rfl m9_66 m9_67 m9_68 m9_2 m9_69 kd_X5_count ⟨Nat.le_of_ble_eq_true rfl, Nat.le_of_ble_eq_true rfl⟩ ⟨Nat.le_of_ble_eq_true rfl, Nat.le_of_ble_eq_true rfl⟩ (Nat.le_of_ble_eq_true rfl) rfl rfl dL_lays_11 ?_
  refine G.istore (lv' := [(5, .int (q2)), (4, .int (q1)), (0, .ref (a0)), (1, .int (a1)), (2, .int (a2)), (3, .int (a3))]) C dL_lays_14 (by decide) rfl ?_
  refine G.aload_n C 2 dL_lays_16 rfl rfl ?_
  refine G.iload_n C 3 dL_lays_17 rfl rfl ?_
  refine G.iconst (v := 2) C dL_lays_18 (by decide) ?_
  obtain ⟨q3, hq3, hf⟩ := bind_some hf
  try dsimp only at hf
  have hq3 := okL9_at hq3
  refine G.callX9 C TT (st := []) (st2 := [.int (q3)]) (cx_X5_ropeOf hq3) rfl (ko_X5_ropeOf hq3) rfl m9_139 m9_140 m9_141 m9_2 m9_142 kd_X5_ropeOf ⟨Nat.le_of_ble_eq_true rfl, Nat.le_of_ble_eq_true rfl⟩ ⟨Nat.le_of_ble_eq_true rfl, Nat.le_of_ble_eq_true rfl⟩ (Nat.le_of_ble_eq_true rfl) rfl rfl dL_lays_19 ?_
  refine G.istore (lv' := [(6, .int (q3)), (5, .int (q2)), (4, .int (q1)), (0, .ref (a0)), (1, .int (a1)), (2, .int (a2)), (3, .int (a3))]) C dL_lays_22 (by decide) rfl ?_
  refine G.aload_n C 3 dL_lays_24 rfl rfl ?_
  refine G.iload_n C 5 dL_lays_25 rfl rfl ?_
  obtain ⟨q4, hq4, hf⟩ := bind_some hf
  try dsimp only at hf
  have hq4 := okL9_at hq4
  refine G.callX9 C TT (st := []) (st2 := [.int (q4)]) (cx_X5_gapOf hq4) rfl (ko_X5_gapOf hq4) rfl m9_210 m9_211 m9_212 m9_2 m9_213 kd_X5_gapOf ⟨Nat.le_of_ble_eq_true rfl, Nat.le_of_ble_eq_true rfl⟩ ⟨Nat.le_of_ble_eq_true rfl, Nat.le_of_ble_eq_true rfl⟩ (Nat.le_of_ble_eq_true rfl) rfl rfl dL_lays_26 ?_
  refine G.istore (lv' := [(7, .int (q4)), (6, .int (q3)), (5, .int (q2)), (4, .int (q1)), (0, .ref (a0)), (1, .int (a1)), (2, .int (a2)), (3, .int (a3))]) C dL_lays_29 (by decide) rfl ?_
  refine G.iload C 3 dL_lays_31 rfl ?_
  refine G.if_le (tgt := 107) C dL_lays_33 (by decide) hf (fun c27 hf => ?_) (fun c27 hf => ?_)
  · refine G.aload_n C 4 dL_lays_107 rfl rfl ?_
    refine G.iload_n C 5 dL_lays_108 rfl rfl ?_
    refine G.iconst (v := 0) C dL_lays_109 (by decide) ?_
    obtain ⟨q5, hq5, hf⟩ := bind_some hf
    try dsimp only at hf
    have hq5 := okL9_at hq5
    refine G.callX9 C TT (st := []) (st2 := [.int (q5)]) (cx_X5_ropeOf hq5) rfl (ko_X5_ropeOf hq5) rfl m9_139 m9_140 m9_141 m9_2 m9_142 kd_X5_ropeOf ⟨Nat.le_of_ble_eq_true rfl, Nat.le_of_ble_eq_true rfl⟩ ⟨Nat.le_of_ble_eq_true rfl, Nat.le_of_ble_eq_true rfl⟩ (Nat.le_of_ble_eq_true rfl) rfl rfl dL_lays_110 ?_
    refine G.iload_n C 7 dL_lays_113 rfl rfl ?_
    refine G.isub C dL_lays_114 ?_
    refine G.iload C 0 dL_lays_115 rfl ?_
    refine G.iadd C dL_lays_117 ?_
    refine G.iconst (v := 1) C dL_lays_118 (by decide) ?_
    refine G.isub C dL_lays_119 ?_
    refine G.iload C 0 dL_lays_120 rfl ?_
    obtain ⟨c6, hf⟩ := gd_ok hf
    refine G.idiv C dL_lays_122 c6 ?_
    refine G.istore (lv' := [(8, .int (((((q5 - a3) + q4) - (1 : Int32)) / q4))), (7, .int (q4)), (6, .int (q3)), (5, .int (q2)), (4, .int (q1)), (0, .ref (a0)), (1, .int (a1)), (2, .int (a2)), (3, .int (a3))]) C dL_lays_123 (by decide) rfl ?_
    refine G.aload_n C 5 dL_lays_125 rfl rfl ?_
    refine G.iload_n C 6 dL_lays_126 rfl rfl ?_
    refine G.iconst (v := 1) C dL_lays_127 (by decide) ?_
    obtain ⟨q7, hq7, hf⟩ := bind_some hf
    try dsimp only at hf
    have hq7 := okL9_at hq7
    refine G.callX9 C TT (st := []) (st2 := [.int (q7)]) (cx_X5_ropeOf hq7) rfl (ko_X5_ropeOf hq7) rfl m9_139 m9_140 m9_141 m9_2 m9_142 kd_X5_ropeOf ⟨Nat.le_of_ble_eq_true rfl, Nat.le_of_ble_eq_true rfl⟩ ⟨Nat.le_of_ble_eq_true rfl, Nat.le_of_ble_eq_true rfl⟩ (Nat.le_of_ble_eq_true rfl) rfl rfl dL_lays_128 ?_
    refine G.istore (lv' := [(9, .int (q7)), (8, .int (((((q5 - a3) + q4) - (1 : Int32)) / q4))), (7, .int (q4)), (6, .int (q3)), (5, .int (q2)), (4, .int (q1)), (0, .ref (a0)), (1, .int (a1)), (2, .int (a2)), (3, .int (a3))]) C dL_lays_131 (by decide) rfl ?_
    refine G.aload_n C 6 dL_lays_133 rfl rfl ?_
    refine G.iload_n C 7 dL_lays_134 rfl rfl ?_
    refine G.iload_n C 8 dL_lays_135 rfl rfl ?_
    refine G.iload_n C 9 dL_lays_136 rfl rfl ?_
    obtain ⟨q8, hq8, hf⟩ := bind_some hf
    try dsimp only at hf
    have hq8 := okW_at hq8
    refine G.callX9 C TT (st := []) (st2 := [.int (q8.1)]) (cx_X5_lay hq8) rfl (ko_X5_lay hq8) rfl m9_369 m9_370 m9_371 m9_2 m9_372 kd_X5_lay ⟨Nat.le_of_ble_eq_true rfl, Nat.le_of_ble_eq_true rfl⟩ ⟨Nat.le_of_ble_eq_true rfl, Nat.le_of_ble_eq_true rfl⟩ (Nat.le_of_ble_eq_true rfl) rfl rfl dL_lays_137 ?_
    refine G.iload C 1 dL_lays_140 rfl ?_
    refine G.icmp_ne (tgt := 198) C dL_lays_142 (by decide) hf (fun c17 hf => ?_) (fun c17 hf => ?_)
    · refine G.sub C [] (lv' := []) rfl ?_
      exact hj198 _ hf
    · refine G.aload_n C 6 dL_lays_145 rfl rfl ?_
      refine G.iconst (v := 4) C dL_lays_146 (by decide) ?_
      obtain ⟨q9, hq9, hf⟩ := bind_some hf
      try dsimp only at hf
      have hq9 := okL9_at hq9
      refine G.callX9 C TT (st := []) (st2 := [.int (q9)]) (cx_X5_count hq9) rfl (ko_X5_count hq9) rfl m9_66 m9_67 m9_68 m9_2 m9_69 kd_X5_count ⟨Nat.le_of_ble_eq_true rfl, Nat.le_of_ble_eq_true rfl⟩ ⟨Nat.le_of_ble_eq_true rfl, Nat.le_of_ble_eq_true rfl⟩ (Nat.le_of_ble_eq_true rfl) rfl rfl dL_lays_147 ?_
      refine G.iload C 4 dL_lays_150 rfl ?_
      refine G.iconst (v := 1) C dL_lays_152 (by decide) ?_
      refine G.iadd C dL_lays_153 ?_
      refine G.icmp_ne (tgt := 198) C dL_lays_154 (by decide) hf (fun c16 hf => ?_) (fun c16 hf => ?_)
      · refine G.sub C [] (lv' := []) rfl ?_
        exact hj198 _ hf
      · refine G.aload_n C 6 dL_lays_157 rfl rfl ?_
        refine G.iload_n C 7 dL_lays_158 rfl rfl ?_
        refine G.iconst (v := 2) C dL_lays_159 (by decide) ?_
        obtain ⟨q10, hq10, hf⟩ := bind_some hf
        try dsimp only at hf
        have hq10 := okL9_at hq10
        refine G.callX9 C TT (st := []) (st2 := [.int (q10)]) (cx_X5_ropeOf hq10) rfl (ko_X5_ropeOf hq10) rfl m9_139 m9_140 m9_141 m9_2 m9_142 kd_X5_ropeOf ⟨Nat.le_of_ble_eq_true rfl, Nat.le_of_ble_eq_true rfl⟩ ⟨Nat.le_of_ble_eq_true rfl, Nat.le_of_ble_eq_true rfl⟩ (Nat.le_of_ble_eq_true rfl) rfl rfl dL_lays_160 ?_
        refine G.iload C 3 dL_lays_163 rfl ?_
        refine G.iload C 1 dL_lays_165 rfl ?_
        refine G.isub C dL_lays_167 ?_
        refine G.icmp_ne (tgt := 198) C dL_lays_168 (by decide) hf (fun c15 hf => ?_) (fun c15 hf => ?_)
        · refine G.sub C [] (lv' := []) rfl ?_
          exact hj198 _ hf
        · refine G.aload_n C 6 dL_lays_171 rfl rfl ?_
          refine G.iload_n C 7 dL_lays_172 rfl rfl ?_
          refine G.iload_n C 8 dL_lays_173 rfl rfl ?_
          refine G.iconst (v := 0) C dL_lays_174 (by decide) ?_
          obtain ⟨q11, hq11, hf⟩ := bind_some hf
          try dsimp only at hf
          have hq11 := okL9_at hq11
          refine G.callX9 C TT (st := []) (st2 := [.int (q11)]) (cx_X5_hueOf hq11) rfl (ko_X5_hueOf hq11) rfl m9_191 m9_192 m9_193 m9_2 m9_194 kd_X5_hueOf ⟨Nat.le_of_ble_eq_true rfl, Nat.le_of_ble_eq_true rfl⟩ ⟨Nat.le_of_ble_eq_true rfl, Nat.le_of_ble_eq_true rfl⟩ (Nat.le_of_ble_eq_true rfl) rfl rfl dL_lays_175 ?_
          refine G.iload_n C 9 dL_lays_178 rfl rfl ?_
          refine G.icmp_ne (tgt := 198) C dL_lays_179 (by decide) hf (fun c14 hf => ?_) (fun c14 hf => ?_)
          · refine G.sub C [] (lv' := []) rfl ?_
            exact hj198 _ hf
          · refine G.aload_n C 6 dL_lays_182 rfl rfl ?_
            refine G.iload_n C 7 dL_lays_183 rfl rfl ?_
            refine G.iload_n C 8 dL_lays_184 rfl rfl ?_
            refine G.iconst (v := 3) C dL_lays_185 (by decide) ?_
            obtain ⟨q12, hq12, hf⟩ := bind_some hf
            try dsimp only at hf
            have hq12 := okL9_at hq12
            refine G.callX9 C TT (st := []) (st2 := [.int (q12)]) (cx_X5_hueOf hq12) rfl (ko_X5_hueOf hq12) rfl m9_191 m9_192 m9_193 m9_2 m9_194 kd_X5_hueOf ⟨Nat.le_of_ble_eq_true rfl, Nat.le_of_ble_eq_true rfl⟩ ⟨Nat.le_of_ble_eq_true rfl, Nat.le_of_ble_eq_true rfl⟩ (Nat.le_of_ble_eq_true rfl) rfl rfl dL_lays_186 ?_
            refine G.iload C 0 dL_lays_189 rfl ?_
            refine G.icmp_ne (tgt := 198) C dL_lays_191 (by decide) hf (fun c13 hf => ?_) (fun c13 hf => ?_)
            · refine G.sub C [] (lv' := []) rfl ?_
              exact hj198 _ hf
            · refine G.iconst (v := 1) C dL_lays_194 (by decide) ?_
              refine G.goto (tgt := 199) C dL_lays_195 (by decide) ?_
              refine G.sub C [] (lv' := []) rfl ?_
              exact hj199 _ _ hf
  · refine G.iload C 3 dL_lays_36 rfl ?_
    refine G.iconst (v := 1) C dL_lays_38 (by decide) ?_
    refine G.icmp_ne (tgt := 60) C dL_lays_39 (by decide) hf (fun c26 hf => ?_) (fun c26 hf => ?_)
    · refine G.iload C 3 dL_lays_60 rfl ?_
      refine G.iconst (v := 2) C dL_lays_62 (by decide) ?_
      refine G.icmp_ne (tgt := 84) C dL_lays_63 (by decide) hf (fun c23 hf => ?_) (fun c23 hf => ?_)
      · refine G.iload C 3 dL_lays_84 rfl ?_
        refine G.iconst (v := 3) C dL_lays_86 (by decide) ?_
        refine G.icmp_ne (tgt := 105) C dL_lays_87 (by decide) hf (fun c20 hf => ?_) (fun c20 hf => ?_)
        · refine G.sub C [] (lv' := []) rfl ?_
          exact hj105  hf
        · refine G.aload_n C 4 dL_lays_90 rfl rfl ?_
          refine G.iload_n C 5 dL_lays_91 rfl rfl ?_
          refine G.iload_n C 6 dL_lays_92 rfl rfl ?_
          refine G.iconst (v := 0) C dL_lays_93 (by decide) ?_
          obtain ⟨q18, hq18, hf⟩ := bind_some hf
          try dsimp only at hf
          have hq18 := okL9_at hq18
          refine G.callX9 C TT (st := []) (st2 := [.int (q18)]) (cx_X5_hueOf hq18) rfl (ko_X5_hueOf hq18) rfl m9_191 m9_192 m9_193 m9_2 m9_194 kd_X5_hueOf ⟨Nat.le_of_ble_eq_true rfl, Nat.le_of_ble_eq_true rfl⟩ ⟨Nat.le_of_ble_eq_true rfl, Nat.le_of_ble_eq_true rfl⟩ (Nat.le_of_ble_eq_true rfl) rfl rfl dL_lays_94 ?_
          refine G.iconst (v := (-1)) C dL_lays_97 (by decide) ?_
          refine G.icmp_ne (tgt := 105) C dL_lays_98 (by decide) hf (fun c19 hf => ?_) (fun c19 hf => ?_)
          · refine G.sub C [] (lv' := []) rfl ?_
            exact hj105  hf
          · refine G.iconst (v := 1) C dL_lays_101 (by decide) ?_
            refine G.goto (tgt := 106) C dL_lays_102 (by decide) ?_
            refine G.sub C [] (lv' := []) rfl ?_
            exact hj106 _ hf
      · refine G.iload_n C 7 dL_lays_66 rfl rfl ?_
        refine G.aload_n C 4 dL_lays_67 rfl rfl ?_
        refine G.iload_n C 5 dL_lays_68 rfl rfl ?_
        refine G.iconst (v := 0) C dL_lays_69 (by decide) ?_
        obtain ⟨q21, hq21, hf⟩ := bind_some hf
        try dsimp only at hf
        have hq21 := okL9_at hq21
        refine G.callX9 C TT (st := [.int (a3)]) (st2 := [.int (q21), .int (a3)]) (cx_X5_ropeOf hq21) rfl (ko_X5_ropeOf hq21) rfl m9_139 m9_140 m9_141 m9_2 m9_142 kd_X5_ropeOf ⟨Nat.le_of_ble_eq_true rfl, Nat.le_of_ble_eq_true rfl⟩ ⟨Nat.le_of_ble_eq_true rfl, Nat.le_of_ble_eq_true rfl⟩ (Nat.le_of_ble_eq_true rfl) rfl rfl dL_lays_70 ?_
        refine G.icmp_lt (tgt := 80) C dL_lays_73 (by decide) hf (fun c22 hf => ?_) (fun c22 hf => ?_)
        · refine G.iconst (v := 0) C dL_lays_80 (by decide) ?_
          refine G.goto (tgt := 106) C dL_lays_81 (by decide) ?_
          refine G.sub C [] (lv' := []) rfl ?_
          exact hj106 _ hf
        · refine G.iconst (v := 1) C dL_lays_76 (by decide) ?_
          refine G.goto (tgt := 106) C dL_lays_77 (by decide) ?_
          refine G.sub C [] (lv' := []) rfl ?_
          exact hj106 _ hf
    · refine G.aload_n C 4 dL_lays_42 rfl rfl ?_
      refine G.iload_n C 5 dL_lays_43 rfl rfl ?_
      refine G.iload_n C 6 dL_lays_44 rfl rfl ?_
      refine G.iconst (v := 0) C dL_lays_45 (by decide) ?_
      obtain ⟨q24, hq24, hf⟩ := bind_some hf
      try dsimp only at hf
      have hq24 := okL9_at hq24
      refine G.callX9 C TT (st := []) (st2 := [.int (q24)]) (cx_X5_hueOf hq24) rfl (ko_X5_hueOf hq24) rfl m9_191 m9_192 m9_193 m9_2 m9_194 kd_X5_hueOf ⟨Nat.le_of_ble_eq_true rfl, Nat.le_of_ble_eq_true rfl⟩ ⟨Nat.le_of_ble_eq_true rfl, Nat.le_of_ble_eq_true rfl⟩ (Nat.le_of_ble_eq_true rfl) rfl rfl dL_lays_46 ?_
      refine G.if_lt (tgt := 56) C dL_lays_49 (by decide) hf (fun c25 hf => ?_) (fun c25 hf => ?_)
      · refine G.iconst (v := 0) C dL_lays_56 (by decide) ?_
        refine G.goto (tgt := 106) C dL_lays_57 (by decide) ?_
        refine G.sub C [] (lv' := []) rfl ?_
        exact hj106 _ hf
      · refine G.iconst (v := 1) C dL_lays_52 (by decide) ?_
        refine G.goto (tgt := 106) C dL_lays_53 (by decide) ?_
        refine G.sub C [] (lv' := []) rfl ?_
        exact hj106 _ hf
theorem kd_L_stretches : yL_stretches.cls ≠ "java/lang/invoke/MethodHandle" ∧ yL_stretches.cls ≠ "java/lang/invoke/VarHandle" ∧ (parseMethodDescriptor yL_stretches.desc).map (fun d => d.parameters.length) = some 3 := by decide +kernel
set_option maxRecDepth 20000 in
set_option maxHeartbeats 8000000 in
theorem cl_L_stretches {l : Launch} {h : PH} {a0 : Nat} {a1 : Int32} {a2 : Int32} {r : (Int32 × PH)} (hf : f_L_stretches h a0 a1 a2 = some r) : CL l yL_stretches cL_stretches 5 (some .boolean) 8 136 0 0 [.ref (a0), .int (a1), .int (a2)] h (some (.int r.1)) r.2 := by
  refine CL.of (own := RL) rfl (by decide) (Nat.le_of_ble_eq_true rfl) ?_
  intro p e R s m args below meth c g X hR C TT
  subst hR
  unfold f_L_stretches at hf
  have hj43 : ∀ (hh : PH) (k0 : Int32), f_L_stretches_J43 hh k0 = some r → G p l e ({ frames := 8, cells := 0, slots := 0, locals := 136 } : Room) s m args below meth c 5 g X h 0 0 (MQ below (QW g X h s.heap.size (some (.int r.1)) r.2) args s 0 0 (AF X h s.heap.size)) 43 [] [.int (k0)] hh := by
    intro hh k0 hf
    unfold f_L_stretches_J43 at hf
    obtain ⟨c6, hf⟩ := gd_ok hf
    cases hf
    exact G.zretC C ⟨by omega, by omega⟩ rfl (z01_n c6) dL_stretches_43
  have hj42 : ∀ (hh : PH), f_L_stretches_J42 hh = some r → G p l e ({ frames := 8, cells := 0, slots := 0, locals := 136 } : Room) s m args below meth c 5 g X h 0 0 (MQ below (QW g X h s.heap.size (some (.int r.1)) r.2) args s 0 0 (AF X h s.heap.size)) 42 [] [] hh := by
    intro hh hf
    unfold f_L_stretches_J42 at hf
    refine G.iconst (v := 0) C dL_stretches_42 (by decide) ?_
    refine G.sub C [] (lv' := []) rfl ?_
    exact hj43 _ _ hf
  refine G.sub C [0, 1, 2] (lv' := [(0, .ref (a0)), (1, .int (a1)), (2, .int (a2))]) rfl ?_
  refine G.aload_n C 0 dL_stretches_0 rfl rfl ?_
  refine G.iload_n C 1 dL_stretches_1 rfl rfl ?_
  refine G.iconst (v := 1) C dL_stretches_2 (by decide) ?_
  obtain ⟨q1, hq1, hf⟩ := bind_some hf
  try dsimp only at hf
  have hq1 := okL9_at hq1
  refine G.callX9 C TT (st := []) (st2 := [.int (q1)]) (cx_X5_ropeOf hq1) rfl (ko_X5_ropeOf hq1) rfl m9_139 m9_140 m9_141 m9_2 m9_142 kd_X5_ropeOf ⟨Nat.le_of_ble_eq_true rfl, Nat.le_of_ble_eq_true rfl⟩ ⟨Nat.le_of_ble_eq_true rfl, Nat.le_of_ble_eq_true rfl⟩ (Nat.le_of_ble_eq_true rfl) rfl rfl dL_stretches_3 ?_
  refine G.istore_n (lv' := [(3, .int (q1)), (0, .ref (a0)), (1, .int (a1)), (2, .int (a2))]) C dL_stretches_6 rfl (by decide) rfl ?_
  refine G.aload_n C 1 dL_stretches_7 rfl rfl ?_
  refine G.iload_n C 2 dL_stretches_8 rfl rfl ?_
  refine G.iload_n C 3 dL_stretches_9 rfl rfl ?_
  obtain ⟨q2, hq2, hf⟩ := bind_some hf
  try dsimp only at hf
  have hq2 := okW_at hq2
  refine G.callX9 C TT (st := []) (st2 := [.int (q2.1)]) (cx_X5_stretch hq2) rfl (ko_X5_stretch hq2) rfl m9_399 m9_400 m9_401 m9_2 m9_402 kd_X5_stretch ⟨Nat.le_of_ble_eq_true rfl, Nat.le_of_ble_eq_true rfl⟩ ⟨Nat.le_of_ble_eq_true rfl, Nat.le_of_ble_eq_true rfl⟩ (Nat.le_of_ble_eq_true rfl) rfl rfl dL_stretches_10 ?_
  refine G.istore (lv' := [(4, .int (q2.1)), (3, .int (q1)), (0, .ref (a0)), (1, .int (a1)), (2, .int (a2))]) C dL_stretches_13 (by decide) rfl ?_
  refine G.aload_n C 2 dL_stretches_15 rfl rfl ?_
  refine G.iload_n C 3 dL_stretches_16 rfl rfl ?_
  refine G.iconst (v := 0) C dL_stretches_17 (by decide) ?_
  obtain ⟨q3, hq3, hf⟩ := bind_some hf
  try dsimp only at hf
  have hq3 := okL9_at hq3
  refine G.callX9 C TT (st := []) (st2 := [.int (q3)]) (cx_X5_ropeOf hq3) rfl (ko_X5_ropeOf hq3) rfl m9_139 m9_140 m9_141 m9_2 m9_142 kd_X5_ropeOf ⟨Nat.le_of_ble_eq_true rfl, Nat.le_of_ble_eq_true rfl⟩ ⟨Nat.le_of_ble_eq_true rfl, Nat.le_of_ble_eq_true rfl⟩ (Nat.le_of_ble_eq_true rfl) rfl rfl dL_stretches_18 ?_
  refine G.iload_n C 4 dL_stretches_21 rfl rfl ?_
  refine G.icmp_ne (tgt := 42) C dL_stretches_22 (by decide) hf (fun c6 hf => ?_) (fun c6 hf => ?_)
  · refine G.sub C [] (lv' := []) rfl ?_
    exact hj42 _ hf
  · refine G.aload_n C 2 dL_stretches_25 rfl rfl ?_
    refine G.iload_n C 3 dL_stretches_26 rfl rfl ?_
    refine G.iconst (v := 1) C dL_stretches_27 (by decide) ?_
    obtain ⟨q4, hq4, hf⟩ := bind_some hf
    try dsimp only at hf
    have hq4 := okL9_at hq4
    refine G.callX9 C TT (st := []) (st2 := [.int (q4)]) (cx_X5_ropeOf hq4) rfl (ko_X5_ropeOf hq4) rfl m9_139 m9_140 m9_141 m9_2 m9_142 kd_X5_ropeOf ⟨Nat.le_of_ble_eq_true rfl, Nat.le_of_ble_eq_true rfl⟩ ⟨Nat.le_of_ble_eq_true rfl, Nat.le_of_ble_eq_true rfl⟩ (Nat.le_of_ble_eq_true rfl) rfl rfl dL_stretches_28 ?_
    refine G.iload_n C 1 dL_stretches_31 rfl rfl ?_
    refine G.iload C 0 dL_stretches_32 rfl ?_
    refine G.isub C dL_stretches_34 ?_
    refine G.icmp_ne (tgt := 42) C dL_stretches_35 (by decide) hf (fun c5 hf => ?_) (fun c5 hf => ?_)
    · refine G.sub C [] (lv' := []) rfl ?_
      exact hj42 _ hf
    · refine G.iconst (v := 1) C dL_stretches_38 (by decide) ?_
      refine G.goto (tgt := 43) C dL_stretches_39 (by decide) ?_
      refine G.sub C [] (lv' := []) rfl ?_
      exact hj43 _ _ hf
theorem kd_L_cuts : yL_cuts.cls ≠ "java/lang/invoke/MethodHandle" ∧ yL_cuts.cls ≠ "java/lang/invoke/VarHandle" ∧ (parseMethodDescriptor yL_cuts.desc).map (fun d => d.parameters.length) = some 3 := by decide +kernel
set_option maxRecDepth 20000 in
set_option maxHeartbeats 8000000 in
theorem cl_L_cuts {l : Launch} {h : PH} {a0 : Nat} {a1 : Int32} {a2 : Int32} {r : (Int32 × PH)} (hf : f_L_cuts h a0 a1 a2 = some r) : CL l yL_cuts cL_cuts 8 (some .boolean) 8 146 0 0 [.ref (a0), .int (a1), .int (a2)] h (some (.int r.1)) r.2 := by
  refine CL.of (own := RL) rfl (by decide) (Nat.le_of_ble_eq_true rfl) ?_
  intro p e R s m args below meth c g X hR C TT
  subst hR
  unfold f_L_cuts at hf
  have hj164 : ∀ (hh : PH) (k0 : Int32), f_L_cuts_J164 hh k0 = some r → G p l e ({ frames := 8, cells := 0, slots := 0, locals := 146 } : Room) s m args below meth c 8 g X h 0 0 (MQ below (QW g X h s.heap.size (some (.int r.1)) r.2) args s 0 0 (AF X h s.heap.size)) 164 [] [.int (k0)] hh := by
    intro hh k0 hf
    unfold f_L_cuts_J164 at hf
    obtain ⟨c17, hf⟩ := gd_ok hf
    cases hf
    exact G.zretC C ⟨by omega, by omega⟩ rfl (z01_n c17) dL_cuts_164
  have hj163 : ∀ (hh : PH), f_L_cuts_J163 hh = some r → G p l e ({ frames := 8, cells := 0, slots := 0, locals := 146 } : Room) s m args below meth c 8 g X h 0 0 (MQ below (QW g X h s.heap.size (some (.int r.1)) r.2) args s 0 0 (AF X h s.heap.size)) 163 [] [] hh := by
    intro hh hf
    unfold f_L_cuts_J163 at hf
    refine G.iconst (v := 0) C dL_cuts_163 (by decide) ?_
    refine G.sub C [] (lv' := []) rfl ?_
    exact hj164 _ _ hf
  have hj101 : ∀ (hh : PH) (x0 : Nat) (x1 : Int32) (x3 : Int32) (x4 : Int32) (x5 : Int32) (k0 : Int32), f_L_cuts_J101 hh (x0) (x1) (x3) (x4) (x5) k0 = some r → G p l e ({ frames := 8, cells := 0, slots := 0, locals := 146 } : Room) s m args below meth c 8 g X h 0 0 (MQ below (QW g X h s.heap.size (some (.int r.1)) r.2) args s 0 0 (AF X h s.heap.size)) 101 [(0, .ref (x0)), (1, .int (x1)), (3, .int (x3)), (4, .int (x4)), (5, .int (x5))] [.int (k0)] hh := by
    intro hh x0 x1 x3 x4 x5 k0 hf
    unfold f_L_cuts_J101 at hf
    refine G.istore (lv' := [(7, .int (k0)), (0, .ref (x0)), (1, .int (x1)), (3, .int (x3)), (4, .int (x4)), (5, .int (x5))]) C dL_cuts_101 (by decide) rfl ?_
    refine G.iload C 0 dL_cuts_103 rfl ?_
    refine G.if_eq (tgt := 163) C dL_cuts_105 (by decide) hf (fun c28 hf => ?_) (fun c28 hf => ?_)
    · refine G.sub C [] (lv' := []) rfl ?_
      exact hj163 _ hf
    · refine G.aload_n C 1 dL_cuts_108 rfl rfl ?_
      refine G.iload_n C 2 dL_cuts_109 rfl rfl ?_
      refine G.iload C 5 dL_cuts_110 rfl ?_
      obtain ⟨q18, hq18, hf⟩ := bind_some hf
      try dsimp only at hf
      have hq18 := okW_at hq18
      refine G.callX9 C TT (st := []) (st2 := [.int (q18.1)]) (cx_X5_joining hq18) rfl (ko_X5_joining hq18) rfl m9_274 m9_275 m9_276 m9_2 m9_277 kd_X5_joining ⟨Nat.le_of_ble_eq_true rfl, Nat.le_of_ble_eq_true rfl⟩ ⟨Nat.le_of_ble_eq_true rfl, Nat.le_of_ble_eq_true rfl⟩ (Nat.le_of_ble_eq_true rfl) rfl rfl dL_cuts_112 ?_
      refine G.if_ne (tgt := 163) C dL_cuts_115 (by decide) hf (fun c27 hf => ?_) (fun c27 hf => ?_)
      · refine G.sub C [] (lv' := []) rfl ?_
        exact hj163 _ hf
      · refine G.aload_n C 1 dL_cuts_118 rfl rfl ?_
        refine G.iload_n C 2 dL_cuts_119 rfl rfl ?_
        refine G.iload C 5 dL_cuts_120 rfl ?_
        obtain ⟨q19, hq19, hf⟩ := bind_some hf
        try dsimp only at hf
        have hq19 := okW_at hq19
        refine G.callX9 C TT (st := []) (st2 := [.int (q19.1)]) (cx_X5_join hq19) rfl (ko_X5_join hq19) rfl m9_423 m9_424 m9_425 m9_2 m9_426 kd_X5_join ⟨Nat.le_of_ble_eq_true rfl, Nat.le_of_ble_eq_true rfl⟩ ⟨Nat.le_of_ble_eq_true rfl, Nat.le_of_ble_eq_true rfl⟩ (Nat.le_of_ble_eq_true rfl) rfl rfl dL_cuts_122 ?_
        refine G.iload_n C 3 dL_cuts_125 rfl rfl ?_
        refine G.icmp_ne (tgt := 163) C dL_cuts_126 (by decide) hf (fun c26 hf => ?_) (fun c26 hf => ?_)
        · refine G.sub C [] (lv' := []) rfl ?_
          exact hj163 _ hf
        · refine G.aload_n C 1 dL_cuts_129 rfl rfl ?_
          refine G.iload_n C 2 dL_cuts_130 rfl rfl ?_
          refine G.iconst (v := 2) C dL_cuts_131 (by decide) ?_
          obtain ⟨q20, hq20, hf⟩ := bind_some hf
          try dsimp only at hf
          have hq20 := okL9_at hq20
          refine G.callX9 C TT (st := []) (st2 := [.int (q20)]) (cx_X5_ropeOf hq20) rfl (ko_X5_ropeOf hq20) rfl m9_139 m9_140 m9_141 m9_2 m9_142 kd_X5_ropeOf ⟨Nat.le_of_ble_eq_true rfl, Nat.le_of_ble_eq_true rfl⟩ ⟨Nat.le_of_ble_eq_true rfl, Nat.le_of_ble_eq_true rfl⟩ (Nat.le_of_ble_eq_true rfl) rfl rfl dL_cuts_132 ?_
          refine G.iload C 4 dL_cuts_135 rfl ?_
          refine G.icmp_ne (tgt := 163) C dL_cuts_137 (by decide) hf (fun c25 hf => ?_) (fun c25 hf => ?_)
          · refine G.sub C [] (lv' := []) rfl ?_
            exact hj163 _ hf
          · refine G.aload_n C 1 dL_cuts_140 rfl rfl ?_
            obtain ⟨q21, hq21, hf⟩ := bind_some hf
            try dsimp only at hf
            have hq21 := okW_at hq21
            refine G.callX9 C TT (st := []) (st2 := [.int (q21.1)]) (cx_X5_undo hq21) rfl (ko_X5_undo hq21) rfl m9_435 m9_436 m9_437 m9_2 m9_438 kd_X5_undo ⟨Nat.le_of_ble_eq_true rfl, Nat.le_of_ble_eq_true rfl⟩ ⟨Nat.le_of_ble_eq_true rfl, Nat.le_of_ble_eq_true rfl⟩ (Nat.le_of_ble_eq_true rfl) rfl rfl dL_cuts_141 ?_
            refine G.if_lt (tgt := 163) C dL_cuts_144 (by decide) hf (fun c24 hf => ?_) (fun c24 hf => ?_)
            · refine G.sub C [] (lv' := []) rfl ?_
              exact hj163 _ hf
            · refine G.aload_n C 1 dL_cuts_147 rfl rfl ?_
              refine G.iconst (v := 0) C dL_cuts_148 (by decide) ?_
              obtain ⟨q22, hq22, hf⟩ := bind_some hf
              try dsimp only at hf
              have hq22 := okL9_at hq22
              refine G.callX9 C TT (st := []) (st2 := [.int (q22)]) (cx_X5_count hq22) rfl (ko_X5_count hq22) rfl m9_66 m9_67 m9_68 m9_2 m9_69 kd_X5_count ⟨Nat.le_of_ble_eq_true rfl, Nat.le_of_ble_eq_true rfl⟩ ⟨Nat.le_of_ble_eq_true rfl, Nat.le_of_ble_eq_true rfl⟩ (Nat.le_of_ble_eq_true rfl) rfl rfl dL_cuts_149 ?_
              refine G.iload C 5 dL_cuts_152 rfl ?_
              refine G.iconst (v := 1) C dL_cuts_154 (by decide) ?_
              refine G.iadd C dL_cuts_155 ?_
              refine G.icmp_ne (tgt := 163) C dL_cuts_156 (by decide) hf (fun c23 hf => ?_) (fun c23 hf => ?_)
              · refine G.sub C [] (lv' := []) rfl ?_
                exact hj163 _ hf
              · refine G.iconst (v := 1) C dL_cuts_159 (by decide) ?_
                refine G.goto (tgt := 164) C dL_cuts_160 (by decide) ?_
                refine G.sub C [] (lv' := []) rfl ?_
                exact hj164 _ _ hf
  have hj100 : ∀ (hh : PH) (x0 : Nat) (x1 : Int32) (x3 : Int32) (x4 : Int32) (x5 : Int32), f_L_cuts_J100 hh (x0) (x1) (x3) (x4) (x5) = some r → G p l e ({ frames := 8, cells := 0, slots := 0, locals := 146 } : Room) s m args below meth c 8 g X h 0 0 (MQ below (QW g X h s.heap.size (some (.int r.1)) r.2) args s 0 0 (AF X h s.heap.size)) 100 [(0, .ref (x0)), (1, .int (x1)), (3, .int (x3)), (4, .int (x4)), (5, .int (x5))] [] hh := by
    intro hh x0 x1 x3 x4 x5 hf
    unfold f_L_cuts_J100 at hf
    refine G.iconst (v := 0) C dL_cuts_100 (by decide) ?_
    refine G.sub C [0, 1, 2, 3, 4] (lv' := [(0, .ref (x0)), (1, .int (x1)), (3, .int (x3)), (4, .int (x4)), (5, .int (x5))]) rfl ?_
    exact hj101 _ _ _ _ _ _ _ hf
  refine G.sub C [0, 1, 2] (lv' := [(0, .ref (a0)), (1, .int (a1)), (2, .int (a2))]) rfl ?_
  refine G.aload_n C 0 dL_cuts_0 rfl rfl ?_
  refine G.iload_n C 1 dL_cuts_1 rfl rfl ?_
  refine G.iconst (v := 0) C dL_cuts_2 (by decide) ?_
  obtain ⟨q1, hq1, hf⟩ := bind_some hf
  try dsimp only at hf
  have hq1 := okL9_at hq1
  refine G.callX9 C TT (st := []) (st2 := [.int (q1)]) (cx_X5_ropeOf hq1) rfl (ko_X5_ropeOf hq1) rfl m9_139 m9_140 m9_141 m9_2 m9_142 kd_X5_ropeOf ⟨Nat.le_of_ble_eq_true rfl, Nat.le_of_ble_eq_true rfl⟩ ⟨Nat.le_of_ble_eq_true rfl, Nat.le_of_ble_eq_true rfl⟩ (Nat.le_of_ble_eq_true rfl) rfl rfl dL_cuts_3 ?_
  refine G.istore_n (lv' := [(3, .int (q1)), (0, .ref (a0)), (1, .int (a1)), (2, .int (a2))]) C dL_cuts_6 rfl (by decide) rfl ?_
  refine G.aload_n C 1 dL_cuts_7 rfl rfl ?_
  refine G.iload_n C 2 dL_cuts_8 rfl rfl ?_
  refine G.iconst (v := 2) C dL_cuts_9 (by decide) ?_
  obtain ⟨q2, hq2, hf⟩ := bind_some hf
  try dsimp only at hf
  have hq2 := okL9_at hq2
  refine G.callX9 C TT (st := []) (st2 := [.int (q2)]) (cx_X5_ropeOf hq2) rfl (ko_X5_ropeOf hq2) rfl m9_139 m9_140 m9_141 m9_2 m9_142 kd_X5_ropeOf ⟨Nat.le_of_ble_eq_true rfl, Nat.le_of_ble_eq_true rfl⟩ ⟨Nat.le_of_ble_eq_true rfl, Nat.le_of_ble_eq_true rfl⟩ (Nat.le_of_ble_eq_true rfl) rfl rfl dL_cuts_10 ?_
  refine G.istore (lv' := [(4, .int (q2)), (3, .int (q1)), (0, .ref (a0)), (1, .int (a1)), (2, .int (a2))]) C dL_cuts_13 (by decide) rfl ?_
  refine G.aload_n C 2 dL_cuts_15 rfl rfl ?_
  refine G.iconst (v := 0) C dL_cuts_16 (by decide) ?_
  obtain ⟨q3, hq3, hf⟩ := bind_some hf
  try dsimp only at hf
  have hq3 := okL9_at hq3
  refine G.callX9 C TT (st := []) (st2 := [.int (q3)]) (cx_X5_count hq3) rfl (ko_X5_count hq3) rfl m9_66 m9_67 m9_68 m9_2 m9_69 kd_X5_count ⟨Nat.le_of_ble_eq_true rfl, Nat.le_of_ble_eq_true rfl⟩ ⟨Nat.le_of_ble_eq_true rfl, Nat.le_of_ble_eq_true rfl⟩ (Nat.le_of_ble_eq_true rfl) rfl rfl dL_cuts_17 ?_
  refine G.istore (lv' := [(5, .int (q3)), (4, .int (q2)), (3, .int (q1)), (0, .ref (a0)), (1, .int (a1)), (2, .int (a2))]) C dL_cuts_20 (by decide) rfl ?_
  refine G.aload_n C 3 dL_cuts_22 rfl rfl ?_
  refine G.bipush (v := 6) C dL_cuts_23 (by decide) ?_
  obtain ⟨q4, hq4, hf⟩ := bind_some hf
  try dsimp only at hf
  have hq4 := okL9_at hq4
  refine G.callX9 C TT (st := []) (st2 := [.int (q4)]) (cx_X5_count hq4) rfl (ko_X5_count hq4) rfl m9_66 m9_67 m9_68 m9_2 m9_69 kd_X5_count ⟨Nat.le_of_ble_eq_true rfl, Nat.le_of_ble_eq_true rfl⟩ ⟨Nat.le_of_ble_eq_true rfl, Nat.le_of_ble_eq_true rfl⟩ (Nat.le_of_ble_eq_true rfl) rfl rfl dL_cuts_25 ?_
  refine G.istore (lv' := [(6, .int (q4)), (5, .int (q3)), (4, .int (q2)), (3, .int (q1)), (0, .ref (a0)), (1, .int (a1)), (2, .int (a2))]) C dL_cuts_28 (by decide) rfl ?_
  refine G.aload_n C 4 dL_cuts_30 rfl rfl ?_
  refine G.iload_n C 5 dL_cuts_31 rfl rfl ?_
  refine G.iload_n C 6 dL_cuts_32 rfl rfl ?_
  obtain ⟨q5, hq5, hf⟩ := bind_some hf
  try dsimp only at hf
  have hq5 := okW_at hq5
  refine G.callX9 C TT (st := []) (st2 := [.int (q5.1)]) (cx_X5_cut hq5) rfl (ko_X5_cut hq5) rfl m9_411 m9_412 m9_413 m9_2 m9_414 kd_X5_cut ⟨Nat.le_of_ble_eq_true rfl, Nat.le_of_ble_eq_true rfl⟩ ⟨Nat.le_of_ble_eq_true rfl, Nat.le_of_ble_eq_true rfl⟩ (Nat.le_of_ble_eq_true rfl) rfl rfl dL_cuts_33 ?_
  refine G.iload C 1 dL_cuts_36 rfl ?_
  refine G.icmp_ne (tgt := 100) C dL_cuts_38 (by decide) hf (fun c15 hf => ?_) (fun c15 hf => ?_)
  · refine G.sub C [4, 5, 3, 2, 1] (lv' := [(0, .ref (a0)), (1, .int (a1)), (3, .int (q1)), (4, .int (q2)), (5, .int (q3))]) rfl ?_
    exact hj100 _ _ _ _ _ _ hf
  · refine G.aload_n C 4 dL_cuts_41 rfl rfl ?_
    refine G.iload_n C 5 dL_cuts_42 rfl rfl ?_
    refine G.iconst (v := 0) C dL_cuts_43 (by decide) ?_
    obtain ⟨q6, hq6, hf⟩ := bind_some hf
    try dsimp only at hf
    have hq6 := okL9_at hq6
    refine G.callX9 C TT (st := []) (st2 := [.int (q6)]) (cx_X5_ropeOf hq6) rfl (ko_X5_ropeOf hq6) rfl m9_139 m9_140 m9_141 m9_2 m9_142 kd_X5_ropeOf ⟨Nat.le_of_ble_eq_true rfl, Nat.le_of_ble_eq_true rfl⟩ ⟨Nat.le_of_ble_eq_true rfl, Nat.le_of_ble_eq_true rfl⟩ (Nat.le_of_ble_eq_true rfl) rfl rfl dL_cuts_44 ?_
    refine G.iload_n C 6 dL_cuts_47 rfl rfl ?_
    refine G.icmp_ne (tgt := 100) C dL_cuts_48 (by decide) hf (fun c14 hf => ?_) (fun c14 hf => ?_)
    · refine G.sub C [4, 5, 3, 2, 1] (lv' := [(0, .ref (a0)), (1, .int (a1)), (3, .int (q1)), (4, .int (q2)), (5, .int (q3))]) rfl ?_
      exact hj100 _ _ _ _ _ _ hf
    · refine G.aload_n C 4 dL_cuts_51 rfl rfl ?_
      refine G.iload C 1 dL_cuts_52 rfl ?_
      refine G.iconst (v := 0) C dL_cuts_54 (by decide) ?_
      obtain ⟨q7, hq7, hf⟩ := bind_some hf
      try dsimp only at hf
      have hq7 := okL9_at hq7
      refine G.callX9 C TT (st := []) (st2 := [.int (q7)]) (cx_X5_ropeOf hq7) rfl (ko_X5_ropeOf hq7) rfl m9_139 m9_140 m9_141 m9_2 m9_142 kd_X5_ropeOf ⟨Nat.le_of_ble_eq_true rfl, Nat.le_of_ble_eq_true rfl⟩ ⟨Nat.le_of_ble_eq_true rfl, Nat.le_of_ble_eq_true rfl⟩ (Nat.le_of_ble_eq_true rfl) rfl rfl dL_cuts_55 ?_
      refine G.iload_n C 3 dL_cuts_58 rfl rfl ?_
      refine G.iload_n C 6 dL_cuts_59 rfl rfl ?_
      refine G.isub C dL_cuts_60 ?_
      refine G.icmp_ne (tgt := 100) C dL_cuts_61 (by decide) hf (fun c13 hf => ?_) (fun c13 hf => ?_)
      · refine G.sub C [4, 5, 3, 2, 1] (lv' := [(0, .ref (a0)), (1, .int (a1)), (3, .int (q1)), (4, .int (q2)), (5, .int (q3))]) rfl ?_
        exact hj100 _ _ _ _ _ _ hf
      · refine G.aload_n C 4 dL_cuts_64 rfl rfl ?_
        refine G.iload_n C 5 dL_cuts_65 rfl rfl ?_
        refine G.iconst (v := 2) C dL_cuts_66 (by decide) ?_
        obtain ⟨q8, hq8, hf⟩ := bind_some hf
        try dsimp only at hf
        have hq8 := okL9_at hq8
        refine G.callX9 C TT (st := []) (st2 := [.int (q8)]) (cx_X5_ropeOf hq8) rfl (ko_X5_ropeOf hq8) rfl m9_139 m9_140 m9_141 m9_2 m9_142 kd_X5_ropeOf ⟨Nat.le_of_ble_eq_true rfl, Nat.le_of_ble_eq_true rfl⟩ ⟨Nat.le_of_ble_eq_true rfl, Nat.le_of_ble_eq_true rfl⟩ (Nat.le_of_ble_eq_true rfl) rfl rfl dL_cuts_67 ?_
        refine G.aload_n C 4 dL_cuts_70 rfl rfl ?_
        refine G.iload C 1 dL_cuts_71 rfl ?_
        refine G.iconst (v := 2) C dL_cuts_73 (by decide) ?_
        obtain ⟨q9, hq9, hf⟩ := bind_some hf
        try dsimp only at hf
        have hq9 := okL9_at hq9
        refine G.callX9 C TT (st := [.int (q8)]) (st2 := [.int (q9), .int (q8)]) (cx_X5_ropeOf hq9) rfl (ko_X5_ropeOf hq9) rfl m9_139 m9_140 m9_141 m9_2 m9_142 kd_X5_ropeOf ⟨Nat.le_of_ble_eq_true rfl, Nat.le_of_ble_eq_true rfl⟩ ⟨Nat.le_of_ble_eq_true rfl, Nat.le_of_ble_eq_true rfl⟩ (Nat.le_of_ble_eq_true rfl) rfl rfl dL_cuts_74 ?_
        refine G.iadd C dL_cuts_77 ?_
        refine G.iload C 2 dL_cuts_78 rfl ?_
        refine G.icmp_ne (tgt := 100) C dL_cuts_80 (by decide) hf (fun c12 hf => ?_) (fun c12 hf => ?_)
        · refine G.sub C [4, 5, 3, 2, 1] (lv' := [(0, .ref (a0)), (1, .int (a1)), (3, .int (q1)), (4, .int (q2)), (5, .int (q3))]) rfl ?_
          exact hj100 _ _ _ _ _ _ hf
        · refine G.aload_n C 4 dL_cuts_83 rfl rfl ?_
          refine G.bipush (v := 6) C dL_cuts_84 (by decide) ?_
          obtain ⟨q10, hq10, hf⟩ := bind_some hf
          try dsimp only at hf
          have hq10 := okL9_at hq10
          refine G.callX9 C TT (st := []) (st2 := [.int (q10)]) (cx_X5_count hq10) rfl (ko_X5_count hq10) rfl m9_66 m9_67 m9_68 m9_2 m9_69 kd_X5_count ⟨Nat.le_of_ble_eq_true rfl, Nat.le_of_ble_eq_true rfl⟩ ⟨Nat.le_of_ble_eq_true rfl, Nat.le_of_ble_eq_true rfl⟩ (Nat.le_of_ble_eq_true rfl) rfl rfl dL_cuts_86 ?_
          refine G.iload C 0 dL_cuts_89 rfl ?_
          refine G.iconst (v := 1) C dL_cuts_91 (by decide) ?_
          refine G.iadd C dL_cuts_92 ?_
          refine G.icmp_ne (tgt := 100) C dL_cuts_93 (by decide) hf (fun c11 hf => ?_) (fun c11 hf => ?_)
          · refine G.sub C [4, 5, 3, 2, 1] (lv' := [(0, .ref (a0)), (1, .int (a1)), (3, .int (q1)), (4, .int (q2)), (5, .int (q3))]) rfl ?_
            exact hj100 _ _ _ _ _ _ hf
          · refine G.iconst (v := 1) C dL_cuts_96 (by decide) ?_
            refine G.goto (tgt := 101) C dL_cuts_97 (by decide) ?_
            refine G.sub C [4, 5, 3, 2, 1] (lv' := [(0, .ref (a0)), (1, .int (a1)), (3, .int (q1)), (4, .int (q2)), (5, .int (q3))]) rfl ?_
            exact hj101 _ _ _ _ _ _ _ hf
theorem kd_L_turns : yL_turns.cls ≠ "java/lang/invoke/MethodHandle" ∧ yL_turns.cls ≠ "java/lang/invoke/VarHandle" ∧ (parseMethodDescriptor yL_turns.desc).map (fun d => d.parameters.length) = some 2 := by decide +kernel
set_option maxRecDepth 20000 in
set_option maxHeartbeats 8000000 in
theorem cl_L_turns {l : Launch} {h : PH} {a0 : Nat} {a1 : Int32} {r : (Int32 × PH)} (hf : f_L_turns h a0 a1 = some r) : CL l yL_turns cL_turns 7 (some .boolean) 8 135 1 60 [.ref (a0), .int (a1)] h (some (.int r.1)) r.2 := by
  refine CL.of (own := RL) rfl (by decide) (Nat.le_of_ble_eq_true rfl) ?_
  intro p e R s m args below meth c g X hR C TT
  subst hR
  unfold f_L_turns at hf
  refine G.sub C [0, 1] (lv' := [(0, .ref (a0)), (1, .int (a1))]) rfl ?_
  refine G.aload_n C 0 dL_turns_0 rfl rfl ?_
  refine G.iload_n C 1 dL_turns_1 rfl rfl ?_
  refine G.iconst (v := 0) C dL_turns_2 (by decide) ?_
  obtain ⟨q1, hq1, hf⟩ := bind_some hf
  try dsimp only at hf
  have hq1 := okL9_at hq1
  refine G.callX9 C TT (st := []) (st2 := [.int (q1)]) (cx_X5_ropeOf hq1) rfl (ko_X5_ropeOf hq1) rfl m9_139 m9_140 m9_141 m9_2 m9_142 kd_X5_ropeOf ⟨Nat.le_of_ble_eq_true rfl, Nat.le_of_ble_eq_true rfl⟩ ⟨Nat.le_of_ble_eq_true rfl, Nat.le_of_ble_eq_true rfl⟩ (Nat.le_of_ble_eq_true rfl) rfl rfl dL_turns_3 ?_
  refine G.istore_n (lv' := [(2, .int (q1)), (0, .ref (a0)), (1, .int (a1))]) C dL_turns_6 rfl (by decide) rfl ?_
  refine G.bipush (v := 60) C dL_turns_7 (by decide) ?_
  refine G.newA C m9_31 ⟨Nat.le_of_ble_eq_true rfl, Nat.le_of_ble_eq_true rfl⟩ dL_turns_9 (fun o9 ho9 => ?_)
  have TT2 : ∀ f, TX l (AF (XA g o9 f X) h s.heap.size) s s.heap := fun f => by rw [AF_XA ho9]; exact TT
  have hj143 : ∀ (hh : (PH × (Nat → Int32))) (x5 : Int32), f_L_turns_J143 hh (x5) = some r → G p l e ({ frames := 8, cells := 1, slots := 60, locals := 135 } : Room) s m args below meth c 7 g (XA g o9 (hh).2 X) h (0 + 1) (0 + 60) (MQ below (QW g X h s.heap.size (some (.int r.1)) r.2) args s 1 60 (AF X h s.heap.size)) 143 [(3, .ref (o9)), (5, .int (x5))] [] (hh).1 := by
    intro hh x5 hf
    unfold f_L_turns_J143 at hf
    refine G.iload C 1 dL_turns_143 rfl ?_
    obtain ⟨c13, hf⟩ := gd_ok hf
    cases hf
    exact G.zretA (ho := ho9) C ⟨by omega, by omega⟩ rfl (z01_n c13) dL_turns_145
  have hj96 : ∀ (hh : (PH × (Nat → Int32))) (x0 : Nat) (x1 : Int32) (x2 : Int32) (k0 : Int32), f_L_turns_J96 hh (x0) (x1) (x2) k0 = some r → G p l e ({ frames := 8, cells := 1, slots := 60, locals := 135 } : Room) s m args below meth c 7 g (XA g o9 (hh).2 X) h (0 + 1) (0 + 60) (MQ below (QW g X h s.heap.size (some (.int r.1)) r.2) args s 1 60 (AF X h s.heap.size)) 96 [(3, .ref (o9)), (0, .ref (x0)), (1, .int (x1)), (2, .int (x2))] [.int (k0)] (hh).1 := by
    intro hh x0 x1 x2 k0 hf
    unfold f_L_turns_J96 at hf
    refine G.istore (lv' := [(5, .int (k0)), (3, .ref (o9)), (0, .ref (x0)), (1, .int (x1)), (2, .int (x2))]) C dL_turns_96 (by decide) rfl ?_
    refine G.iconst (v := 0) C dL_turns_98 (by decide) ?_
    refine G.istore (lv' := [(6, .int ((0 : Int32))), (5, .int (k0)), (3, .ref (o9)), (0, .ref (x0)), (1, .int (x1)), (2, .int (x2))]) C dL_turns_99 (by decide) rfl ?_
    obtain ⟨z14, hlp14, hfo14⟩ := bind_some hf
    clear hf
    have hloop14 : ∀ (k : Nat), ∀ (x5 : Int32) (x6 : Int32) (hh : (PH × (Nat → Int32))), (lpn (f_L_turns_L101 (x0) (x1) (x2)) k (x5, x6, hh)) = some z14 → G p l e ({ frames := 8, cells := 1, slots := 60, locals := 135 } : Room) s m args below meth c 7 g (XA g o9 (hh).2 X) h (0 + 1) (0 + 60) (MQ below (QW g X h s.heap.size (some (.int r.1)) r.2) args s 1 60 (AF X h s.heap.size)) 101 [(0, .ref (x0)), (1, .int (x1)), (2, .int (x2)), (3, .ref (o9)), (5, .int (x5)), (6, .int (x6))] [] (hh).1 := by
      intro k
      induction k with
      | zero => intro x5 x6 hh hlp14; exact (lpn_0 hlp14).elim
      | succ k ih14 =>
        intro x5 x6 hh hlp14
        obtain ⟨y14, hf, hlp14⟩ := lpn_s hlp14
        unfold f_L_turns_L101 at hf
        try dsimp only at hf
        have hj135 : ∀ (hh : (PH × (Nat → Int32))) (x6 : Int32) (k0 : Int32), f_L_turns_J135 hh (x0) (x1) (x2) (x6) k0 = some y14 → G p l e ({ frames := 8, cells := 1, slots := 60, locals := 135 } : Room) s m args below meth c 7 g (XA g o9 (hh).2 X) h (0 + 1) (0 + 60) (MQ below (QW g X h s.heap.size (some (.int r.1)) r.2) args s 1 60 (AF X h s.heap.size)) 135 [(3, .ref (o9)), (0, .ref (x0)), (1, .int (x1)), (2, .int (x2)), (6, .int (x6))] [.int (k0)] (hh).1 := by
          intro hh x6 k0 hf
          unfold f_L_turns_J135 at hf
          refine G.istore (lv' := [(5, .int (k0)), (3, .ref (o9)), (0, .ref (x0)), (1, .int (x1)), (2, .int (x2)), (6, .int (x6))]) C dL_turns_135 (by decide) rfl ?_
          refine G.iinc (k := 5) (v := (x6 + 1)) (lv' := [(6, .int ((x6 + 1))), (5, .int (k0)), (3, .ref (o9)), (0, .ref (x0)), (1, .int (x1)), (2, .int (x2))]) C dL_turns_137 rfl rfl (by decide) rfl ?_
          refine G.goto (tgt := 101) C dL_turns_140 (by decide) ?_
          cases hf
          refine G.sub C [3, 4, 5, 2, 1, 0] (lv' := [(0, .ref (x0)), (1, .int (x1)), (2, .int (x2)), (3, .ref (o9)), (5, .int (k0)), (6, .int ((x6 + 1)))]) rfl ?_
          exact ih14 _ _ _ hlp14
        refine G.iload C 5 dL_turns_101 rfl ?_
        refine G.iload_n C 2 dL_turns_103 rfl rfl ?_
        refine G.icmp_ge (tgt := 143) C dL_turns_104 (by decide) hf (fun c19 hf => ?_) (fun c19 hf => ?_)
        · cases hf
          change some _ = some _ at hlp14
          have hf := hfo14
          try rw [← Option.some.inj hlp14] at hf
          try dsimp only at hf
          refine G.sub C [3, 4] (lv' := [(3, .ref (o9)), (5, .int (x5))]) rfl ?_
          exact hj143 _ _ hf
        · refine G.iload C 4 dL_turns_107 rfl ?_
          refine G.if_eq (tgt := 143) C dL_turns_109 (by decide) hf (fun c18 hf => ?_) (fun c18 hf => ?_)
          · cases hf
            change some _ = some _ at hlp14
            have hf := hfo14
            try rw [← Option.some.inj hlp14] at hf
            try dsimp only at hf
            refine G.sub C [3, 4] (lv' := [(3, .ref (o9)), (5, .int (x5))]) rfl ?_
            exact hj143 _ _ hf
          · refine G.aload_n C 0 dL_turns_112 rfl rfl ?_
            refine G.iload_n C 1 dL_turns_113 rfl rfl ?_
            refine G.iload C 5 dL_turns_114 rfl ?_
            obtain ⟨q15, hq15, hf⟩ := bind_some hf
            try dsimp only at hf
            have hq15 := okL9_at hq15
            refine G.callX9 C (TT2 _) (st := []) (st2 := [.int (q15)]) (cx_X5_place hq15) rfl (ko_X5_place hq15) rfl m9_214 m9_215 m9_216 m9_2 m9_217 kd_X5_place ⟨Nat.le_of_ble_eq_true rfl, Nat.le_of_ble_eq_true rfl⟩ ⟨Nat.le_of_ble_eq_true rfl, Nat.le_of_ble_eq_true rfl⟩ (Nat.le_of_ble_eq_true rfl) rfl rfl dL_turns_116 ?_
            refine G.aload_n C 3 dL_turns_119 rfl rfl ?_
            refine G.iload_n C 2 dL_turns_120 rfl rfl ?_
            refine G.iconst (v := 1) C dL_turns_121 (by decide) ?_
            refine G.isub C dL_turns_122 ?_
            refine G.iload C 5 dL_turns_123 rfl ?_
            refine G.isub C dL_turns_125 ?_
            obtain ⟨c16, hf⟩ := gd_ok hf
            refine G.ialdA C c16 dL_turns_126 ?_
            refine G.icmp_ne (tgt := 134) C dL_turns_127 (by decide) hf (fun c17 hf => ?_) (fun c17 hf => ?_)
            · refine G.iconst (v := 0) C dL_turns_134 (by decide) ?_
              refine G.sub C [3, 0, 1, 2, 5] (lv' := [(3, .ref (o9)), (0, .ref (x0)), (1, .int (x1)), (2, .int (x2)), (6, .int (x6))]) rfl ?_
              exact hj135 _ _ _ hf
            · refine G.iconst (v := 1) C dL_turns_130 (by decide) ?_
              refine G.goto (tgt := 135) C dL_turns_131 (by decide) ?_
              refine G.sub C [3, 0, 1, 2, 5] (lv' := [(3, .ref (o9)), (0, .ref (x0)), (1, .int (x1)), (2, .int (x2)), (6, .int (x6))]) rfl ?_
              exact hj135 _ _ _ hf
    refine G.sub C [3, 4, 5, 2, 1, 0] (lv' := [(0, .ref (x0)), (1, .int (x1)), (2, .int (x2)), (3, .ref (o9)), (5, .int (k0)), (6, .int ((0 : Int32)))]) rfl ?_
    exact hloop14 LF _ _ _ hlp14
  have hj81 : ∀ (hh : (PH × (Nat → Int32))) (x0 : Nat) (x1 : Int32) (x2 : Int32) (x4 : Int32), f_L_turns_J81 hh (x0) (x1) (x2) (x4) = some r → G p l e ({ frames := 8, cells := 1, slots := 60, locals := 135 } : Room) s m args below meth c 7 g (XA g o9 (hh).2 X) h (0 + 1) (0 + 60) (MQ below (QW g X h s.heap.size (some (.int r.1)) r.2) args s 1 60 (AF X h s.heap.size)) 81 [(3, .ref (o9)), (0, .ref (x0)), (1, .int (x1)), (2, .int (x2)), (4, .int (x4))] [] (hh).1 := by
    intro hh x0 x1 x2 x4 hf
    unfold f_L_turns_J81 at hf
    refine G.aload_n C 1 dL_turns_81 rfl rfl ?_
    refine G.iload_n C 2 dL_turns_82 rfl rfl ?_
    obtain ⟨q20, hq20, hf⟩ := bind_some hf
    try dsimp only at hf
    have hq20 := okW_at hq20
    refine G.callX9 C (TT2 _) (st := []) (st2 := [.int (q20.1)]) (cx_X5_turn hq20) rfl (ko_X5_turn hq20) rfl m9_446 m9_447 m9_448 m9_2 m9_449 kd_X5_turn ⟨Nat.le_of_ble_eq_true rfl, Nat.le_of_ble_eq_true rfl⟩ ⟨Nat.le_of_ble_eq_true rfl, Nat.le_of_ble_eq_true rfl⟩ (Nat.le_of_ble_eq_true rfl) rfl rfl dL_turns_83 ?_
    refine G.iload C 4 dL_turns_86 rfl ?_
    refine G.icmp_ne (tgt := 95) C dL_turns_88 (by decide) hf (fun c21 hf => ?_) (fun c21 hf => ?_)
    · refine G.iconst (v := 0) C dL_turns_95 (by decide) ?_
      refine G.sub C [0, 1, 2, 3] (lv' := [(3, .ref (o9)), (0, .ref (x0)), (1, .int (x1)), (2, .int (x2))]) rfl ?_
      exact hj96 _ _ _ _ _ hf
    · refine G.iconst (v := 1) C dL_turns_91 (by decide) ?_
      refine G.goto (tgt := 96) C dL_turns_92 (by decide) ?_
      refine G.sub C [0, 1, 2, 3] (lv' := [(3, .ref (o9)), (0, .ref (x0)), (1, .int (x1)), (2, .int (x2))]) rfl ?_
      exact hj96 _ _ _ _ _ hf
  have hj41 : ∀ (hh : (PH × (Nat → Int32))) (x0 : Nat) (x1 : Int32) (x2 : Int32) (x4 : Int32), f_L_turns_J41 hh (x0) (x1) (x2) (x4) = some r → G p l e ({ frames := 8, cells := 1, slots := 60, locals := 135 } : Room) s m args below meth c 7 g (XA g o9 (hh).2 X) h (0 + 1) (0 + 60) (MQ below (QW g X h s.heap.size (some (.int r.1)) r.2) args s 1 60 (AF X h s.heap.size)) 41 [(3, .ref (o9)), (0, .ref (x0)), (1, .int (x1)), (2, .int (x2)), (4, .int (x4))] [] (hh).1 := by
    intro hh x0 x1 x2 x4 hf
    unfold f_L_turns_J41 at hf
    refine G.iconst (v := 0) C dL_turns_41 (by decide) ?_
    refine G.istore (lv' := [(5, .int ((0 : Int32))), (3, .ref (o9)), (0, .ref (x0)), (1, .int (x1)), (2, .int (x2)), (4, .int (x4))]) C dL_turns_42 (by decide) rfl ?_
    obtain ⟨z22, hlp22, hfo22⟩ := bind_some hf
    clear hf
    have hloop22 : ∀ (k : Nat), ∀ (x4 : Int32) (x5 : Int32) (hh : (PH × (Nat → Int32))), (lpn (f_L_turns_L44 (x0) (x1) (x2)) k (x4, x5, hh)) = some z22 → G p l e ({ frames := 8, cells := 1, slots := 60, locals := 135 } : Room) s m args below meth c 7 g (XA g o9 (hh).2 X) h (0 + 1) (0 + 60) (MQ below (QW g X h s.heap.size (some (.int r.1)) r.2) args s 1 60 (AF X h s.heap.size)) 44 [(0, .ref (x0)), (1, .int (x1)), (2, .int (x2)), (3, .ref (o9)), (4, .int (x4)), (5, .int (x5))] [] (hh).1 := by
      intro k
      induction k with
      | zero => intro x4 x5 hh hlp22; exact (lpn_0 hlp22).elim
      | succ k ih22 =>
        intro x4 x5 hh hlp22
        obtain ⟨y22, hf, hlp22⟩ := lpn_s hlp22
        unfold f_L_turns_L44 at hf
        try dsimp only at hf
        have hj72 : ∀ (hh : (PH × (Nat → Int32))) (x5 : Int32) (k0 : Int32) (k1 : Int32), f_L_turns_J72 hh (x0) (x1) (x2) (x5) k0 k1 = some y22 → G p l e ({ frames := 8, cells := 1, slots := 60, locals := 135 } : Room) s m args below meth c 7 g (XA g o9 (hh).2 X) h (0 + 1) (0 + 60) (MQ below (QW g X h s.heap.size (some (.int r.1)) r.2) args s 1 60 (AF X h s.heap.size)) 72 [(3, .ref (o9)), (0, .ref (x0)), (1, .int (x1)), (2, .int (x2)), (5, .int (x5))] [.int (k1), .int (k0)] (hh).1 := by
          intro hh x5 k0 k1 hf
          unfold f_L_turns_J72 at hf
          refine G.iadd C dL_turns_72 ?_
          refine G.istore (lv' := [(4, .int ((k0 + k1))), (3, .ref (o9)), (0, .ref (x0)), (1, .int (x1)), (2, .int (x2)), (5, .int (x5))]) C dL_turns_73 (by decide) rfl ?_
          refine G.iinc (k := 5) (v := (x5 + 1)) (lv' := [(5, .int ((x5 + 1))), (4, .int ((k0 + k1))), (3, .ref (o9)), (0, .ref (x0)), (1, .int (x1)), (2, .int (x2))]) C dL_turns_75 rfl rfl (by decide) rfl ?_
          refine G.goto (tgt := 44) C dL_turns_78 (by decide) ?_
          cases hf
          refine G.sub C [3, 4, 5, 2, 1, 0] (lv' := [(0, .ref (x0)), (1, .int (x1)), (2, .int (x2)), (3, .ref (o9)), (4, .int ((k0 + k1))), (5, .int ((x5 + 1)))]) rfl ?_
          exact ih22 _ _ _ hlp22
        refine G.iload C 5 dL_turns_44 rfl ?_
        refine G.iload_n C 2 dL_turns_46 rfl rfl ?_
        refine G.icmp_ge (tgt := 81) C dL_turns_47 (by decide) hf (fun c26 hf => ?_) (fun c26 hf => ?_)
        · cases hf
          change some _ = some _ at hlp22
          have hf := hfo22
          try rw [← Option.some.inj hlp22] at hf
          try dsimp only at hf
          refine G.sub C [3, 0, 1, 2, 4] (lv' := [(3, .ref (o9)), (0, .ref (x0)), (1, .int (x1)), (2, .int (x2)), (4, .int (x4))]) rfl ?_
          exact hj81 _ _ _ _ _ hf
        · refine G.iload C 4 dL_turns_50 rfl ?_
          refine G.aload_n C 3 dL_turns_52 rfl rfl ?_
          refine G.iload C 5 dL_turns_53 rfl ?_
          obtain ⟨c23, hf⟩ := gd_ok hf
          refine G.ialdA C c23 dL_turns_55 ?_
          refine G.aload_n C 3 dL_turns_56 rfl rfl ?_
          refine G.iload_n C 2 dL_turns_57 rfl rfl ?_
          refine G.iconst (v := 1) C dL_turns_58 (by decide) ?_
          refine G.isub C dL_turns_59 ?_
          refine G.iload C 5 dL_turns_60 rfl ?_
          refine G.isub C dL_turns_62 ?_
          obtain ⟨c24, hf⟩ := gd_ok hf
          refine G.ialdA C c24 dL_turns_63 ?_
          refine G.icmp_ne (tgt := 71) C dL_turns_64 (by decide) hf (fun c25 hf => ?_) (fun c25 hf => ?_)
          · refine G.iconst (v := 1) C dL_turns_71 (by decide) ?_
            refine G.sub C [3, 0, 1, 2, 5] (lv' := [(3, .ref (o9)), (0, .ref (x0)), (1, .int (x1)), (2, .int (x2)), (5, .int (x5))]) rfl ?_
            exact hj72 _ _ _ _ hf
          · refine G.iconst (v := 0) C dL_turns_67 (by decide) ?_
            refine G.goto (tgt := 72) C dL_turns_68 (by decide) ?_
            refine G.sub C [3, 0, 1, 2, 5] (lv' := [(3, .ref (o9)), (0, .ref (x0)), (1, .int (x1)), (2, .int (x2)), (5, .int (x5))]) rfl ?_
            exact hj72 _ _ _ _ hf
    refine G.sub C [2, 3, 4, 1, 5, 0] (lv' := [(0, .ref (x0)), (1, .int (x1)), (2, .int (x2)), (3, .ref (o9)), (4, .int (x4)), (5, .int ((0 : Int32)))]) rfl ?_
    exact hloop22 LF _ _ _ hlp22
  refine G.astore_n (lv' := [(3, .ref (o9)), (2, .int (q1)), (0, .ref (a0)), (1, .int (a1))]) C dL_turns_11 rfl (by decide) rfl ?_
  refine G.iconst (v := 0) C dL_turns_12 (by decide) ?_
  refine G.istore (lv' := [(4, .int ((0 : Int32))), (3, .ref (o9)), (2, .int (q1)), (0, .ref (a0)), (1, .int (a1))]) C dL_turns_13 (by decide) rfl ?_
  refine G.iconst (v := 0) C dL_turns_15 (by decide) ?_
  refine G.istore (lv' := [(5, .int ((0 : Int32))), (4, .int ((0 : Int32))), (3, .ref (o9)), (2, .int (q1)), (0, .ref (a0)), (1, .int (a1))]) C dL_turns_16 (by decide) rfl ?_
  obtain ⟨z2, hlp2, hfo2⟩ := bind_some hf
  clear hf
  have hloop2 : ∀ (k : Nat), ∀ (x5 : Int32) (hh : (PH × (Nat → Int32))), (lpn (f_L_turns_L18 (a0) (a1) (q1) ((0 : Int32))) k (x5, hh)) = some z2 → G p l e ({ frames := 8, cells := 1, slots := 60, locals := 135 } : Room) s m args below meth c 7 g (XA g o9 (hh).2 X) h (0 + 1) (0 + 60) (MQ below (QW g X h s.heap.size (some (.int r.1)) r.2) args s 1 60 (AF X h s.heap.size)) 18 [(0, .ref (a0)), (1, .int (a1)), (2, .int (q1)), (3, .ref (o9)), (4, .int ((0 : Int32))), (5, .int (x5))] [] (hh).1 := by
    intro k
    induction k with
    | zero => intro x5 hh hlp2; exact (lpn_0 hlp2).elim
    | succ k ih2 =>
      intro x5 hh hlp2
      obtain ⟨y2, hf, hlp2⟩ := lpn_s hlp2
      unfold f_L_turns_L18 at hf
      try dsimp only at hf
      refine G.iload C 5 dL_turns_18 rfl ?_
      refine G.iload_n C 2 dL_turns_20 rfl rfl ?_
      refine G.icmp_ge (tgt := 41) C dL_turns_21 (by decide) hf (fun c5 hf => ?_) (fun c5 hf => ?_)
      · cases hf
        change some _ = some _ at hlp2
        have hf := hfo2
        try rw [← Option.some.inj hlp2] at hf
        try dsimp only at hf
        refine G.sub C [3, 0, 1, 2, 4] (lv' := [(3, .ref (o9)), (0, .ref (a0)), (1, .int (a1)), (2, .int (q1)), (4, .int ((0 : Int32)))]) rfl ?_
        exact hj41 _ _ _ _ _ hf
      · refine G.aload_n C 3 dL_turns_24 rfl rfl ?_
        refine G.iload C 5 dL_turns_25 rfl ?_
        refine G.aload_n C 0 dL_turns_27 rfl rfl ?_
        refine G.iload_n C 1 dL_turns_28 rfl rfl ?_
        refine G.iload C 5 dL_turns_29 rfl ?_
        obtain ⟨q3, hq3, hf⟩ := bind_some hf
        try dsimp only at hf
        have hq3 := okL9_at hq3
        refine G.callX9 C (TT2 _) (st := [.int (x5), .ref (o9)]) (st2 := [.int (q3), .int (x5), .ref (o9)]) (cx_X5_place hq3) rfl (ko_X5_place hq3) rfl m9_214 m9_215 m9_216 m9_2 m9_217 kd_X5_place ⟨Nat.le_of_ble_eq_true rfl, Nat.le_of_ble_eq_true rfl⟩ ⟨Nat.le_of_ble_eq_true rfl, Nat.le_of_ble_eq_true rfl⟩ (Nat.le_of_ble_eq_true rfl) rfl rfl dL_turns_31 ?_
        obtain ⟨c4, hf⟩ := gd_ok hf
        refine G.iastA C ho9 c4 dL_turns_34 ?_
        refine G.iinc (k := 5) (v := (x5 + 1)) (lv' := [(5, .int ((x5 + 1))), (0, .ref (a0)), (1, .int (a1)), (2, .int (q1)), (3, .ref (o9)), (4, .int ((0 : Int32)))]) C dL_turns_35 rfl rfl (by decide) rfl ?_
        refine G.goto (tgt := 18) C dL_turns_38 (by decide) ?_
        cases hf
        refine G.sub C [1, 2, 3, 4, 5, 0] (lv' := [(0, .ref (a0)), (1, .int (a1)), (2, .int (q1)), (3, .ref (o9)), (4, .int ((0 : Int32))), (5, .int ((x5 + 1)))]) rfl ?_
        exact ih2 _ _ hlp2
  refine G.sub C [4, 5, 3, 2, 1, 0] (lv' := [(0, .ref (a0)), (1, .int (a1)), (2, .int (q1)), (3, .ref (o9)), (4, .int ((0 : Int32))), (5, .int ((0 : Int32)))]) rfl ?_
  exact hloop2 LF _ _ hlp2
theorem kd_L_change : yL_change.cls ≠ "java/lang/invoke/MethodHandle" ∧ yL_change.cls ≠ "java/lang/invoke/VarHandle" ∧ (parseMethodDescriptor yL_change.desc).map (fun d => d.parameters.length) = some 3 := by decide +kernel
set_option maxRecDepth 20000 in
set_option maxHeartbeats 8000000 in
theorem cl_L_change {l : Launch} {h : PH} {a0 : Nat} {a1 : Int32} {a2 : Int32} {r : (Int32 × PH)} (hf : f_L_change h a0 a1 a2 = some r) : CL l yL_change cL_change 10 (some .boolean) 9 173 1 60 [.ref (a0), .int (a1), .int (a2)] h (some (.int r.1)) r.2 := by
  refine CL.of (own := RL) rfl (by decide) (Nat.le_of_ble_eq_true rfl) ?_
  intro p e R s m args below meth c g X hR C TT
  subst hR
  unfold f_L_change at hf
  have hj176 : ∀ (hh : PH) (k0 : Int32), f_L_change_J176 hh k0 = some r → G p l e ({ frames := 9, cells := 1, slots := 60, locals := 173 } : Room) s m args below meth c 10 g X h 0 0 (MQ below (QW g X h s.heap.size (some (.int r.1)) r.2) args s 1 60 (AF X h s.heap.size)) 176 [] [.int (k0)] hh := by
    intro hh k0 hf
    unfold f_L_change_J176 at hf
    obtain ⟨c70, hf⟩ := gd_ok hf
    cases hf
    exact G.zretC C ⟨by omega, by omega⟩ rfl (z01_n c70) dL_change_176
  have hj171 : ∀ (hh : PH), f_L_change_J171 hh = some r → G p l e ({ frames := 9, cells := 1, slots := 60, locals := 173 } : Room) s m args below meth c 10 g X h 0 0 (MQ below (QW g X h s.heap.size (some (.int r.1)) r.2) args s 1 60 (AF X h s.heap.size)) 171 [] [] hh := by
    intro hh hf
    unfold f_L_change_J171 at hf
    refine G.iconst (v := 1) C dL_change_171 (by decide) ?_
    refine G.goto (tgt := 176) C dL_change_172 (by decide) ?_
    refine G.sub C [] (lv' := []) rfl ?_
    exact hj176 _ _ hf
  have hj175 : ∀ (hh : PH), f_L_change_J175 hh = some r → G p l e ({ frames := 9, cells := 1, slots := 60, locals := 173 } : Room) s m args below meth c 10 g X h 0 0 (MQ below (QW g X h s.heap.size (some (.int r.1)) r.2) args s 1 60 (AF X h s.heap.size)) 175 [] [] hh := by
    intro hh hf
    unfold f_L_change_J175 at hf
    refine G.iconst (v := 0) C dL_change_175 (by decide) ?_
    refine G.sub C [] (lv' := []) rfl ?_
    exact hj176 _ _ hf
  have hj209 : ∀ (hh : PH) (k0 : Int32), f_L_change_J209 hh k0 = some r → G p l e ({ frames := 9, cells := 1, slots := 60, locals := 173 } : Room) s m args below meth c 10 g X h 0 0 (MQ below (QW g X h s.heap.size (some (.int r.1)) r.2) args s 1 60 (AF X h s.heap.size)) 209 [] [.int (k0)] hh := by
    intro hh k0 hf
    unfold f_L_change_J209 at hf
    obtain ⟨c71, hf⟩ := gd_ok hf
    cases hf
    exact G.zretC C ⟨by omega, by omega⟩ rfl (z01_n c71) dL_change_209
  have hj204 : ∀ (hh : PH), f_L_change_J204 hh = some r → G p l e ({ frames := 9, cells := 1, slots := 60, locals := 173 } : Room) s m args below meth c 10 g X h 0 0 (MQ below (QW g X h s.heap.size (some (.int r.1)) r.2) args s 1 60 (AF X h s.heap.size)) 204 [] [] hh := by
    intro hh hf
    unfold f_L_change_J204 at hf
    refine G.iconst (v := 1) C dL_change_204 (by decide) ?_
    refine G.goto (tgt := 209) C dL_change_205 (by decide) ?_
    refine G.sub C [] (lv' := []) rfl ?_
    exact hj209 _ _ hf
  have hj265 : ∀ (hh : PH) (k0 : Int32), f_L_change_J265 hh k0 = some r → G p l e ({ frames := 9, cells := 1, slots := 60, locals := 173 } : Room) s m args below meth c 10 g X h 0 0 (MQ below (QW g X h s.heap.size (some (.int r.1)) r.2) args s 1 60 (AF X h s.heap.size)) 265 [] [.int (k0)] hh := by
    intro hh k0 hf
    unfold f_L_change_J265 at hf
    obtain ⟨c72, hf⟩ := gd_ok hf
    cases hf
    exact G.zretC C ⟨by omega, by omega⟩ rfl (z01_n c72) dL_change_265
  have hj260 : ∀ (hh : PH), f_L_change_J260 hh = some r → G p l e ({ frames := 9, cells := 1, slots := 60, locals := 173 } : Room) s m args below meth c 10 g X h 0 0 (MQ below (QW g X h s.heap.size (some (.int r.1)) r.2) args s 1 60 (AF X h s.heap.size)) 260 [] [] hh := by
    intro hh hf
    unfold f_L_change_J260 at hf
    refine G.iconst (v := 1) C dL_change_260 (by decide) ?_
    refine G.goto (tgt := 265) C dL_change_261 (by decide) ?_
    refine G.sub C [] (lv' := []) rfl ?_
    exact hj265 _ _ hf
  have hj264 : ∀ (hh : PH), f_L_change_J264 hh = some r → G p l e ({ frames := 9, cells := 1, slots := 60, locals := 173 } : Room) s m args below meth c 10 g X h 0 0 (MQ below (QW g X h s.heap.size (some (.int r.1)) r.2) args s 1 60 (AF X h s.heap.size)) 264 [] [] hh := by
    intro hh hf
    unfold f_L_change_J264 at hf
    refine G.iconst (v := 0) C dL_change_264 (by decide) ?_
    refine G.sub C [] (lv' := []) rfl ?_
    exact hj265 _ _ hf
  have hj227 : ∀ (x0 : Nat) (x4 : Int32) (x5 : Int32) (k0 : Int32), f_L_change_J227 h (x0) (x4) (x5) k0 = some r → G p l e ({ frames := 9, cells := 1, slots := 60, locals := 173 } : Room) s m args below meth c 10 g X h 0 0 (MQ below (QW g X h s.heap.size (some (.int r.1)) r.2) args s 1 60 (AF X h s.heap.size)) 227 [(0, .ref (x0)), (4, .int (x4)), (5, .int (x5))] [.int (k0)] h := by
    intro x0 x4 x5 k0 hf
    unfold f_L_change_J227 at hf
    refine G.istore (lv' := [(6, .int (k0)), (0, .ref (x0)), (4, .int (x4)), (5, .int (x5))]) C dL_change_227 (by decide) rfl ?_
    refine G.iload C 0 dL_change_229 rfl ?_
    refine G.if_lt (tgt := 260) C dL_change_231 (by decide) hf (fun c77 hf => ?_) (fun c77 hf => ?_)
    · refine G.sub C [] (lv' := []) rfl ?_
      exact hj260 _ hf
    · refine G.aload_n C 1 dL_change_234 rfl rfl ?_
      refine G.iload C 2 dL_change_235 rfl ?_
      refine G.iload C 3 dL_change_237 rfl ?_
      obtain ⟨q73, hq73, hf⟩ := bind_some hf
      try dsimp only at hf
      have hq73 := okW_at hq73
      refine G.callX9 C TT (st := []) (st2 := [.int (q73.1)]) (cx_X5_take hq73) rfl (ko_X5_take hq73) rfl m9_379 m9_380 m9_381 m9_2 m9_382 kd_X5_take ⟨Nat.le_of_ble_eq_true rfl, Nat.le_of_ble_eq_true rfl⟩ ⟨Nat.le_of_ble_eq_true rfl, Nat.le_of_ble_eq_true rfl⟩ (Nat.le_of_ble_eq_true rfl) rfl rfl dL_change_239 ?_
      refine G.iload C 0 dL_change_242 rfl ?_
      refine G.icmp_ne (tgt := 264) C dL_change_244 (by decide) hf (fun c76 hf => ?_) (fun c76 hf => ?_)
      · refine G.sub C [] (lv' := []) rfl ?_
        exact hj264 _ hf
      · refine G.aload_n C 1 dL_change_247 rfl rfl ?_
        refine G.iload C 2 dL_change_248 rfl ?_
        refine G.iload C 3 dL_change_250 rfl ?_
        refine G.iconst (v := 0) C dL_change_252 (by decide) ?_
        obtain ⟨q74, hq74, hf⟩ := bind_some hf
        try dsimp only at hf
        have hq74 := okL9_at hq74
        refine G.callX9 C TT (st := []) (st2 := [.int (q74)]) (cx_X5_hueOf hq74) rfl (ko_X5_hueOf hq74) rfl m9_191 m9_192 m9_193 m9_2 m9_194 kd_X5_hueOf ⟨Nat.le_of_ble_eq_true rfl, Nat.le_of_ble_eq_true rfl⟩ ⟨Nat.le_of_ble_eq_true rfl, Nat.le_of_ble_eq_true rfl⟩ (Nat.le_of_ble_eq_true rfl) rfl rfl dL_change_253 ?_
        refine G.iconst (v := (-1)) C dL_change_256 (by decide) ?_
        refine G.icmp_ne (tgt := 264) C dL_change_257 (by decide) hf (fun c75 hf => ?_) (fun c75 hf => ?_)
        · refine G.sub C [] (lv' := []) rfl ?_
          exact hj264 _ hf
        · refine G.sub C [] (lv' := []) rfl ?_
          exact hj260 _ hf
  have hj366 : ∀ (hh : PH) (k0 : Int32), f_L_change_J366 hh k0 = some r → G p l e ({ frames := 9, cells := 1, slots := 60, locals := 173 } : Room) s m args below meth c 10 g X h 0 0 (MQ below (QW g X h s.heap.size (some (.int r.1)) r.2) args s 1 60 (AF X h s.heap.size)) 366 [] [.int (k0)] hh := by
    intro hh k0 hf
    unfold f_L_change_J366 at hf
    obtain ⟨c78, hf⟩ := gd_ok hf
    cases hf
    exact G.zretC C ⟨by omega, by omega⟩ rfl (z01_n c78) dL_change_366
  have hj361 : ∀ (hh : PH), f_L_change_J361 hh = some r → G p l e ({ frames := 9, cells := 1, slots := 60, locals := 173 } : Room) s m args below meth c 10 g X h 0 0 (MQ below (QW g X h s.heap.size (some (.int r.1)) r.2) args s 1 60 (AF X h s.heap.size)) 361 [] [] hh := by
    intro hh hf
    unfold f_L_change_J361 at hf
    refine G.iconst (v := 1) C dL_change_361 (by decide) ?_
    refine G.goto (tgt := 366) C dL_change_362 (by decide) ?_
    refine G.sub C [] (lv' := []) rfl ?_
    exact hj366 _ _ hf
  have hj365 : ∀ (hh : PH), f_L_change_J365 hh = some r → G p l e ({ frames := 9, cells := 1, slots := 60, locals := 173 } : Room) s m args below meth c 10 g X h 0 0 (MQ below (QW g X h s.heap.size (some (.int r.1)) r.2) args s 1 60 (AF X h s.heap.size)) 365 [] [] hh := by
    intro hh hf
    unfold f_L_change_J365 at hf
    refine G.iconst (v := 0) C dL_change_365 (by decide) ?_
    refine G.sub C [] (lv' := []) rfl ?_
    exact hj366 _ _ hf
  have hj308 : ∀ (x0 : Nat) (x2 : Int32) (x5 : Int32) (x7 : Int32), f_L_change_J308 h (x0) (x2) (x5) (x7) = some r → G p l e ({ frames := 9, cells := 1, slots := 60, locals := 173 } : Room) s m args below meth c 10 g X h 0 0 (MQ below (QW g X h s.heap.size (some (.int r.1)) r.2) args s 1 60 (AF X h s.heap.size)) 308 [(0, .ref (x0)), (2, .int (x2)), (5, .int (x5)), (7, .int (x7))] [] h := by
    intro x0 x2 x5 x7 hf
    unfold f_L_change_J308 at hf
    refine G.aload_n C 0 dL_change_308 rfl rfl ?_
    refine G.iload C 2 dL_change_309 rfl ?_
    obtain ⟨q79, hq79, hf⟩ := bind_some hf
    try dsimp only at hf
    have hq79 := okL9_at hq79
    refine G.callX9 C TT (st := []) (st2 := [.int (q79)]) (cx_X5_gapOf hq79) rfl (ko_X5_gapOf hq79) rfl m9_210 m9_211 m9_212 m9_2 m9_213 kd_X5_gapOf ⟨Nat.le_of_ble_eq_true rfl, Nat.le_of_ble_eq_true rfl⟩ ⟨Nat.le_of_ble_eq_true rfl, Nat.le_of_ble_eq_true rfl⟩ (Nat.le_of_ble_eq_true rfl) rfl rfl dL_change_311 ?_
    refine G.istore (lv' := [(6, .int (q79)), (0, .ref (x0)), (2, .int (x2)), (5, .int (x5)), (7, .int (x7))]) C dL_change_314 (by decide) rfl ?_
    refine G.iload C 4 dL_change_316 rfl ?_
    refine G.if_ne (tgt := 361) C dL_change_318 (by decide) hf (fun c86 hf => ?_) (fun c86 hf => ?_)
    · refine G.sub C [] (lv' := []) rfl ?_
      exact hj361 _ hf
    · refine G.aload_n C 1 dL_change_321 rfl rfl ?_
      refine G.iload C 3 dL_change_322 rfl ?_
      refine G.iconst (v := 2) C dL_change_324 (by decide) ?_
      refine G.iload_n C 2 dL_change_325 rfl rfl ?_
      refine G.iconst (v := 5) C dL_change_326 (by decide) ?_
      refine G.ishr C dL_change_327 ?_
      refine G.bipush (v := 19) C dL_change_328 (by decide) ?_
      obtain ⟨v80, hv80, hf⟩ := bind_some hf
      try dsimp only at hf
      refine G.callS C (st := [.int ((2 : Int32)), .int (x5), .ref (x0)]) (st2 := [.int (v80), .int ((2 : Int32)), .int (x5), .ref (x0)]) (ct_L_low hv80) m9_330 m9_331 m9_64 m9_332 kd_L_low ⟨Nat.le_of_ble_eq_true rfl, Nat.le_of_ble_eq_true rfl⟩ ⟨Nat.le_of_ble_eq_true rfl, Nat.le_of_ble_eq_true rfl⟩ (Nat.le_of_ble_eq_true rfl) rfl rfl dL_change_330 ?_
      refine G.iadd C dL_change_333 ?_
      obtain ⟨q81, hq81, hf⟩ := bind_some hf
      try dsimp only at hf
      have hq81 := okW_at hq81
      refine G.callX9 C TT (st := []) (st2 := [.int (q81.1)]) (cx_X5_gap hq81) rfl (ko_X5_gap hq81) rfl m9_387 m9_388 m9_389 m9_2 m9_390 kd_X5_gap ⟨Nat.le_of_ble_eq_true rfl, Nat.le_of_ble_eq_true rfl⟩ ⟨Nat.le_of_ble_eq_true rfl, Nat.le_of_ble_eq_true rfl⟩ (Nat.le_of_ble_eq_true rfl) rfl rfl dL_change_334 ?_
      refine G.iload C 0 dL_change_337 rfl ?_
      refine G.icmp_ne (tgt := 365) C dL_change_339 (by decide) hf (fun c85 hf => ?_) (fun c85 hf => ?_)
      · refine G.sub C [] (lv' := []) rfl ?_
        exact hj365 _ hf
      · refine G.aload_n C 1 dL_change_342 rfl rfl ?_
        refine G.iload C 3 dL_change_343 rfl ?_
        obtain ⟨q82, hq82, hf⟩ := bind_some hf
        try dsimp only at hf
        have hq82 := okL9_at hq82
        refine G.callX9 C TT (st := []) (st2 := [.int (q82)]) (cx_X5_gapOf hq82) rfl (ko_X5_gapOf hq82) rfl m9_210 m9_211 m9_212 m9_2 m9_213 kd_X5_gapOf ⟨Nat.le_of_ble_eq_true rfl, Nat.le_of_ble_eq_true rfl⟩ ⟨Nat.le_of_ble_eq_true rfl, Nat.le_of_ble_eq_true rfl⟩ (Nat.le_of_ble_eq_true rfl) rfl rfl dL_change_345 ?_
        refine G.iconst (v := 2) C dL_change_348 (by decide) ?_
        refine G.iload_n C 2 dL_change_349 rfl rfl ?_
        refine G.iconst (v := 5) C dL_change_350 (by decide) ?_
        refine G.ishr C dL_change_351 ?_
        refine G.bipush (v := 19) C dL_change_352 (by decide) ?_
        obtain ⟨v83, hv83, hf⟩ := bind_some hf
        try dsimp only at hf
        refine G.callS C (st := [.int ((2 : Int32)), .int (q82)]) (st2 := [.int (v83), .int ((2 : Int32)), .int (q82)]) (ct_L_low hv83) m9_330 m9_331 m9_64 m9_332 kd_L_low ⟨Nat.le_of_ble_eq_true rfl, Nat.le_of_ble_eq_true rfl⟩ ⟨Nat.le_of_ble_eq_true rfl, Nat.le_of_ble_eq_true rfl⟩ (Nat.le_of_ble_eq_true rfl) rfl rfl dL_change_354 ?_
        refine G.iadd C dL_change_357 ?_
        refine G.icmp_ne (tgt := 365) C dL_change_358 (by decide) hf (fun c84 hf => ?_) (fun c84 hf => ?_)
        · refine G.sub C [] (lv' := []) rfl ?_
          exact hj365 _ hf
        · refine G.sub C [] (lv' := []) rfl ?_
          exact hj361 _ hf
  have hj399 : ∀ (hh : PH) (k0 : Int32), f_L_change_J399 hh k0 = some r → G p l e ({ frames := 9, cells := 1, slots := 60, locals := 173 } : Room) s m args below meth c 10 g X h 0 0 (MQ below (QW g X h s.heap.size (some (.int r.1)) r.2) args s 1 60 (AF X h s.heap.size)) 399 [] [.int (k0)] hh := by
    intro hh k0 hf
    unfold f_L_change_J399 at hf
    obtain ⟨c87, hf⟩ := gd_ok hf
    cases hf
    exact G.zretC C ⟨by omega, by omega⟩ rfl (z01_n c87) dL_change_399
  have hj394 : ∀ (hh : PH), f_L_change_J394 hh = some r → G p l e ({ frames := 9, cells := 1, slots := 60, locals := 173 } : Room) s m args below meth c 10 g X h 0 0 (MQ below (QW g X h s.heap.size (some (.int r.1)) r.2) args s 1 60 (AF X h s.heap.size)) 394 [] [] hh := by
    intro hh hf
    unfold f_L_change_J394 at hf
    refine G.iconst (v := 1) C dL_change_394 (by decide) ?_
    refine G.goto (tgt := 399) C dL_change_395 (by decide) ?_
    refine G.sub C [] (lv' := []) rfl ?_
    exact hj399 _ _ hf
  have hj451 : ∀ (hh : PH) (k0 : Int32), f_L_change_J451 hh k0 = some r → G p l e ({ frames := 9, cells := 1, slots := 60, locals := 173 } : Room) s m args below meth c 10 g X h 0 0 (MQ below (QW g X h s.heap.size (some (.int r.1)) r.2) args s 1 60 (AF X h s.heap.size)) 451 [] [.int (k0)] hh := by
    intro hh k0 hf
    unfold f_L_change_J451 at hf
    obtain ⟨c88, hf⟩ := gd_ok hf
    cases hf
    exact G.zretC C ⟨by omega, by omega⟩ rfl (z01_n c88) dL_change_451
  have hj446 : ∀ (hh : PH), f_L_change_J446 hh = some r → G p l e ({ frames := 9, cells := 1, slots := 60, locals := 173 } : Room) s m args below meth c 10 g X h 0 0 (MQ below (QW g X h s.heap.size (some (.int r.1)) r.2) args s 1 60 (AF X h s.heap.size)) 446 [] [] hh := by
    intro hh hf
    unfold f_L_change_J446 at hf
    refine G.iconst (v := 1) C dL_change_446 (by decide) ?_
    refine G.goto (tgt := 451) C dL_change_447 (by decide) ?_
    refine G.sub C [] (lv' := []) rfl ?_
    exact hj451 _ _ hf
  have hj470 : ∀ (cells slots : Nat), cells ≤ 1 → slots ≤ 60 → ∀ (hh : PH) (k0 : Int32), f_L_change_J470 hh k0 = some r → G p l e ({ frames := 9, cells := 1, slots := 60, locals := 173 } : Room) s m args below meth c 10 g X h cells slots (MQ below (QW g X h s.heap.size (some (.int r.1)) r.2) args s 1 60 (AF X h s.heap.size)) 470 [] [.int (k0)] hh := by
    intro cells slots hc9 hs9 hh k0 hf
    unfold f_L_change_J470 at hf
    obtain ⟨c89, hf⟩ := gd_ok hf
    cases hf
    exact G.zretC C ⟨by omega, by omega⟩ rfl (z01_n c89) dL_change_470
  have hj465 : ∀ (cells slots : Nat), cells ≤ 1 → slots ≤ 60 → ∀ (hh : PH), f_L_change_J465 hh = some r → G p l e ({ frames := 9, cells := 1, slots := 60, locals := 173 } : Room) s m args below meth c 10 g X h cells slots (MQ below (QW g X h s.heap.size (some (.int r.1)) r.2) args s 1 60 (AF X h s.heap.size)) 465 [] [] hh := by
    intro cells slots hc9 hs9 hh hf
    unfold f_L_change_J465 at hf
    refine G.iconst (v := 1) C dL_change_465 (by decide) ?_
    refine G.goto (tgt := 470) C dL_change_466 (by decide) ?_
    refine G.sub C [] (lv' := []) rfl ?_
    exact hj470 _ _ (by omega) (by omega) _ _ hf
  have hj557 : ∀ (hh : PH) (k0 : Int32), f_L_change_J557 hh k0 = some r → G p l e ({ frames := 9, cells := 1, slots := 60, locals := 173 } : Room) s m args below meth c 10 g X h 0 0 (MQ below (QW g X h s.heap.size (some (.int r.1)) r.2) args s 1 60 (AF X h s.heap.size)) 557 [] [.int (k0)] hh := by
    intro hh k0 hf
    unfold f_L_change_J557 at hf
    obtain ⟨c90, hf⟩ := gd_ok hf
    cases hf
    exact G.zretC C ⟨by omega, by omega⟩ rfl (z01_n c90) dL_change_557
  have hj552 : ∀ (hh : PH), f_L_change_J552 hh = some r → G p l e ({ frames := 9, cells := 1, slots := 60, locals := 173 } : Room) s m args below meth c 10 g X h 0 0 (MQ below (QW g X h s.heap.size (some (.int r.1)) r.2) args s 1 60 (AF X h s.heap.size)) 552 [] [] hh := by
    intro hh hf
    unfold f_L_change_J552 at hf
    refine G.iconst (v := 1) C dL_change_552 (by decide) ?_
    refine G.goto (tgt := 557) C dL_change_553 (by decide) ?_
    refine G.sub C [] (lv' := []) rfl ?_
    exact hj557 _ _ hf
  have hj556 : ∀ (hh : PH), f_L_change_J556 hh = some r → G p l e ({ frames := 9, cells := 1, slots := 60, locals := 173 } : Room) s m args below meth c 10 g X h 0 0 (MQ below (QW g X h s.heap.size (some (.int r.1)) r.2) args s 1 60 (AF X h s.heap.size)) 556 [] [] hh := by
    intro hh hf
    unfold f_L_change_J556 at hf
    refine G.iconst (v := 0) C dL_change_556 (by decide) ?_
    refine G.sub C [] (lv' := []) rfl ?_
    exact hj557 _ _ hf
  have hj511 : ∀ (x0 : Nat) (x3 : Int32) (x4 : Int32) (x8 : Int32) (k0 : Int32), f_L_change_J511 h (x0) (x3) (x4) (x8) k0 = some r → G p l e ({ frames := 9, cells := 1, slots := 60, locals := 173 } : Room) s m args below meth c 10 g X h 0 0 (MQ below (QW g X h s.heap.size (some (.int r.1)) r.2) args s 1 60 (AF X h s.heap.size)) 511 [(0, .ref (x0)), (3, .int (x3)), (4, .int (x4)), (8, .int (x8))] [.int (k0)] h := by
    intro x0 x3 x4 x8 k0 hf
    unfold f_L_change_J511 at hf
    refine G.istore (lv' := [(9, .int (k0)), (0, .ref (x0)), (3, .int (x3)), (4, .int (x4)), (8, .int (x8))]) C dL_change_511 (by decide) rfl ?_
    refine G.iload_n C 2 dL_change_513 rfl rfl ?_
    refine G.if_eq (tgt := 552) C dL_change_514 (by decide) hf (fun c97 hf => ?_) (fun c97 hf => ?_)
    · refine G.sub C [] (lv' := []) rfl ?_
      exact hj552 _ hf
    · refine G.aload_n C 1 dL_change_517 rfl rfl ?_
      refine G.iload C 3 dL_change_518 rfl ?_
      refine G.iload C 4 dL_change_520 rfl ?_
      obtain ⟨q91, hq91, hf⟩ := bind_some hf
      try dsimp only at hf
      have hq91 := okW_at hq91
      refine G.callX9 C TT (st := []) (st2 := [.int (q91.1)]) (cx_X5_joining hq91) rfl (ko_X5_joining hq91) rfl m9_274 m9_275 m9_276 m9_2 m9_277 kd_X5_joining ⟨Nat.le_of_ble_eq_true rfl, Nat.le_of_ble_eq_true rfl⟩ ⟨Nat.le_of_ble_eq_true rfl, Nat.le_of_ble_eq_true rfl⟩ (Nat.le_of_ble_eq_true rfl) rfl rfl dL_change_522 ?_
      refine G.if_gt (tgt := 552) C dL_change_525 (by decide) hf (fun c96 hf => ?_) (fun c96 hf => ?_)
      · refine G.sub C [] (lv' := []) rfl ?_
        exact hj552 _ hf
      · refine G.aload_n C 1 dL_change_528 rfl rfl ?_
        refine G.iload C 3 dL_change_529 rfl ?_
        refine G.iload C 4 dL_change_531 rfl ?_
        obtain ⟨q92, hq92, hf⟩ := bind_some hf
        try dsimp only at hf
        have hq92 := okW_at hq92
        refine G.callX9 C TT (st := []) (st2 := [.int (q92.1)]) (cx_X5_join hq92) rfl (ko_X5_join hq92) rfl m9_423 m9_424 m9_425 m9_2 m9_426 kd_X5_join ⟨Nat.le_of_ble_eq_true rfl, Nat.le_of_ble_eq_true rfl⟩ ⟨Nat.le_of_ble_eq_true rfl, Nat.le_of_ble_eq_true rfl⟩ (Nat.le_of_ble_eq_true rfl) rfl rfl dL_change_533 ?_
        refine G.iload C 0 dL_change_536 rfl ?_
        refine G.icmp_ne (tgt := 556) C dL_change_538 (by decide) hf (fun c95 hf => ?_) (fun c95 hf => ?_)
        · refine G.sub C [] (lv' := []) rfl ?_
          exact hj556 _ hf
        · refine G.aload_n C 1 dL_change_541 rfl rfl ?_
          refine G.iconst (v := 0) C dL_change_542 (by decide) ?_
          obtain ⟨q93, hq93, hf⟩ := bind_some hf
          try dsimp only at hf
          have hq93 := okL9_at hq93
          refine G.callX9 C TT (st := []) (st2 := [.int (q93)]) (cx_X5_count hq93) rfl (ko_X5_count hq93) rfl m9_66 m9_67 m9_68 m9_2 m9_69 kd_X5_count ⟨Nat.le_of_ble_eq_true rfl, Nat.le_of_ble_eq_true rfl⟩ ⟨Nat.le_of_ble_eq_true rfl, Nat.le_of_ble_eq_true rfl⟩ (Nat.le_of_ble_eq_true rfl) rfl rfl dL_change_543 ?_
          refine G.iload_n C 2 dL_change_546 rfl rfl ?_
          refine G.iconst (v := 1) C dL_change_547 (by decide) ?_
          refine G.isub C dL_change_548 ?_
          refine G.icmp_ne (tgt := 556) C dL_change_549 (by decide) hf (fun c94 hf => ?_) (fun c94 hf => ?_)
          · refine G.sub C [] (lv' := []) rfl ?_
            exact hj556 _ hf
          · refine G.sub C [] (lv' := []) rfl ?_
            exact hj552 _ hf
  have hj486 : ∀ (x0 : Nat) (x3 : Int32) (x4 : Int32) (k0 : Int32), f_L_change_J486 h (x0) (x3) (x4) k0 = some r → G p l e ({ frames := 9, cells := 1, slots := 60, locals := 173 } : Room) s m args below meth c 10 g X h 0 0 (MQ below (QW g X h s.heap.size (some (.int r.1)) r.2) args s 1 60 (AF X h s.heap.size)) 486 [(0, .ref (x0)), (3, .int (x3)), (4, .int (x4))] [.int (k0)] h := by
    intro x0 x3 x4 k0 hf
    unfold f_L_change_J486 at hf
    refine G.istore (lv' := [(8, .int (k0)), (0, .ref (x0)), (3, .int (x3)), (4, .int (x4))]) C dL_change_486 (by decide) rfl ?_
    refine G.iload_n C 2 dL_change_488 rfl rfl ?_
    refine G.if_ne (tgt := 496) C dL_change_489 (by decide) hf (fun c100 hf => ?_) (fun c100 hf => ?_)
    · refine G.aload_n C 1 dL_change_496 rfl rfl ?_
      refine G.iload C 3 dL_change_497 rfl ?_
      refine G.iconst (v := 0) C dL_change_499 (by decide) ?_
      obtain ⟨q98, hq98, hf⟩ := bind_some hf
      try dsimp only at hf
      have hq98 := okL9_at hq98
      refine G.callX9 C TT (st := []) (st2 := [.int (q98)]) (cx_X5_ropeOf hq98) rfl (ko_X5_ropeOf hq98) rfl m9_139 m9_140 m9_141 m9_2 m9_142 kd_X5_ropeOf ⟨Nat.le_of_ble_eq_true rfl, Nat.le_of_ble_eq_true rfl⟩ ⟨Nat.le_of_ble_eq_true rfl, Nat.le_of_ble_eq_true rfl⟩ (Nat.le_of_ble_eq_true rfl) rfl rfl dL_change_500 ?_
      refine G.aload_n C 1 dL_change_503 rfl rfl ?_
      refine G.iload C 0 dL_change_504 rfl ?_
      refine G.iconst (v := 0) C dL_change_506 (by decide) ?_
      obtain ⟨q99, hq99, hf⟩ := bind_some hf
      try dsimp only at hf
      have hq99 := okL9_at hq99
      refine G.callX9 C TT (st := [.int (q98)]) (st2 := [.int (q99), .int (q98)]) (cx_X5_ropeOf hq99) rfl (ko_X5_ropeOf hq99) rfl m9_139 m9_140 m9_141 m9_2 m9_142 kd_X5_ropeOf ⟨Nat.le_of_ble_eq_true rfl, Nat.le_of_ble_eq_true rfl⟩ ⟨Nat.le_of_ble_eq_true rfl, Nat.le_of_ble_eq_true rfl⟩ (Nat.le_of_ble_eq_true rfl) rfl rfl dL_change_507 ?_
      refine G.iadd C dL_change_510 ?_
      refine G.sub C [1, 2, 3, 0] (lv' := [(0, .ref (x0)), (3, .int (x3)), (4, .int (x4)), (8, .int (k0))]) rfl ?_
      exact hj511 _ _ _ _ _ hf
    · refine G.iconst (v := 0) C dL_change_492 (by decide) ?_
      refine G.goto (tgt := 511) C dL_change_493 (by decide) ?_
      refine G.sub C [1, 2, 3, 0] (lv' := [(0, .ref (x0)), (3, .int (x3)), (4, .int (x4)), (8, .int (k0))]) rfl ?_
      exact hj511 _ _ _ _ _ hf
  have hj585 : ∀ (hh : PH) (k0 : Int32), f_L_change_J585 hh k0 = some r → G p l e ({ frames := 9, cells := 1, slots := 60, locals := 173 } : Room) s m args below meth c 10 g X h 0 0 (MQ below (QW g X h s.heap.size (some (.int r.1)) r.2) args s 1 60 (AF X h s.heap.size)) 585 [] [.int (k0)] hh := by
    intro hh k0 hf
    unfold f_L_change_J585 at hf
    obtain ⟨c101, hf⟩ := gd_ok hf
    cases hf
    exact G.zretC C ⟨by omega, by omega⟩ rfl (z01_n c101) dL_change_585
  have hj580 : ∀ (hh : PH), f_L_change_J580 hh = some r → G p l e ({ frames := 9, cells := 1, slots := 60, locals := 173 } : Room) s m args below meth c 10 g X h 0 0 (MQ below (QW g X h s.heap.size (some (.int r.1)) r.2) args s 1 60 (AF X h s.heap.size)) 580 [] [] hh := by
    intro hh hf
    unfold f_L_change_J580 at hf
    refine G.iconst (v := 1) C dL_change_580 (by decide) ?_
    refine G.goto (tgt := 585) C dL_change_581 (by decide) ?_
    refine G.sub C [] (lv' := []) rfl ?_
    exact hj585 _ _ hf
  have hj16 : ∀ (x0 : Nat) (x1 : Int32) (x2 : Int32) (x3 : Int32) (k0 : Int32) (k1 : Int32), f_L_change_J16 h (x0) (x1) (x2) (x3) k0 k1 = some r → G p l e ({ frames := 9, cells := 1, slots := 60, locals := 173 } : Room) s m args below meth c 10 g X h 0 0 (MQ below (QW g X h s.heap.size (some (.int r.1)) r.2) args s 1 60 (AF X h s.heap.size)) 16 [(0, .ref (x0)), (1, .int (x1)), (2, .int (x2)), (3, .int (x3))] [.int (k1), .int (k0)] h := by
    intro x0 x1 x2 x3 k0 k1 hf
    unfold f_L_change_J16 at hf
    obtain ⟨v102, hv102, hf⟩ := bind_some hf
    try dsimp only at hf
    refine G.callS C (st := []) (st2 := [.int (v102)]) (ct_L_low hv102) m9_330 m9_331 m9_64 m9_332 kd_L_low ⟨Nat.le_of_ble_eq_true rfl, Nat.le_of_ble_eq_true rfl⟩ ⟨Nat.le_of_ble_eq_true rfl, Nat.le_of_ble_eq_true rfl⟩ (Nat.le_of_ble_eq_true rfl) rfl rfl dL_change_16 ?_
    refine G.istore (lv' := [(4, .int (v102)), (0, .ref (x0)), (1, .int (x1)), (2, .int (x2)), (3, .int (x3))]) C dL_change_19 (by decide) rfl ?_
    refine G.iload_n C 3 dL_change_21 rfl rfl ?_
    refine G.iconst (v := 2) C dL_change_22 (by decide) ?_
    refine G.ishr C dL_change_23 ?_
    refine G.bipush (v := 8) C dL_change_24 (by decide) ?_
    obtain ⟨v103, hv103, hf⟩ := bind_some hf
    try dsimp only at hf
    refine G.callS C (st := []) (st2 := [.int (v103)]) (ct_L_low hv103) m9_330 m9_331 m9_64 m9_332 kd_L_low ⟨Nat.le_of_ble_eq_true rfl, Nat.le_of_ble_eq_true rfl⟩ ⟨Nat.le_of_ble_eq_true rfl, Nat.le_of_ble_eq_true rfl⟩ (Nat.le_of_ble_eq_true rfl) rfl rfl dL_change_26 ?_
    refine G.istore (lv' := [(5, .int (v103)), (4, .int (v102)), (0, .ref (x0)), (1, .int (x1)), (2, .int (x2)), (3, .int (x3))]) C dL_change_29 (by decide) rfl ?_
    refine G.iconst (v := 0) C dL_change_31 (by decide) ?_
    refine G.istore (lv' := [(6, .int ((0 : Int32))), (5, .int (v103)), (4, .int (v102)), (0, .ref (x0)), (1, .int (x1)), (2, .int (x2)), (3, .int (x3))]) C dL_change_32 (by decide) rfl ?_
    refine G.iload_n C 4 dL_change_34 rfl rfl ?_
    refine G.bipush (v := 16) C dL_change_35 (by decide) ?_
    obtain ⟨v104, hv104, hf⟩ := bind_some hf
    try dsimp only at hf
    refine G.callS C (st := []) (st2 := [.int (v104)]) (ct_L_low hv104) m9_330 m9_331 m9_64 m9_332 kd_L_low ⟨Nat.le_of_ble_eq_true rfl, Nat.le_of_ble_eq_true rfl⟩ ⟨Nat.le_of_ble_eq_true rfl, Nat.le_of_ble_eq_true rfl⟩ (Nat.le_of_ble_eq_true rfl) rfl rfl dL_change_37 ?_
    by_cases c105 : v104 = 0
    · rw [if_pos c105] at hf
      refine G.tswIn (tgt := 116) (off := 76) C c105 dL_change_40 (by decide) (by decide) rfl (by decide) ?_
      refine G.iload_n C 6 dL_change_116 rfl rfl ?_
      refine G.iconst (v := 4) C dL_change_117 (by decide) ?_
      refine G.icmp_eq (tgt := 171) C dL_change_118 (by decide) hf (fun c115 hf => ?_) (fun c115 hf => ?_)
      · refine G.sub C [] (lv' := []) rfl ?_
        exact hj171 _ hf
      · refine G.aload_n C 3 dL_change_121 rfl rfl ?_
        refine G.iconst (v := 1) C dL_change_122 (by decide) ?_
        refine G.iload_n C 5 dL_change_123 rfl rfl ?_
        refine G.bipush (v := 60) C dL_change_124 (by decide) ?_
        obtain ⟨v106, hv106, hf⟩ := bind_some hf
        try dsimp only at hf
        refine G.callS C (st := [.int ((1 : Int32)), .ref (x0)]) (st2 := [.int (v106), .int ((1 : Int32)), .ref (x0)]) (ct_L_low hv106) m9_330 m9_331 m9_64 m9_332 kd_L_low ⟨Nat.le_of_ble_eq_true rfl, Nat.le_of_ble_eq_true rfl⟩ ⟨Nat.le_of_ble_eq_true rfl, Nat.le_of_ble_eq_true rfl⟩ (Nat.le_of_ble_eq_true rfl) rfl rfl dL_change_126 ?_
        refine G.iadd C dL_change_129 ?_
        obtain ⟨q107, hq107, hf⟩ := bind_some hf
        try dsimp only at hf
        have hq107 := okW_at hq107
        refine G.callX9 C TT (st := []) (st2 := [.int (q107.1)]) (cx_X5_rope hq107) rfl (ko_X5_rope hq107) rfl m9_334 m9_335 m9_336 m9_2 m9_337 kd_X5_rope ⟨Nat.le_of_ble_eq_true rfl, Nat.le_of_ble_eq_true rfl⟩ ⟨Nat.le_of_ble_eq_true rfl, Nat.le_of_ble_eq_true rfl⟩ (Nat.le_of_ble_eq_true rfl) rfl rfl dL_change_130 ?_
        refine G.iload_n C 6 dL_change_133 rfl rfl ?_
        refine G.icmp_ne (tgt := 175) C dL_change_134 (by decide) hf (fun c114 hf => ?_) (fun c114 hf => ?_)
        · refine G.sub C [] (lv' := []) rfl ?_
          exact hj175 _ hf
        · refine G.aload_n C 3 dL_change_137 rfl rfl ?_
          refine G.iload_n C 6 dL_change_138 rfl rfl ?_
          refine G.iconst (v := 0) C dL_change_139 (by decide) ?_
          obtain ⟨q108, hq108, hf⟩ := bind_some hf
          try dsimp only at hf
          have hq108 := okL9_at hq108
          refine G.callX9 C TT (st := []) (st2 := [.int (q108)]) (cx_X5_ropeOf hq108) rfl (ko_X5_ropeOf hq108) rfl m9_139 m9_140 m9_141 m9_2 m9_142 kd_X5_ropeOf ⟨Nat.le_of_ble_eq_true rfl, Nat.le_of_ble_eq_true rfl⟩ ⟨Nat.le_of_ble_eq_true rfl, Nat.le_of_ble_eq_true rfl⟩ (Nat.le_of_ble_eq_true rfl) rfl rfl dL_change_140 ?_
          refine G.iconst (v := 1) C dL_change_143 (by decide) ?_
          refine G.iload_n C 5 dL_change_144 rfl rfl ?_
          refine G.bipush (v := 60) C dL_change_145 (by decide) ?_
          obtain ⟨v109, hv109, hf⟩ := bind_some hf
          try dsimp only at hf
          refine G.callS C (st := [.int ((1 : Int32)), .int (q108)]) (st2 := [.int (v109), .int ((1 : Int32)), .int (q108)]) (ct_L_low hv109) m9_330 m9_331 m9_64 m9_332 kd_L_low ⟨Nat.le_of_ble_eq_true rfl, Nat.le_of_ble_eq_true rfl⟩ ⟨Nat.le_of_ble_eq_true rfl, Nat.le_of_ble_eq_true rfl⟩ (Nat.le_of_ble_eq_true rfl) rfl rfl dL_change_147 ?_
          refine G.iadd C dL_change_150 ?_
          refine G.icmp_ne (tgt := 175) C dL_change_151 (by decide) hf (fun c113 hf => ?_) (fun c113 hf => ?_)
          · refine G.sub C [] (lv' := []) rfl ?_
            exact hj175 _ hf
          · refine G.aload_n C 3 dL_change_154 rfl rfl ?_
            refine G.iload_n C 6 dL_change_155 rfl rfl ?_
            refine G.iconst (v := 2) C dL_change_156 (by decide) ?_
            obtain ⟨q110, hq110, hf⟩ := bind_some hf
            try dsimp only at hf
            have hq110 := okL9_at hq110
            refine G.callX9 C TT (st := []) (st2 := [.int (q110)]) (cx_X5_ropeOf hq110) rfl (ko_X5_ropeOf hq110) rfl m9_139 m9_140 m9_141 m9_2 m9_142 kd_X5_ropeOf ⟨Nat.le_of_ble_eq_true rfl, Nat.le_of_ble_eq_true rfl⟩ ⟨Nat.le_of_ble_eq_true rfl, Nat.le_of_ble_eq_true rfl⟩ (Nat.le_of_ble_eq_true rfl) rfl rfl dL_change_157 ?_
            refine G.iconst (v := 1) C dL_change_160 (by decide) ?_
            refine G.iload_n C 5 dL_change_161 rfl rfl ?_
            refine G.bipush (v := 60) C dL_change_162 (by decide) ?_
            obtain ⟨v111, hv111, hf⟩ := bind_some hf
            try dsimp only at hf
            refine G.callS C (st := [.int ((1 : Int32)), .int (q110)]) (st2 := [.int (v111), .int ((1 : Int32)), .int (q110)]) (ct_L_low hv111) m9_330 m9_331 m9_64 m9_332 kd_L_low ⟨Nat.le_of_ble_eq_true rfl, Nat.le_of_ble_eq_true rfl⟩ ⟨Nat.le_of_ble_eq_true rfl, Nat.le_of_ble_eq_true rfl⟩ (Nat.le_of_ble_eq_true rfl) rfl rfl dL_change_164 ?_
            refine G.iadd C dL_change_167 ?_
            refine G.icmp_ne (tgt := 175) C dL_change_168 (by decide) hf (fun c112 hf => ?_) (fun c112 hf => ?_)
            · refine G.sub C [] (lv' := []) rfl ?_
              exact hj175 _ hf
            · refine G.sub C [] (lv' := []) rfl ?_
              exact hj171 _ hf
    · rw [if_neg c105] at hf
      by_cases c116 : v104 = 1
      · rw [if_pos c116] at hf
        refine G.tswIn (tgt := 116) (off := 76) C c116 dL_change_40 (by decide) (by decide) rfl (by decide) ?_
        refine G.iload_n C 6 dL_change_116 rfl rfl ?_
        refine G.iconst (v := 4) C dL_change_117 (by decide) ?_
        refine G.icmp_eq (tgt := 171) C dL_change_118 (by decide) hf (fun c126 hf => ?_) (fun c126 hf => ?_)
        · refine G.sub C [] (lv' := []) rfl ?_
          exact hj171 _ hf
        · refine G.aload_n C 3 dL_change_121 rfl rfl ?_
          refine G.iconst (v := 1) C dL_change_122 (by decide) ?_
          refine G.iload_n C 5 dL_change_123 rfl rfl ?_
          refine G.bipush (v := 60) C dL_change_124 (by decide) ?_
          obtain ⟨v117, hv117, hf⟩ := bind_some hf
          try dsimp only at hf
          refine G.callS C (st := [.int ((1 : Int32)), .ref (x0)]) (st2 := [.int (v117), .int ((1 : Int32)), .ref (x0)]) (ct_L_low hv117) m9_330 m9_331 m9_64 m9_332 kd_L_low ⟨Nat.le_of_ble_eq_true rfl, Nat.le_of_ble_eq_true rfl⟩ ⟨Nat.le_of_ble_eq_true rfl, Nat.le_of_ble_eq_true rfl⟩ (Nat.le_of_ble_eq_true rfl) rfl rfl dL_change_126 ?_
          refine G.iadd C dL_change_129 ?_
          obtain ⟨q118, hq118, hf⟩ := bind_some hf
          try dsimp only at hf
          have hq118 := okW_at hq118
          refine G.callX9 C TT (st := []) (st2 := [.int (q118.1)]) (cx_X5_rope hq118) rfl (ko_X5_rope hq118) rfl m9_334 m9_335 m9_336 m9_2 m9_337 kd_X5_rope ⟨Nat.le_of_ble_eq_true rfl, Nat.le_of_ble_eq_true rfl⟩ ⟨Nat.le_of_ble_eq_true rfl, Nat.le_of_ble_eq_true rfl⟩ (Nat.le_of_ble_eq_true rfl) rfl rfl dL_change_130 ?_
          refine G.iload_n C 6 dL_change_133 rfl rfl ?_
          refine G.icmp_ne (tgt := 175) C dL_change_134 (by decide) hf (fun c125 hf => ?_) (fun c125 hf => ?_)
          · refine G.sub C [] (lv' := []) rfl ?_
            exact hj175 _ hf
          · refine G.aload_n C 3 dL_change_137 rfl rfl ?_
            refine G.iload_n C 6 dL_change_138 rfl rfl ?_
            refine G.iconst (v := 0) C dL_change_139 (by decide) ?_
            obtain ⟨q119, hq119, hf⟩ := bind_some hf
            try dsimp only at hf
            have hq119 := okL9_at hq119
            refine G.callX9 C TT (st := []) (st2 := [.int (q119)]) (cx_X5_ropeOf hq119) rfl (ko_X5_ropeOf hq119) rfl m9_139 m9_140 m9_141 m9_2 m9_142 kd_X5_ropeOf ⟨Nat.le_of_ble_eq_true rfl, Nat.le_of_ble_eq_true rfl⟩ ⟨Nat.le_of_ble_eq_true rfl, Nat.le_of_ble_eq_true rfl⟩ (Nat.le_of_ble_eq_true rfl) rfl rfl dL_change_140 ?_
            refine G.iconst (v := 1) C dL_change_143 (by decide) ?_
            refine G.iload_n C 5 dL_change_144 rfl rfl ?_
            refine G.bipush (v := 60) C dL_change_145 (by decide) ?_
            obtain ⟨v120, hv120, hf⟩ := bind_some hf
            try dsimp only at hf
            refine G.callS C (st := [.int ((1 : Int32)), .int (q119)]) (st2 := [.int (v120), .int ((1 : Int32)), .int (q119)]) (ct_L_low hv120) m9_330 m9_331 m9_64 m9_332 kd_L_low ⟨Nat.le_of_ble_eq_true rfl, Nat.le_of_ble_eq_true rfl⟩ ⟨Nat.le_of_ble_eq_true rfl, Nat.le_of_ble_eq_true rfl⟩ (Nat.le_of_ble_eq_true rfl) rfl rfl dL_change_147 ?_
            refine G.iadd C dL_change_150 ?_
            refine G.icmp_ne (tgt := 175) C dL_change_151 (by decide) hf (fun c124 hf => ?_) (fun c124 hf => ?_)
            · refine G.sub C [] (lv' := []) rfl ?_
              exact hj175 _ hf
            · refine G.aload_n C 3 dL_change_154 rfl rfl ?_
              refine G.iload_n C 6 dL_change_155 rfl rfl ?_
              refine G.iconst (v := 2) C dL_change_156 (by decide) ?_
              obtain ⟨q121, hq121, hf⟩ := bind_some hf
              try dsimp only at hf
              have hq121 := okL9_at hq121
              refine G.callX9 C TT (st := []) (st2 := [.int (q121)]) (cx_X5_ropeOf hq121) rfl (ko_X5_ropeOf hq121) rfl m9_139 m9_140 m9_141 m9_2 m9_142 kd_X5_ropeOf ⟨Nat.le_of_ble_eq_true rfl, Nat.le_of_ble_eq_true rfl⟩ ⟨Nat.le_of_ble_eq_true rfl, Nat.le_of_ble_eq_true rfl⟩ (Nat.le_of_ble_eq_true rfl) rfl rfl dL_change_157 ?_
              refine G.iconst (v := 1) C dL_change_160 (by decide) ?_
              refine G.iload_n C 5 dL_change_161 rfl rfl ?_
              refine G.bipush (v := 60) C dL_change_162 (by decide) ?_
              obtain ⟨v122, hv122, hf⟩ := bind_some hf
              try dsimp only at hf
              refine G.callS C (st := [.int ((1 : Int32)), .int (q121)]) (st2 := [.int (v122), .int ((1 : Int32)), .int (q121)]) (ct_L_low hv122) m9_330 m9_331 m9_64 m9_332 kd_L_low ⟨Nat.le_of_ble_eq_true rfl, Nat.le_of_ble_eq_true rfl⟩ ⟨Nat.le_of_ble_eq_true rfl, Nat.le_of_ble_eq_true rfl⟩ (Nat.le_of_ble_eq_true rfl) rfl rfl dL_change_164 ?_
              refine G.iadd C dL_change_167 ?_
              refine G.icmp_ne (tgt := 175) C dL_change_168 (by decide) hf (fun c123 hf => ?_) (fun c123 hf => ?_)
              · refine G.sub C [] (lv' := []) rfl ?_
                exact hj175 _ hf
              · refine G.sub C [] (lv' := []) rfl ?_
                exact hj171 _ hf
      · rw [if_neg c116] at hf
        by_cases c127 : v104 = 2
        · rw [if_pos c127] at hf
          refine G.tswIn (tgt := 177) (off := 137) C c127 dL_change_40 (by decide) (by decide) rfl (by decide) ?_
          refine G.iload_n C 6 dL_change_177 rfl rfl ?_
          refine G.if_eq (tgt := 204) C dL_change_178 (by decide) hf (fun c132 hf => ?_) (fun c132 hf => ?_)
          · refine G.sub C [] (lv' := []) rfl ?_
            exact hj204 _ hf
          · refine G.aload_n C 3 dL_change_181 rfl rfl ?_
            refine G.iload C 2 dL_change_182 rfl ?_
            refine G.iload C 1 dL_change_184 rfl ?_
            refine G.iload_n C 5 dL_change_186 rfl rfl ?_
            refine G.iconst (v := 5) C dL_change_187 (by decide) ?_
            refine G.ishr C dL_change_188 ?_
            refine G.aload_n C 3 dL_change_189 rfl rfl ?_
            refine G.iload C 1 dL_change_190 rfl ?_
            obtain ⟨q128, hq128, hf⟩ := bind_some hf
            try dsimp only at hf
            have hq128 := okL9_at hq128
            refine G.callX9 C TT (st := [.int ((x2 >>> ((5 : Int32) &&& 31))), .int (v103), .int (v102), .ref (x0)]) (st2 := [.int (q128), .int ((x2 >>> ((5 : Int32) &&& 31))), .int (v103), .int (v102), .ref (x0)]) (cx_X5_gapOf hq128) rfl (ko_X5_gapOf hq128) rfl m9_210 m9_211 m9_212 m9_2 m9_213 kd_X5_gapOf ⟨Nat.le_of_ble_eq_true rfl, Nat.le_of_ble_eq_true rfl⟩ ⟨Nat.le_of_ble_eq_true rfl, Nat.le_of_ble_eq_true rfl⟩ (Nat.le_of_ble_eq_true rfl) rfl rfl dL_change_192 ?_
            obtain ⟨v129, hv129, hf⟩ := bind_some hf
            try dsimp only at hf
            refine G.callS C (st := [.int (v103), .int (v102), .ref (x0)]) (st2 := [.int (v129), .int (v103), .int (v102), .ref (x0)]) (ct_L_low hv129) m9_330 m9_331 m9_64 m9_332 kd_L_low ⟨Nat.le_of_ble_eq_true rfl, Nat.le_of_ble_eq_true rfl⟩ ⟨Nat.le_of_ble_eq_true rfl, Nat.le_of_ble_eq_true rfl⟩ (Nat.le_of_ble_eq_true rfl) rfl rfl dL_change_195 ?_
            obtain ⟨q130, hq130, hf⟩ := bind_some hf
            try dsimp only at hf
            refine G.callL0 C TT (st := []) (st2 := [.int (q130.1)]) (cl_L_lays hq130) m9_366 m9_367 m9_64 m9_368 kd_L_lays ⟨Nat.le_of_ble_eq_true rfl, Nat.le_of_ble_eq_true rfl⟩ ⟨Nat.le_of_ble_eq_true rfl, Nat.le_of_ble_eq_true rfl⟩ (Nat.le_of_ble_eq_true rfl) rfl rfl dL_change_198 ?_
            refine G.if_eq (tgt := 208) C dL_change_201 (by decide) hf (fun c131 hf => ?_) (fun c131 hf => ?_)
            · refine G.iconst (v := 0) C dL_change_208 (by decide) ?_
              refine G.sub C [] (lv' := []) rfl ?_
              exact hj209 _ _ hf
            · refine G.sub C [] (lv' := []) rfl ?_
              exact hj204 _ hf
        · rw [if_neg c127] at hf
          by_cases c133 : v104 = 3
          · rw [if_pos c133] at hf
            refine G.tswIn (tgt := 177) (off := 137) C c133 dL_change_40 (by decide) (by decide) rfl (by decide) ?_
            refine G.iload_n C 6 dL_change_177 rfl rfl ?_
            refine G.if_eq (tgt := 204) C dL_change_178 (by decide) hf (fun c138 hf => ?_) (fun c138 hf => ?_)
            · refine G.sub C [] (lv' := []) rfl ?_
              exact hj204 _ hf
            · refine G.aload_n C 3 dL_change_181 rfl rfl ?_
              refine G.iload C 2 dL_change_182 rfl ?_
              refine G.iload C 1 dL_change_184 rfl ?_
              refine G.iload_n C 5 dL_change_186 rfl rfl ?_
              refine G.iconst (v := 5) C dL_change_187 (by decide) ?_
              refine G.ishr C dL_change_188 ?_
              refine G.aload_n C 3 dL_change_189 rfl rfl ?_
              refine G.iload C 1 dL_change_190 rfl ?_
              obtain ⟨q134, hq134, hf⟩ := bind_some hf
              try dsimp only at hf
              have hq134 := okL9_at hq134
              refine G.callX9 C TT (st := [.int ((x2 >>> ((5 : Int32) &&& 31))), .int (v103), .int (v102), .ref (x0)]) (st2 := [.int (q134), .int ((x2 >>> ((5 : Int32) &&& 31))), .int (v103), .int (v102), .ref (x0)]) (cx_X5_gapOf hq134) rfl (ko_X5_gapOf hq134) rfl m9_210 m9_211 m9_212 m9_2 m9_213 kd_X5_gapOf ⟨Nat.le_of_ble_eq_true rfl, Nat.le_of_ble_eq_true rfl⟩ ⟨Nat.le_of_ble_eq_true rfl, Nat.le_of_ble_eq_true rfl⟩ (Nat.le_of_ble_eq_true rfl) rfl rfl dL_change_192 ?_
              obtain ⟨v135, hv135, hf⟩ := bind_some hf
              try dsimp only at hf
              refine G.callS C (st := [.int (v103), .int (v102), .ref (x0)]) (st2 := [.int (v135), .int (v103), .int (v102), .ref (x0)]) (ct_L_low hv135) m9_330 m9_331 m9_64 m9_332 kd_L_low ⟨Nat.le_of_ble_eq_true rfl, Nat.le_of_ble_eq_true rfl⟩ ⟨Nat.le_of_ble_eq_true rfl, Nat.le_of_ble_eq_true rfl⟩ (Nat.le_of_ble_eq_true rfl) rfl rfl dL_change_195 ?_
              obtain ⟨q136, hq136, hf⟩ := bind_some hf
              try dsimp only at hf
              refine G.callL0 C TT (st := []) (st2 := [.int (q136.1)]) (cl_L_lays hq136) m9_366 m9_367 m9_64 m9_368 kd_L_lays ⟨Nat.le_of_ble_eq_true rfl, Nat.le_of_ble_eq_true rfl⟩ ⟨Nat.le_of_ble_eq_true rfl, Nat.le_of_ble_eq_true rfl⟩ (Nat.le_of_ble_eq_true rfl) rfl rfl dL_change_198 ?_
              refine G.if_eq (tgt := 208) C dL_change_201 (by decide) hf (fun c137 hf => ?_) (fun c137 hf => ?_)
              · refine G.iconst (v := 0) C dL_change_208 (by decide) ?_
                refine G.sub C [] (lv' := []) rfl ?_
                exact hj209 _ _ hf
              · refine G.sub C [] (lv' := []) rfl ?_
                exact hj204 _ hf
          · rw [if_neg c133] at hf
            by_cases c139 : v104 = 4
            · rw [if_pos c139] at hf
              refine G.tswIn (tgt := 177) (off := 137) C c139 dL_change_40 (by decide) (by decide) rfl (by decide) ?_
              refine G.iload_n C 6 dL_change_177 rfl rfl ?_
              refine G.if_eq (tgt := 204) C dL_change_178 (by decide) hf (fun c144 hf => ?_) (fun c144 hf => ?_)
              · refine G.sub C [] (lv' := []) rfl ?_
                exact hj204 _ hf
              · refine G.aload_n C 3 dL_change_181 rfl rfl ?_
                refine G.iload C 2 dL_change_182 rfl ?_
                refine G.iload C 1 dL_change_184 rfl ?_
                refine G.iload_n C 5 dL_change_186 rfl rfl ?_
                refine G.iconst (v := 5) C dL_change_187 (by decide) ?_
                refine G.ishr C dL_change_188 ?_
                refine G.aload_n C 3 dL_change_189 rfl rfl ?_
                refine G.iload C 1 dL_change_190 rfl ?_
                obtain ⟨q140, hq140, hf⟩ := bind_some hf
                try dsimp only at hf
                have hq140 := okL9_at hq140
                refine G.callX9 C TT (st := [.int ((x2 >>> ((5 : Int32) &&& 31))), .int (v103), .int (v102), .ref (x0)]) (st2 := [.int (q140), .int ((x2 >>> ((5 : Int32) &&& 31))), .int (v103), .int (v102), .ref (x0)]) (cx_X5_gapOf hq140) rfl (ko_X5_gapOf hq140) rfl m9_210 m9_211 m9_212 m9_2 m9_213 kd_X5_gapOf ⟨Nat.le_of_ble_eq_true rfl, Nat.le_of_ble_eq_true rfl⟩ ⟨Nat.le_of_ble_eq_true rfl, Nat.le_of_ble_eq_true rfl⟩ (Nat.le_of_ble_eq_true rfl) rfl rfl dL_change_192 ?_
                obtain ⟨v141, hv141, hf⟩ := bind_some hf
                try dsimp only at hf
                refine G.callS C (st := [.int (v103), .int (v102), .ref (x0)]) (st2 := [.int (v141), .int (v103), .int (v102), .ref (x0)]) (ct_L_low hv141) m9_330 m9_331 m9_64 m9_332 kd_L_low ⟨Nat.le_of_ble_eq_true rfl, Nat.le_of_ble_eq_true rfl⟩ ⟨Nat.le_of_ble_eq_true rfl, Nat.le_of_ble_eq_true rfl⟩ (Nat.le_of_ble_eq_true rfl) rfl rfl dL_change_195 ?_
                obtain ⟨q142, hq142, hf⟩ := bind_some hf
                try dsimp only at hf
                refine G.callL0 C TT (st := []) (st2 := [.int (q142.1)]) (cl_L_lays hq142) m9_366 m9_367 m9_64 m9_368 kd_L_lays ⟨Nat.le_of_ble_eq_true rfl, Nat.le_of_ble_eq_true rfl⟩ ⟨Nat.le_of_ble_eq_true rfl, Nat.le_of_ble_eq_true rfl⟩ (Nat.le_of_ble_eq_true rfl) rfl rfl dL_change_198 ?_
                refine G.if_eq (tgt := 208) C dL_change_201 (by decide) hf (fun c143 hf => ?_) (fun c143 hf => ?_)
                · refine G.iconst (v := 0) C dL_change_208 (by decide) ?_
                  refine G.sub C [] (lv' := []) rfl ?_
                  exact hj209 _ _ hf
                · refine G.sub C [] (lv' := []) rfl ?_
                  exact hj204 _ hf
            · rw [if_neg c139] at hf
              by_cases c145 : v104 = 5
              · rw [if_pos c145] at hf
                refine G.tswIn (tgt := 177) (off := 137) C c145 dL_change_40 (by decide) (by decide) rfl (by decide) ?_
                refine G.iload_n C 6 dL_change_177 rfl rfl ?_
                refine G.if_eq (tgt := 204) C dL_change_178 (by decide) hf (fun c150 hf => ?_) (fun c150 hf => ?_)
                · refine G.sub C [] (lv' := []) rfl ?_
                  exact hj204 _ hf
                · refine G.aload_n C 3 dL_change_181 rfl rfl ?_
                  refine G.iload C 2 dL_change_182 rfl ?_
                  refine G.iload C 1 dL_change_184 rfl ?_
                  refine G.iload_n C 5 dL_change_186 rfl rfl ?_
                  refine G.iconst (v := 5) C dL_change_187 (by decide) ?_
                  refine G.ishr C dL_change_188 ?_
                  refine G.aload_n C 3 dL_change_189 rfl rfl ?_
                  refine G.iload C 1 dL_change_190 rfl ?_
                  obtain ⟨q146, hq146, hf⟩ := bind_some hf
                  try dsimp only at hf
                  have hq146 := okL9_at hq146
                  refine G.callX9 C TT (st := [.int ((x2 >>> ((5 : Int32) &&& 31))), .int (v103), .int (v102), .ref (x0)]) (st2 := [.int (q146), .int ((x2 >>> ((5 : Int32) &&& 31))), .int (v103), .int (v102), .ref (x0)]) (cx_X5_gapOf hq146) rfl (ko_X5_gapOf hq146) rfl m9_210 m9_211 m9_212 m9_2 m9_213 kd_X5_gapOf ⟨Nat.le_of_ble_eq_true rfl, Nat.le_of_ble_eq_true rfl⟩ ⟨Nat.le_of_ble_eq_true rfl, Nat.le_of_ble_eq_true rfl⟩ (Nat.le_of_ble_eq_true rfl) rfl rfl dL_change_192 ?_
                  obtain ⟨v147, hv147, hf⟩ := bind_some hf
                  try dsimp only at hf
                  refine G.callS C (st := [.int (v103), .int (v102), .ref (x0)]) (st2 := [.int (v147), .int (v103), .int (v102), .ref (x0)]) (ct_L_low hv147) m9_330 m9_331 m9_64 m9_332 kd_L_low ⟨Nat.le_of_ble_eq_true rfl, Nat.le_of_ble_eq_true rfl⟩ ⟨Nat.le_of_ble_eq_true rfl, Nat.le_of_ble_eq_true rfl⟩ (Nat.le_of_ble_eq_true rfl) rfl rfl dL_change_195 ?_
                  obtain ⟨q148, hq148, hf⟩ := bind_some hf
                  try dsimp only at hf
                  refine G.callL0 C TT (st := []) (st2 := [.int (q148.1)]) (cl_L_lays hq148) m9_366 m9_367 m9_64 m9_368 kd_L_lays ⟨Nat.le_of_ble_eq_true rfl, Nat.le_of_ble_eq_true rfl⟩ ⟨Nat.le_of_ble_eq_true rfl, Nat.le_of_ble_eq_true rfl⟩ (Nat.le_of_ble_eq_true rfl) rfl rfl dL_change_198 ?_
                  refine G.if_eq (tgt := 208) C dL_change_201 (by decide) hf (fun c149 hf => ?_) (fun c149 hf => ?_)
                  · refine G.iconst (v := 0) C dL_change_208 (by decide) ?_
                    refine G.sub C [] (lv' := []) rfl ?_
                    exact hj209 _ _ hf
                  · refine G.sub C [] (lv' := []) rfl ?_
                    exact hj204 _ hf
              · rw [if_neg c145] at hf
                by_cases c151 : v104 = 6
                · rw [if_pos c151] at hf
                  refine G.tswIn (tgt := 177) (off := 137) C c151 dL_change_40 (by decide) (by decide) rfl (by decide) ?_
                  refine G.iload_n C 6 dL_change_177 rfl rfl ?_
                  refine G.if_eq (tgt := 204) C dL_change_178 (by decide) hf (fun c156 hf => ?_) (fun c156 hf => ?_)
                  · refine G.sub C [] (lv' := []) rfl ?_
                    exact hj204 _ hf
                  · refine G.aload_n C 3 dL_change_181 rfl rfl ?_
                    refine G.iload C 2 dL_change_182 rfl ?_
                    refine G.iload C 1 dL_change_184 rfl ?_
                    refine G.iload_n C 5 dL_change_186 rfl rfl ?_
                    refine G.iconst (v := 5) C dL_change_187 (by decide) ?_
                    refine G.ishr C dL_change_188 ?_
                    refine G.aload_n C 3 dL_change_189 rfl rfl ?_
                    refine G.iload C 1 dL_change_190 rfl ?_
                    obtain ⟨q152, hq152, hf⟩ := bind_some hf
                    try dsimp only at hf
                    have hq152 := okL9_at hq152
                    refine G.callX9 C TT (st := [.int ((x2 >>> ((5 : Int32) &&& 31))), .int (v103), .int (v102), .ref (x0)]) (st2 := [.int (q152), .int ((x2 >>> ((5 : Int32) &&& 31))), .int (v103), .int (v102), .ref (x0)]) (cx_X5_gapOf hq152) rfl (ko_X5_gapOf hq152) rfl m9_210 m9_211 m9_212 m9_2 m9_213 kd_X5_gapOf ⟨Nat.le_of_ble_eq_true rfl, Nat.le_of_ble_eq_true rfl⟩ ⟨Nat.le_of_ble_eq_true rfl, Nat.le_of_ble_eq_true rfl⟩ (Nat.le_of_ble_eq_true rfl) rfl rfl dL_change_192 ?_
                    obtain ⟨v153, hv153, hf⟩ := bind_some hf
                    try dsimp only at hf
                    refine G.callS C (st := [.int (v103), .int (v102), .ref (x0)]) (st2 := [.int (v153), .int (v103), .int (v102), .ref (x0)]) (ct_L_low hv153) m9_330 m9_331 m9_64 m9_332 kd_L_low ⟨Nat.le_of_ble_eq_true rfl, Nat.le_of_ble_eq_true rfl⟩ ⟨Nat.le_of_ble_eq_true rfl, Nat.le_of_ble_eq_true rfl⟩ (Nat.le_of_ble_eq_true rfl) rfl rfl dL_change_195 ?_
                    obtain ⟨q154, hq154, hf⟩ := bind_some hf
                    try dsimp only at hf
                    refine G.callL0 C TT (st := []) (st2 := [.int (q154.1)]) (cl_L_lays hq154) m9_366 m9_367 m9_64 m9_368 kd_L_lays ⟨Nat.le_of_ble_eq_true rfl, Nat.le_of_ble_eq_true rfl⟩ ⟨Nat.le_of_ble_eq_true rfl, Nat.le_of_ble_eq_true rfl⟩ (Nat.le_of_ble_eq_true rfl) rfl rfl dL_change_198 ?_
                    refine G.if_eq (tgt := 208) C dL_change_201 (by decide) hf (fun c155 hf => ?_) (fun c155 hf => ?_)
                    · refine G.iconst (v := 0) C dL_change_208 (by decide) ?_
                      refine G.sub C [] (lv' := []) rfl ?_
                      exact hj209 _ _ hf
                    · refine G.sub C [] (lv' := []) rfl ?_
                      exact hj204 _ hf
                · rw [if_neg c151] at hf
                  by_cases c157 : v104 = 7
                  · rw [if_pos c157] at hf
                    refine G.tswIn (tgt := 177) (off := 137) C c157 dL_change_40 (by decide) (by decide) rfl (by decide) ?_
                    refine G.iload_n C 6 dL_change_177 rfl rfl ?_
                    refine G.if_eq (tgt := 204) C dL_change_178 (by decide) hf (fun c162 hf => ?_) (fun c162 hf => ?_)
                    · refine G.sub C [] (lv' := []) rfl ?_
                      exact hj204 _ hf
                    · refine G.aload_n C 3 dL_change_181 rfl rfl ?_
                      refine G.iload C 2 dL_change_182 rfl ?_
                      refine G.iload C 1 dL_change_184 rfl ?_
                      refine G.iload_n C 5 dL_change_186 rfl rfl ?_
                      refine G.iconst (v := 5) C dL_change_187 (by decide) ?_
                      refine G.ishr C dL_change_188 ?_
                      refine G.aload_n C 3 dL_change_189 rfl rfl ?_
                      refine G.iload C 1 dL_change_190 rfl ?_
                      obtain ⟨q158, hq158, hf⟩ := bind_some hf
                      try dsimp only at hf
                      have hq158 := okL9_at hq158
                      refine G.callX9 C TT (st := [.int ((x2 >>> ((5 : Int32) &&& 31))), .int (v103), .int (v102), .ref (x0)]) (st2 := [.int (q158), .int ((x2 >>> ((5 : Int32) &&& 31))), .int (v103), .int (v102), .ref (x0)]) (cx_X5_gapOf hq158) rfl (ko_X5_gapOf hq158) rfl m9_210 m9_211 m9_212 m9_2 m9_213 kd_X5_gapOf ⟨Nat.le_of_ble_eq_true rfl, Nat.le_of_ble_eq_true rfl⟩ ⟨Nat.le_of_ble_eq_true rfl, Nat.le_of_ble_eq_true rfl⟩ (Nat.le_of_ble_eq_true rfl) rfl rfl dL_change_192 ?_
                      obtain ⟨v159, hv159, hf⟩ := bind_some hf
                      try dsimp only at hf
                      refine G.callS C (st := [.int (v103), .int (v102), .ref (x0)]) (st2 := [.int (v159), .int (v103), .int (v102), .ref (x0)]) (ct_L_low hv159) m9_330 m9_331 m9_64 m9_332 kd_L_low ⟨Nat.le_of_ble_eq_true rfl, Nat.le_of_ble_eq_true rfl⟩ ⟨Nat.le_of_ble_eq_true rfl, Nat.le_of_ble_eq_true rfl⟩ (Nat.le_of_ble_eq_true rfl) rfl rfl dL_change_195 ?_
                      obtain ⟨q160, hq160, hf⟩ := bind_some hf
                      try dsimp only at hf
                      refine G.callL0 C TT (st := []) (st2 := [.int (q160.1)]) (cl_L_lays hq160) m9_366 m9_367 m9_64 m9_368 kd_L_lays ⟨Nat.le_of_ble_eq_true rfl, Nat.le_of_ble_eq_true rfl⟩ ⟨Nat.le_of_ble_eq_true rfl, Nat.le_of_ble_eq_true rfl⟩ (Nat.le_of_ble_eq_true rfl) rfl rfl dL_change_198 ?_
                      refine G.if_eq (tgt := 208) C dL_change_201 (by decide) hf (fun c161 hf => ?_) (fun c161 hf => ?_)
                      · refine G.iconst (v := 0) C dL_change_208 (by decide) ?_
                        refine G.sub C [] (lv' := []) rfl ?_
                        exact hj209 _ _ hf
                      · refine G.sub C [] (lv' := []) rfl ?_
                        exact hj204 _ hf
                  · rw [if_neg c157] at hf
                    by_cases c163 : v104 = 8
                    · rw [if_pos c163] at hf
                      refine G.tswIn (tgt := 210) (off := 170) C c163 dL_change_40 (by decide) (by decide) rfl (by decide) ?_
                      refine G.iload_n C 6 dL_change_210 rfl rfl ?_
                      refine G.if_ne (tgt := 218) C dL_change_211 (by decide) hf (fun c165 hf => ?_) (fun c165 hf => ?_)
                      · refine G.aload_n C 3 dL_change_218 rfl rfl ?_
                        refine G.iload C 2 dL_change_219 rfl ?_
                        refine G.iload C 1 dL_change_221 rfl ?_
                        refine G.iconst (v := 1) C dL_change_223 (by decide) ?_
                        obtain ⟨q164, hq164, hf⟩ := bind_some hf
                        try dsimp only at hf
                        have hq164 := okL9_at hq164
                        refine G.callX9 C TT (st := []) (st2 := [.int (q164)]) (cx_X5_hueOf hq164) rfl (ko_X5_hueOf hq164) rfl m9_191 m9_192 m9_193 m9_2 m9_194 kd_X5_hueOf ⟨Nat.le_of_ble_eq_true rfl, Nat.le_of_ble_eq_true rfl⟩ ⟨Nat.le_of_ble_eq_true rfl, Nat.le_of_ble_eq_true rfl⟩ (Nat.le_of_ble_eq_true rfl) rfl rfl dL_change_224 ?_
                        refine G.sub C [3, 2, 1] (lv' := [(0, .ref (x0)), (4, .int (v102)), (5, .int (v103))]) rfl ?_
                        exact hj227 _ _ _ _ hf
                      · refine G.iconst (v := (-1)) C dL_change_214 (by decide) ?_
                        refine G.goto (tgt := 227) C dL_change_215 (by decide) ?_
                        refine G.sub C [3, 2, 1] (lv' := [(0, .ref (x0)), (4, .int (v102)), (5, .int (v103))]) rfl ?_
                        exact hj227 _ _ _ _ hf
                    · rw [if_neg c163] at hf
                      by_cases c166 : v104 = 9
                      · rw [if_pos c166] at hf
                        refine G.tswIn (tgt := 266) (off := 226) C c166 dL_change_40 (by decide) (by decide) rfl (by decide) ?_
                        refine G.iconst (v := 0) C dL_change_266 (by decide) ?_
                        refine G.istore (lv' := [(7, .int ((0 : Int32))), (6, .int ((0 : Int32))), (5, .int (v103)), (4, .int (v102)), (0, .ref (x0)), (1, .int (x1)), (2, .int (x2)), (3, .int (x3))]) C dL_change_267 (by decide) rfl ?_
                        refine G.iconst (v := 0) C dL_change_269 (by decide) ?_
                        refine G.istore (lv' := [(8, .int ((0 : Int32))), (7, .int ((0 : Int32))), (6, .int ((0 : Int32))), (5, .int (v103)), (4, .int (v102)), (0, .ref (x0)), (1, .int (x1)), (2, .int (x2)), (3, .int (x3))]) C dL_change_270 (by decide) rfl ?_
                        obtain ⟨z167, hlp167, hfo167⟩ := bind_some hf
                        clear hf
                        have hloop167 : ∀ (k : Nat), ∀ (x7 : Int32) (x8 : Int32), (lpn (f_L_change_L272 (h) (x0) (x2) (x3) (v103)) k (x7, x8)) = some z167 → G p l e ({ frames := 9, cells := 1, slots := 60, locals := 173 } : Room) s m args below meth c 10 g X h 0 0 (MQ below (QW g X h s.heap.size (some (.int r.1)) r.2) args s 1 60 (AF X h s.heap.size)) 272 [(0, .ref (x0)), (2, .int (x2)), (3, .int (x3)), (5, .int (v103)), (7, .int (x7)), (8, .int (x8))] [] h := by
                          intro k
                          induction k with
                          | zero => intro x7 x8 hlp167; exact (lpn_0 hlp167).elim
                          | succ k ih167 =>
                            intro x7 x8 hlp167
                            obtain ⟨y167, hf, hlp167⟩ := lpn_s hlp167
                            unfold f_L_change_L272 at hf
                            try dsimp only at hf
                            have hj300 : ∀ (x8 : Int32) (k0 : Int32), f_L_change_J300 h (x0) (x2) (x3) (v103) (x8) k0 = some y167 → G p l e ({ frames := 9, cells := 1, slots := 60, locals := 173 } : Room) s m args below meth c 10 g X h 0 0 (MQ below (QW g X h s.heap.size (some (.int r.1)) r.2) args s 1 60 (AF X h s.heap.size)) 300 [(0, .ref (x0)), (2, .int (x2)), (3, .int (x3)), (5, .int (v103)), (8, .int (x8))] [.int (k0)] h := by
                              intro x8 k0 hf
                              unfold f_L_change_J300 at hf
                              refine G.istore (lv' := [(7, .int (k0)), (0, .ref (x0)), (2, .int (x2)), (3, .int (x3)), (5, .int (v103)), (8, .int (x8))]) C dL_change_300 (by decide) rfl ?_
                              refine G.iinc (k := 5) (v := (x8 + 1)) (lv' := [(8, .int ((x8 + 1))), (7, .int (k0)), (0, .ref (x0)), (2, .int (x2)), (3, .int (x3)), (5, .int (v103))]) C dL_change_302 rfl rfl (by decide) rfl ?_
                              refine G.goto (tgt := 272) C dL_change_305 (by decide) ?_
                              cases hf
                              refine G.sub C [2, 3, 4, 5, 1, 0] (lv' := [(0, .ref (x0)), (2, .int (x2)), (3, .int (x3)), (5, .int (v103)), (7, .int (k0)), (8, .int ((x8 + 1)))]) rfl ?_
                              exact ih167 _ _ hlp167
                            have hj295 : ∀ (x8 : Int32), f_L_change_J295 h (x0) (x2) (x3) (v103) (x8) = some y167 → G p l e ({ frames := 9, cells := 1, slots := 60, locals := 173 } : Room) s m args below meth c 10 g X h 0 0 (MQ below (QW g X h s.heap.size (some (.int r.1)) r.2) args s 1 60 (AF X h s.heap.size)) 295 [(0, .ref (x0)), (2, .int (x2)), (3, .int (x3)), (5, .int (v103)), (8, .int (x8))] [] h := by
                              intro x8 hf
                              unfold f_L_change_J295 at hf
                              refine G.iconst (v := 1) C dL_change_295 (by decide) ?_
                              refine G.goto (tgt := 300) C dL_change_296 (by decide) ?_
                              refine G.sub C [0, 1, 2, 3, 4] (lv' := [(0, .ref (x0)), (2, .int (x2)), (3, .int (x3)), (5, .int (v103)), (8, .int (x8))]) rfl ?_
                              exact hj300 _ _ hf
                            refine G.iload C 5 dL_change_272 rfl ?_
                            refine G.iload_n C 2 dL_change_274 rfl rfl ?_
                            refine G.icmp_ge (tgt := 308) C dL_change_275 (by decide) hf (fun c171 hf => ?_) (fun c171 hf => ?_)
                            · cases hf
                              change some _ = some _ at hlp167
                              have hf := hfo167
                              try rw [← Option.some.inj hlp167] at hf
                              try dsimp only at hf
                              refine G.sub C [0, 1, 3, 4] (lv' := [(0, .ref (x0)), (2, .int (x2)), (5, .int (v103)), (7, .int (x7))]) rfl ?_
                              exact hj308 _ _ _ _ hf
                            · refine G.iload C 4 dL_change_278 rfl ?_
                              refine G.if_ne (tgt := 295) C dL_change_280 (by decide) hf (fun c170 hf => ?_) (fun c170 hf => ?_)
                              · refine G.sub C [0, 1, 2, 3, 5] (lv' := [(0, .ref (x0)), (2, .int (x2)), (3, .int (x3)), (5, .int (v103)), (8, .int (x8))]) rfl ?_
                                exact hj295 _ hf
                              · refine G.aload_n C 0 dL_change_283 rfl rfl ?_
                                refine G.iload C 5 dL_change_284 rfl ?_
                                refine G.iload C 3 dL_change_286 rfl ?_
                                refine G.iconst (v := 0) C dL_change_288 (by decide) ?_
                                obtain ⟨q168, hq168, hf⟩ := bind_some hf
                                try dsimp only at hf
                                have hq168 := okL9_at hq168
                                refine G.callX9 C TT (st := []) (st2 := [.int (q168)]) (cx_X5_hueOf hq168) rfl (ko_X5_hueOf hq168) rfl m9_191 m9_192 m9_193 m9_2 m9_194 kd_X5_hueOf ⟨Nat.le_of_ble_eq_true rfl, Nat.le_of_ble_eq_true rfl⟩ ⟨Nat.le_of_ble_eq_true rfl, Nat.le_of_ble_eq_true rfl⟩ (Nat.le_of_ble_eq_true rfl) rfl rfl dL_change_289 ?_
                                refine G.if_lt (tgt := 299) C dL_change_292 (by decide) hf (fun c169 hf => ?_) (fun c169 hf => ?_)
                                · refine G.iconst (v := 0) C dL_change_299 (by decide) ?_
                                  refine G.sub C [0, 1, 2, 3, 5] (lv' := [(0, .ref (x0)), (2, .int (x2)), (3, .int (x3)), (5, .int (v103)), (8, .int (x8))]) rfl ?_
                                  exact hj300 _ _ hf
                                · refine G.sub C [0, 1, 2, 3, 5] (lv' := [(0, .ref (x0)), (2, .int (x2)), (3, .int (x3)), (5, .int (v103)), (8, .int (x8))]) rfl ?_
                                  exact hj295 _ hf
                        refine G.sub C [5, 7, 8, 3, 1, 0] (lv' := [(0, .ref (x0)), (2, .int (x2)), (3, .int (x3)), (5, .int (v103)), (7, .int ((0 : Int32))), (8, .int ((0 : Int32)))]) rfl ?_
                        exact hloop167 LF _ _ hlp167
                      · rw [if_neg c166] at hf
                        by_cases c172 : v104 = 10
                        · rw [if_pos c172] at hf
                          refine G.tswIn (tgt := 367) (off := 327) C c172 dL_change_40 (by decide) (by decide) rfl (by decide) ?_
                          refine G.iload_n C 6 dL_change_367 rfl rfl ?_
                          refine G.if_eq (tgt := 394) C dL_change_368 (by decide) hf (fun c177 hf => ?_) (fun c177 hf => ?_)
                          · refine G.sub C [] (lv' := []) rfl ?_
                            exact hj394 _ hf
                          · refine G.aload_n C 3 dL_change_371 rfl rfl ?_
                            refine G.iload C 2 dL_change_372 rfl ?_
                            refine G.iconst (v := 1) C dL_change_374 (by decide) ?_
                            refine G.iload_n C 5 dL_change_375 rfl rfl ?_
                            refine G.iconst (v := 3) C dL_change_376 (by decide) ?_
                            refine G.ishr C dL_change_377 ?_
                            refine G.aload_n C 3 dL_change_378 rfl rfl ?_
                            refine G.iload C 2 dL_change_379 rfl ?_
                            obtain ⟨q173, hq173, hf⟩ := bind_some hf
                            try dsimp only at hf
                            have hq173 := okL9_at hq173
                            refine G.callX9 C TT (st := [.int ((x2 >>> ((3 : Int32) &&& 31))), .int ((1 : Int32)), .int (v102), .ref (x0)]) (st2 := [.int (q173), .int ((x2 >>> ((3 : Int32) &&& 31))), .int ((1 : Int32)), .int (v102), .ref (x0)]) (cx_X5_greatest hq173) rfl (ko_X5_greatest hq173) rfl m9_259 m9_260 m9_261 m9_2 m9_262 kd_X5_greatest ⟨Nat.le_of_ble_eq_true rfl, Nat.le_of_ble_eq_true rfl⟩ ⟨Nat.le_of_ble_eq_true rfl, Nat.le_of_ble_eq_true rfl⟩ (Nat.le_of_ble_eq_true rfl) rfl rfl dL_change_381 ?_
                            obtain ⟨v174, hv174, hf⟩ := bind_some hf
                            try dsimp only at hf
                            refine G.callS C (st := [.int ((1 : Int32)), .int (v102), .ref (x0)]) (st2 := [.int (v174), .int ((1 : Int32)), .int (v102), .ref (x0)]) (ct_L_low hv174) m9_330 m9_331 m9_64 m9_332 kd_L_low ⟨Nat.le_of_ble_eq_true rfl, Nat.le_of_ble_eq_true rfl⟩ ⟨Nat.le_of_ble_eq_true rfl, Nat.le_of_ble_eq_true rfl⟩ (Nat.le_of_ble_eq_true rfl) rfl rfl dL_change_384 ?_
                            refine G.iadd C dL_change_387 ?_
                            obtain ⟨q175, hq175, hf⟩ := bind_some hf
                            try dsimp only at hf
                            refine G.callL0 C TT (st := []) (st2 := [.int (q175.1)]) (cl_L_stretches hq175) m9_396 m9_397 m9_64 m9_398 kd_L_stretches ⟨Nat.le_of_ble_eq_true rfl, Nat.le_of_ble_eq_true rfl⟩ ⟨Nat.le_of_ble_eq_true rfl, Nat.le_of_ble_eq_true rfl⟩ (Nat.le_of_ble_eq_true rfl) rfl rfl dL_change_388 ?_
                            refine G.if_eq (tgt := 398) C dL_change_391 (by decide) hf (fun c176 hf => ?_) (fun c176 hf => ?_)
                            · refine G.iconst (v := 0) C dL_change_398 (by decide) ?_
                              refine G.sub C [] (lv' := []) rfl ?_
                              exact hj399 _ _ hf
                            · refine G.sub C [] (lv' := []) rfl ?_
                              exact hj394 _ hf
                        · rw [if_neg c172] at hf
                          by_cases c178 : v104 = 11
                          · rw [if_pos c178] at hf
                            refine G.tswIn (tgt := 400) (off := 360) C c178 dL_change_40 (by decide) (by decide) rfl (by decide) ?_
                            refine G.iload_n C 6 dL_change_400 rfl rfl ?_
                            refine G.if_eq (tgt := 446) C dL_change_401 (by decide) hf (fun c186 hf => ?_) (fun c186 hf => ?_)
                            · refine G.sub C [] (lv' := []) rfl ?_
                              exact hj446 _ hf
                            · refine G.iload_n C 6 dL_change_404 rfl rfl ?_
                              refine G.iconst (v := 4) C dL_change_405 (by decide) ?_
                              refine G.icmp_eq (tgt := 446) C dL_change_406 (by decide) hf (fun c185 hf => ?_) (fun c185 hf => ?_)
                              · refine G.sub C [] (lv' := []) rfl ?_
                                exact hj446 _ hf
                              · refine G.aload_n C 3 dL_change_409 rfl rfl ?_
                                refine G.iload C 2 dL_change_410 rfl ?_
                                refine G.iconst (v := 0) C dL_change_412 (by decide) ?_
                                obtain ⟨q179, hq179, hf⟩ := bind_some hf
                                try dsimp only at hf
                                have hq179 := okL9_at hq179
                                refine G.callX9 C TT (st := []) (st2 := [.int (q179)]) (cx_X5_ropeOf hq179) rfl (ko_X5_ropeOf hq179) rfl m9_139 m9_140 m9_141 m9_2 m9_142 kd_X5_ropeOf ⟨Nat.le_of_ble_eq_true rfl, Nat.le_of_ble_eq_true rfl⟩ ⟨Nat.le_of_ble_eq_true rfl, Nat.le_of_ble_eq_true rfl⟩ (Nat.le_of_ble_eq_true rfl) rfl rfl dL_change_413 ?_
                                refine G.iconst (v := 1) C dL_change_416 (by decide) ?_
                                refine G.icmp_eq (tgt := 446) C dL_change_417 (by decide) hf (fun c184 hf => ?_) (fun c184 hf => ?_)
                                · refine G.sub C [] (lv' := []) rfl ?_
                                  exact hj446 _ hf
                                · refine G.aload_n C 3 dL_change_420 rfl rfl ?_
                                  refine G.iload C 2 dL_change_421 rfl ?_
                                  refine G.iconst (v := 1) C dL_change_423 (by decide) ?_
                                  refine G.iload_n C 5 dL_change_424 rfl rfl ?_
                                  refine G.iconst (v := 3) C dL_change_425 (by decide) ?_
                                  refine G.ishr C dL_change_426 ?_
                                  refine G.aload_n C 3 dL_change_427 rfl rfl ?_
                                  refine G.iload C 2 dL_change_428 rfl ?_
                                  refine G.iconst (v := 0) C dL_change_430 (by decide) ?_
                                  obtain ⟨q180, hq180, hf⟩ := bind_some hf
                                  try dsimp only at hf
                                  have hq180 := okL9_at hq180
                                  refine G.callX9 C TT (st := [.int ((x2 >>> ((3 : Int32) &&& 31))), .int ((1 : Int32)), .int (v102), .ref (x0)]) (st2 := [.int (q180), .int ((x2 >>> ((3 : Int32) &&& 31))), .int ((1 : Int32)), .int (v102), .ref (x0)]) (cx_X5_ropeOf hq180) rfl (ko_X5_ropeOf hq180) rfl m9_139 m9_140 m9_141 m9_2 m9_142 kd_X5_ropeOf ⟨Nat.le_of_ble_eq_true rfl, Nat.le_of_ble_eq_true rfl⟩ ⟨Nat.le_of_ble_eq_true rfl, Nat.le_of_ble_eq_true rfl⟩ (Nat.le_of_ble_eq_true rfl) rfl rfl dL_change_431 ?_
                                  refine G.iconst (v := 1) C dL_change_434 (by decide) ?_
                                  refine G.isub C dL_change_435 ?_
                                  obtain ⟨v181, hv181, hf⟩ := bind_some hf
                                  try dsimp only at hf
                                  refine G.callS C (st := [.int ((1 : Int32)), .int (v102), .ref (x0)]) (st2 := [.int (v181), .int ((1 : Int32)), .int (v102), .ref (x0)]) (ct_L_low hv181) m9_330 m9_331 m9_64 m9_332 kd_L_low ⟨Nat.le_of_ble_eq_true rfl, Nat.le_of_ble_eq_true rfl⟩ ⟨Nat.le_of_ble_eq_true rfl, Nat.le_of_ble_eq_true rfl⟩ (Nat.le_of_ble_eq_true rfl) rfl rfl dL_change_436 ?_
                                  refine G.iadd C dL_change_439 ?_
                                  obtain ⟨q182, hq182, hf⟩ := bind_some hf
                                  try dsimp only at hf
                                  refine G.callL0 C TT (st := []) (st2 := [.int (q182.1)]) (cl_L_cuts hq182) m9_408 m9_409 m9_64 m9_410 kd_L_cuts ⟨Nat.le_of_ble_eq_true rfl, Nat.le_of_ble_eq_true rfl⟩ ⟨Nat.le_of_ble_eq_true rfl, Nat.le_of_ble_eq_true rfl⟩ (Nat.le_of_ble_eq_true rfl) rfl rfl dL_change_440 ?_
                                  refine G.if_eq (tgt := 450) C dL_change_443 (by decide) hf (fun c183 hf => ?_) (fun c183 hf => ?_)
                                  · refine G.iconst (v := 0) C dL_change_450 (by decide) ?_
                                    refine G.sub C [] (lv' := []) rfl ?_
                                    exact hj451 _ _ hf
                                  · refine G.sub C [] (lv' := []) rfl ?_
                                    exact hj446 _ hf
                          · rw [if_neg c178] at hf
                            by_cases c187 : v104 = 12
                            · rw [if_pos c187] at hf
                              refine G.tswIn (tgt := 452) (off := 412) C c187 dL_change_40 (by decide) (by decide) rfl (by decide) ?_
                              refine G.iload_n C 6 dL_change_452 rfl rfl ?_
                              refine G.if_eq (tgt := 465) C dL_change_453 (by decide) hf (fun c190 hf => ?_) (fun c190 hf => ?_)
                              · refine G.sub C [] (lv' := []) rfl ?_
                                exact hj465 _ _ (by omega) (by omega) _ hf
                              · refine G.aload_n C 3 dL_change_456 rfl rfl ?_
                                refine G.iload C 2 dL_change_457 rfl ?_
                                obtain ⟨q188, hq188, hf⟩ := bind_some hf
                                try dsimp only at hf
                                refine G.callL C TT (st := []) (st2 := [.int (q188.1)]) (cl_L_turns hq188) m9_443 m9_444 m9_64 m9_445 kd_L_turns ⟨Nat.le_of_ble_eq_true rfl, Nat.le_of_ble_eq_true rfl⟩ ⟨Nat.le_of_ble_eq_true rfl, Nat.le_of_ble_eq_true rfl⟩ (Nat.le_of_ble_eq_true rfl) rfl rfl dL_change_459 ?_
                                refine G.if_eq (tgt := 469) C dL_change_462 (by decide) hf (fun c189 hf => ?_) (fun c189 hf => ?_)
                                · refine G.iconst (v := 0) C dL_change_469 (by decide) ?_
                                  refine G.sub C [] (lv' := []) rfl ?_
                                  exact hj470 _ _ (by omega) (by omega) _ _ hf
                                · refine G.sub C [] (lv' := []) rfl ?_
                                  exact hj465 _ _ (by omega) (by omega) _ hf
                            · rw [if_neg c187] at hf
                              by_cases c191 : v104 = 13
                              · rw [if_pos c191] at hf
                                refine G.tswIn (tgt := 471) (off := 431) C c191 dL_change_40 (by decide) (by decide) rfl (by decide) ?_
                                refine G.iload_n C 6 dL_change_471 rfl rfl ?_
                                refine G.if_ne (tgt := 479) C dL_change_472 (by decide) hf (fun c193 hf => ?_) (fun c193 hf => ?_)
                                · refine G.iload_n C 5 dL_change_479 rfl rfl ?_
                                  refine G.iconst (v := 2) C dL_change_480 (by decide) ?_
                                  refine G.ishr C dL_change_481 ?_
                                  refine G.iload_n C 6 dL_change_482 rfl rfl ?_
                                  obtain ⟨v192, hv192, hf⟩ := bind_some hf
                                  try dsimp only at hf
                                  refine G.callS C (st := []) (st2 := [.int (v192)]) (ct_L_low hv192) m9_330 m9_331 m9_64 m9_332 kd_L_low ⟨Nat.le_of_ble_eq_true rfl, Nat.le_of_ble_eq_true rfl⟩ ⟨Nat.le_of_ble_eq_true rfl, Nat.le_of_ble_eq_true rfl⟩ (Nat.le_of_ble_eq_true rfl) rfl rfl dL_change_483 ?_
                                  refine G.sub C [3, 6, 2] (lv' := [(0, .ref (x0)), (3, .int (x3)), (4, .int (v102))]) rfl ?_
                                  exact hj486 _ _ _ _ hf
                                · refine G.iconst (v := 0) C dL_change_475 (by decide) ?_
                                  refine G.goto (tgt := 486) C dL_change_476 (by decide) ?_
                                  refine G.sub C [3, 6, 2] (lv' := [(0, .ref (x0)), (3, .int (x3)), (4, .int (v102))]) rfl ?_
                                  exact hj486 _ _ _ _ hf
                              · rw [if_neg c191] at hf
                                by_cases c194 : v104 = 14
                                · rw [if_pos c194] at hf
                                  refine G.tswIn (tgt := 471) (off := 431) C c194 dL_change_40 (by decide) (by decide) rfl (by decide) ?_
                                  refine G.iload_n C 6 dL_change_471 rfl rfl ?_
                                  refine G.if_ne (tgt := 479) C dL_change_472 (by decide) hf (fun c196 hf => ?_) (fun c196 hf => ?_)
                                  · refine G.iload_n C 5 dL_change_479 rfl rfl ?_
                                    refine G.iconst (v := 2) C dL_change_480 (by decide) ?_
                                    refine G.ishr C dL_change_481 ?_
                                    refine G.iload_n C 6 dL_change_482 rfl rfl ?_
                                    obtain ⟨v195, hv195, hf⟩ := bind_some hf
                                    try dsimp only at hf
                                    refine G.callS C (st := []) (st2 := [.int (v195)]) (ct_L_low hv195) m9_330 m9_331 m9_64 m9_332 kd_L_low ⟨Nat.le_of_ble_eq_true rfl, Nat.le_of_ble_eq_true rfl⟩ ⟨Nat.le_of_ble_eq_true rfl, Nat.le_of_ble_eq_true rfl⟩ (Nat.le_of_ble_eq_true rfl) rfl rfl dL_change_483 ?_
                                    refine G.sub C [3, 6, 2] (lv' := [(0, .ref (x0)), (3, .int (x3)), (4, .int (v102))]) rfl ?_
                                    exact hj486 _ _ _ _ hf
                                  · refine G.iconst (v := 0) C dL_change_475 (by decide) ?_
                                    refine G.goto (tgt := 486) C dL_change_476 (by decide) ?_
                                    refine G.sub C [3, 6, 2] (lv' := [(0, .ref (x0)), (3, .int (x3)), (4, .int (v102))]) rfl ?_
                                    exact hj486 _ _ _ _ hf
                                · rw [if_neg c194] at hf
                                  refine G.tswOut (tgt := 558) C dL_change_40 (by have q0 := lv_neT (a := 0) c105 (by decide); have q1 := lv_neT (a := 1) c116 (by decide); have q2 := lv_neT (a := 2) c127 (by decide); have q3 := lv_neT (a := 3) c133 (by decide); have q4 := lv_neT (a := 4) c139 (by decide); have q5 := lv_neT (a := 5) c145 (by decide); have q6 := lv_neT (a := 6) c151 (by decide); have q7 := lv_neT (a := 7) c157 (by decide); have q8 := lv_neT (a := 8) c163 (by decide); have q9 := lv_neT (a := 9) c166 (by decide); have q10 := lv_neT (a := 10) c172 (by decide); have q11 := lv_neT (a := 11) c178 (by decide); have q12 := lv_neT (a := 12) c187 (by decide); have q13 := lv_neT (a := 13) c191 (by decide); have q14 := lv_neT (a := 14) c194 (by decide); omega) (by decide) ?_
                                  refine G.iload_n C 6 dL_change_558 rfl rfl ?_
                                  refine G.if_eq (tgt := 580) C dL_change_559 (by decide) hf (fun c200 hf => ?_) (fun c200 hf => ?_)
                                  · refine G.sub C [] (lv' := []) rfl ?_
                                    exact hj580 _ hf
                                  · refine G.iload_n C 5 dL_change_562 rfl rfl ?_
                                    refine G.iconst (v := 3) C dL_change_563 (by decide) ?_
                                    refine G.iand C dL_change_564 ?_
                                    refine G.if_ne (tgt := 580) C dL_change_565 (by decide) hf (fun c199 hf => ?_) (fun c199 hf => ?_)
                                    · refine G.sub C [] (lv' := []) rfl ?_
                                      exact hj580 _ hf
                                    · refine G.aload_n C 3 dL_change_568 rfl rfl ?_
                                      refine G.iload C 2 dL_change_569 rfl ?_
                                      obtain ⟨q197, hq197, hf⟩ := bind_some hf
                                      try dsimp only at hf
                                      have hq197 := okW_at hq197
                                      refine G.callX9 C TT (st := []) (st2 := [.int (q197.1)]) (cx_X5_drop hq197) rfl (ko_X5_drop hq197) rfl m9_458 m9_459 m9_460 m9_2 m9_461 kd_X5_drop ⟨Nat.le_of_ble_eq_true rfl, Nat.le_of_ble_eq_true rfl⟩ ⟨Nat.le_of_ble_eq_true rfl, Nat.le_of_ble_eq_true rfl⟩ (Nat.le_of_ble_eq_true rfl) rfl rfl dL_change_571 ?_
                                      refine G.iload_n C 6 dL_change_574 rfl rfl ?_
                                      refine G.iconst (v := 1) C dL_change_575 (by decide) ?_
                                      refine G.isub C dL_change_576 ?_
                                      refine G.icmp_ne (tgt := 584) C dL_change_577 (by decide) hf (fun c198 hf => ?_) (fun c198 hf => ?_)
                                      · refine G.iconst (v := 0) C dL_change_584 (by decide) ?_
                                        refine G.sub C [] (lv' := []) rfl ?_
                                        exact hj585 _ _ hf
                                      · refine G.sub C [] (lv' := []) rfl ?_
                                        exact hj580 _ hf
  refine G.sub C [0, 1, 2] (lv' := [(0, .ref (a0)), (1, .int (a1)), (2, .int (a2))]) rfl ?_
  refine G.aload_n C 0 dL_change_0 rfl rfl ?_
  refine G.iconst (v := 0) C dL_change_1 (by decide) ?_
  obtain ⟨q1, hq1, hf⟩ := bind_some hf
  try dsimp only at hf
  have hq1 := okL9_at hq1
  refine G.callX9 C TT (st := []) (st2 := [.int (q1)]) (cx_X5_count hq1) rfl (ko_X5_count hq1) rfl m9_66 m9_67 m9_68 m9_2 m9_69 kd_X5_count ⟨Nat.le_of_ble_eq_true rfl, Nat.le_of_ble_eq_true rfl⟩ ⟨Nat.le_of_ble_eq_true rfl, Nat.le_of_ble_eq_true rfl⟩ (Nat.le_of_ble_eq_true rfl) rfl rfl dL_change_2 ?_
  refine G.istore_n (lv' := [(3, .int (q1)), (0, .ref (a0)), (1, .int (a1)), (2, .int (a2))]) C dL_change_5 rfl (by decide) rfl ?_
  refine G.iload_n C 3 dL_change_6 rfl rfl ?_
  refine G.iload_n C 0 dL_change_7 rfl rfl ?_
  refine G.if_ne (tgt := 15) C dL_change_8 (by decide) hf (fun c2 hf => ?_) (fun c2 hf => ?_)
  · refine G.iload_n C 0 dL_change_15 rfl rfl ?_
    refine G.sub C [1, 2, 3, 0] (lv' := [(0, .ref (a0)), (1, .int (a1)), (2, .int (a2)), (3, .int (q1))]) rfl ?_
    exact hj16 _ _ _ _ _ _ hf
  · refine G.iconst (v := 1) C dL_change_11 (by decide) ?_
    refine G.goto (tgt := 16) C dL_change_12 (by decide) ?_
    refine G.sub C [1, 2, 3, 0] (lv' := [(0, .ref (a0)), (1, .int (a1)), (2, .int (a2)), (3, .int (q1))]) rfl ?_
    exact hj16 _ _ _ _ _ _ hf
theorem kd_L_arePhases : yL_arePhases.cls ≠ "java/lang/invoke/MethodHandle" ∧ yL_arePhases.cls ≠ "java/lang/invoke/VarHandle" ∧ (parseMethodDescriptor yL_arePhases.desc).map (fun d => d.parameters.length) = some 3 := by decide +kernel
set_option maxRecDepth 20000 in
set_option maxHeartbeats 8000000 in
theorem cl_L_arePhases {l : Launch} {h : PH} {a0 : Nat} {a1 : Int32} {a2 : Int32} {r : Int32} (hf : f_L_arePhases h a0 a1 a2 = some r) : CL l yL_arePhases cL_arePhases 7 (some .boolean) 8 136 0 0 [.ref (a0), .int (a1), .int (a2)] h (some (.int r)) h := by
  refine CL.of (own := RL) rfl (by decide) (Nat.le_of_ble_eq_true rfl) ?_
  intro p e R s m args below meth c g X hR C TT
  subst hR
  unfold f_L_arePhases at hf
  have hj110 : ∀ (k0 : Int32), f_L_arePhases_J110 h k0 = some r → G p l e ({ frames := 8, cells := 0, slots := 0, locals := 136 } : Room) s m args below meth c 7 g X h 0 0 (MQ below (QW g X h s.heap.size (some (.int r)) h) args s 0 0 (AF X h s.heap.size)) 110 [] [.int (k0)] h := by
    intro k0 hf
    unfold f_L_arePhases_J110 at hf
    obtain ⟨c8, hf⟩ := gd_ok hf
    cases hf
    exact G.zretC C ⟨by omega, by omega⟩ rfl (z01_n c8) dL_arePhases_110
  have hj109 : f_L_arePhases_J109 h = some r → G p l e ({ frames := 8, cells := 0, slots := 0, locals := 136 } : Room) s m args below meth c 7 g X h 0 0 (MQ below (QW g X h s.heap.size (some (.int r)) h) args s 0 0 (AF X h s.heap.size)) 109 [] [] h := by
    intro hf
    unfold f_L_arePhases_J109 at hf
    refine G.iconst (v := 0) C dL_arePhases_109 (by decide) ?_
    refine G.sub C [] (lv' := []) rfl ?_
    exact hj110 _ hf
  have hj70 : ∀ (x0 : Nat) (x1 : Int32) (x2 : Int32) (x3 : Int32) (x4 : Int32), f_L_arePhases_J70 h (x0) (x1) (x2) (x3) (x4) = some r → G p l e ({ frames := 8, cells := 0, slots := 0, locals := 136 } : Room) s m args below meth c 7 g X h 0 0 (MQ below (QW g X h s.heap.size (some (.int r)) h) args s 0 0 (AF X h s.heap.size)) 70 [(0, .ref (x0)), (1, .int (x1)), (2, .int (x2)), (3, .int (x3)), (4, .int (x4))] [] h := by
    intro x0 x1 x2 x3 x4 hf
    unfold f_L_arePhases_J70 at hf
    refine G.aload_n C 0 dL_arePhases_70 rfl rfl ?_
    refine G.iload_n C 1 dL_arePhases_71 rfl rfl ?_
    refine G.iload_n C 2 dL_arePhases_72 rfl rfl ?_
    refine G.iconst (v := 0) C dL_arePhases_73 (by decide) ?_
    obtain ⟨q9, hq9, hf⟩ := bind_some hf
    try dsimp only at hf
    have hq9 := okL9_at hq9
    refine G.callX9 C TT (st := []) (st2 := [.int (q9)]) (cx_X5_phases hq9) rfl (ko_X5_phases hq9) rfl m9_219 m9_220 m9_221 m9_2 m9_222 kd_X5_phases ⟨Nat.le_of_ble_eq_true rfl, Nat.le_of_ble_eq_true rfl⟩ ⟨Nat.le_of_ble_eq_true rfl, Nat.le_of_ble_eq_true rfl⟩ (Nat.le_of_ble_eq_true rfl) rfl rfl dL_arePhases_74 ?_
    refine G.iload_n C 3 dL_arePhases_77 rfl rfl ?_
    refine G.icmp_ne (tgt := 109) C dL_arePhases_78 (by decide) hf (fun c14 hf => ?_) (fun c14 hf => ?_)
    · refine G.sub C [] (lv' := []) rfl ?_
      exact hj109  hf
    · refine G.aload_n C 0 dL_arePhases_81 rfl rfl ?_
      refine G.iload_n C 1 dL_arePhases_82 rfl rfl ?_
      refine G.iload_n C 2 dL_arePhases_83 rfl rfl ?_
      refine G.iconst (v := 1) C dL_arePhases_84 (by decide) ?_
      obtain ⟨q10, hq10, hf⟩ := bind_some hf
      try dsimp only at hf
      have hq10 := okL9_at hq10
      refine G.callX9 C TT (st := []) (st2 := [.int (q10)]) (cx_X5_phases hq10) rfl (ko_X5_phases hq10) rfl m9_219 m9_220 m9_221 m9_2 m9_222 kd_X5_phases ⟨Nat.le_of_ble_eq_true rfl, Nat.le_of_ble_eq_true rfl⟩ ⟨Nat.le_of_ble_eq_true rfl, Nat.le_of_ble_eq_true rfl⟩ (Nat.le_of_ble_eq_true rfl) rfl rfl dL_arePhases_85 ?_
      refine G.iload C 4 dL_arePhases_88 rfl ?_
      refine G.icmp_ne (tgt := 109) C dL_arePhases_90 (by decide) hf (fun c13 hf => ?_) (fun c13 hf => ?_)
      · refine G.sub C [] (lv' := []) rfl ?_
        exact hj109  hf
      · refine G.aload_n C 0 dL_arePhases_93 rfl rfl ?_
        refine G.iload_n C 1 dL_arePhases_94 rfl rfl ?_
        refine G.iload_n C 2 dL_arePhases_95 rfl rfl ?_
        refine G.iconst (v := 2) C dL_arePhases_96 (by decide) ?_
        obtain ⟨q11, hq11, hf⟩ := bind_some hf
        try dsimp only at hf
        have hq11 := okL9_at hq11
        refine G.callX9 C TT (st := []) (st2 := [.int (q11)]) (cx_X5_phases hq11) rfl (ko_X5_phases hq11) rfl m9_219 m9_220 m9_221 m9_2 m9_222 kd_X5_phases ⟨Nat.le_of_ble_eq_true rfl, Nat.le_of_ble_eq_true rfl⟩ ⟨Nat.le_of_ble_eq_true rfl, Nat.le_of_ble_eq_true rfl⟩ (Nat.le_of_ble_eq_true rfl) rfl rfl dL_arePhases_97 ?_
        refine G.iload C 4 dL_arePhases_100 rfl ?_
        refine G.icmp_ne (tgt := 109) C dL_arePhases_102 (by decide) hf (fun c12 hf => ?_) (fun c12 hf => ?_)
        · refine G.sub C [] (lv' := []) rfl ?_
          exact hj109  hf
        · refine G.iconst (v := 1) C dL_arePhases_105 (by decide) ?_
          refine G.goto (tgt := 110) C dL_arePhases_106 (by decide) ?_
          refine G.sub C [] (lv' := []) rfl ?_
          exact hj110 _ hf
  refine G.sub C [0, 1, 2] (lv' := [(0, .ref (a0)), (1, .int (a1)), (2, .int (a2))]) rfl ?_
  refine G.iconst (v := 0) C dL_arePhases_0 (by decide) ?_
  refine G.istore_n (lv' := [(3, .int ((0 : Int32))), (0, .ref (a0)), (1, .int (a1)), (2, .int (a2))]) C dL_arePhases_1 rfl (by decide) rfl ?_
  refine G.iconst (v := (-1)) C dL_arePhases_2 (by decide) ?_
  refine G.istore (lv' := [(4, .int (((-1) : Int32))), (3, .int ((0 : Int32))), (0, .ref (a0)), (1, .int (a1)), (2, .int (a2))]) C dL_arePhases_3 (by decide) rfl ?_
  refine G.aload_n C 2 dL_arePhases_5 rfl rfl ?_
  refine G.iload_n C 4 dL_arePhases_6 rfl rfl ?_
  obtain ⟨q1, hq1, hf⟩ := bind_some hf
  try dsimp only at hf
  have hq1 := okL9_at hq1
  refine G.callX9 C TT (st := []) (st2 := [.int (q1)]) (cx_X5_gapOf hq1) rfl (ko_X5_gapOf hq1) rfl m9_210 m9_211 m9_212 m9_2 m9_213 kd_X5_gapOf ⟨Nat.le_of_ble_eq_true rfl, Nat.le_of_ble_eq_true rfl⟩ ⟨Nat.le_of_ble_eq_true rfl, Nat.le_of_ble_eq_true rfl⟩ (Nat.le_of_ble_eq_true rfl) rfl rfl dL_arePhases_7 ?_
  refine G.iconst (v := 1) C dL_arePhases_10 (by decide) ?_
  refine G.isub C dL_arePhases_11 ?_
  refine G.istore (lv' := [(5, .int ((q1 - (1 : Int32)))), (4, .int (((-1) : Int32))), (3, .int ((0 : Int32))), (0, .ref (a0)), (1, .int (a1)), (2, .int (a2))]) C dL_arePhases_12 (by decide) rfl ?_
  obtain ⟨z2, hlp2, hfo2⟩ := bind_some hf
  clear hf
  have hloop2 : ∀ (k : Nat), ∀ (x3 : Int32) (x4 : Int32) (x5 : Int32), (lpn (f_L_arePhases_L14 (h) (a0) (a1) (a2)) k (x3, x4, x5)) = some z2 → G p l e ({ frames := 8, cells := 0, slots := 0, locals := 136 } : Room) s m args below meth c 7 g X h 0 0 (MQ below (QW g X h s.heap.size (some (.int r)) h) args s 0 0 (AF X h s.heap.size)) 14 [(0, .ref (a0)), (1, .int (a1)), (2, .int (a2)), (3, .int (x3)), (4, .int (x4)), (5, .int (x5))] [] h := by
    intro k
    induction k with
    | zero => intro x3 x4 x5 hlp2; exact (lpn_0 hlp2).elim
    | succ k ih2 =>
      intro x3 x4 x5 hlp2
      obtain ⟨y2, hf, hlp2⟩ := lpn_s hlp2
      unfold f_L_arePhases_L14 at hf
      try dsimp only at hf
      have hj62 : ∀ (x3 : Int32) (x5 : Int32) (k0 : Int32), f_L_arePhases_J62 h (a0) (a1) (a2) (x3) (x5) k0 = some y2 → G p l e ({ frames := 8, cells := 0, slots := 0, locals := 136 } : Room) s m args below meth c 7 g X h 0 0 (MQ below (QW g X h s.heap.size (some (.int r)) h) args s 0 0 (AF X h s.heap.size)) 62 [(0, .ref (a0)), (1, .int (a1)), (2, .int (a2)), (3, .int (x3)), (5, .int (x5))] [.int (k0)] h := by
        intro x3 x5 k0 hf
        unfold f_L_arePhases_J62 at hf
        refine G.istore (lv' := [(4, .int (k0)), (0, .ref (a0)), (1, .int (a1)), (2, .int (a2)), (3, .int (x3)), (5, .int (x5))]) C dL_arePhases_62 (by decide) rfl ?_
        refine G.iinc (k := 5) (v := (x5 + (-1))) (lv' := [(5, .int ((x5 + (-1)))), (4, .int (k0)), (0, .ref (a0)), (1, .int (a1)), (2, .int (a2)), (3, .int (x3))]) C dL_arePhases_64 rfl rfl (by decide) rfl ?_
        refine G.goto (tgt := 14) C dL_arePhases_67 (by decide) ?_
        cases hf
        refine G.sub C [2, 3, 4, 5, 1, 0] (lv' := [(0, .ref (a0)), (1, .int (a1)), (2, .int (a2)), (3, .int (x3)), (4, .int (k0)), (5, .int ((x5 + (-1))))]) rfl ?_
        exact ih2 _ _ _ hlp2
      have hj48 : ∀ (x4 : Int32) (x5 : Int32) (x6 : Int32) (k0 : Int32) (k1 : Int32), f_L_arePhases_J48 h (a0) (a1) (a2) (x4) (x5) (x6) k0 k1 = some y2 → G p l e ({ frames := 8, cells := 0, slots := 0, locals := 136 } : Room) s m args below meth c 7 g X h 0 0 (MQ below (QW g X h s.heap.size (some (.int r)) h) args s 0 0 (AF X h s.heap.size)) 48 [(0, .ref (a0)), (1, .int (a1)), (2, .int (a2)), (4, .int (x4)), (5, .int (x5)), (6, .int (x6))] [.int (k1), .int (k0)] h := by
        intro x4 x5 x6 k0 k1 hf
        unfold f_L_arePhases_J48 at hf
        refine G.iadd C dL_arePhases_48 ?_
        refine G.istore_n (lv' := [(3, .int ((k0 + k1))), (0, .ref (a0)), (1, .int (a1)), (2, .int (a2)), (4, .int (x4)), (5, .int (x5)), (6, .int (x6))]) C dL_arePhases_49 rfl (by decide) rfl ?_
        refine G.iload C 6 dL_arePhases_50 rfl ?_
        refine G.if_eq (tgt := 60) C dL_arePhases_52 (by decide) hf (fun c3 hf => ?_) (fun c3 hf => ?_)
        · refine G.iload C 4 dL_arePhases_60 rfl ?_
          refine G.sub C [1, 2, 3, 0, 5] (lv' := [(0, .ref (a0)), (1, .int (a1)), (2, .int (a2)), (3, .int ((k0 + k1))), (5, .int (x5))]) rfl ?_
          exact hj62 _ _ _ hf
        · refine G.iload C 5 dL_arePhases_55 rfl ?_
          refine G.goto (tgt := 62) C dL_arePhases_57 (by decide) ?_
          refine G.sub C [1, 2, 3, 0, 5] (lv' := [(0, .ref (a0)), (1, .int (a1)), (2, .int (a2)), (3, .int ((k0 + k1))), (5, .int (x5))]) rfl ?_
          exact hj62 _ _ _ hf
      have hj35 : ∀ (x3 : Int32) (x4 : Int32) (x5 : Int32) (k0 : Int32), f_L_arePhases_J35 h (a0) (a1) (a2) (x3) (x4) (x5) k0 = some y2 → G p l e ({ frames := 8, cells := 0, slots := 0, locals := 136 } : Room) s m args below meth c 7 g X h 0 0 (MQ below (QW g X h s.heap.size (some (.int r)) h) args s 0 0 (AF X h s.heap.size)) 35 [(0, .ref (a0)), (1, .int (a1)), (2, .int (a2)), (3, .int (x3)), (4, .int (x4)), (5, .int (x5))] [.int (k0)] h := by
        intro x3 x4 x5 k0 hf
        unfold f_L_arePhases_J35 at hf
        refine G.istore (lv' := [(6, .int (k0)), (0, .ref (a0)), (1, .int (a1)), (2, .int (a2)), (3, .int (x3)), (4, .int (x4)), (5, .int (x5))]) C dL_arePhases_35 (by decide) rfl ?_
        refine G.iload_n C 4 dL_arePhases_37 rfl rfl ?_
        refine G.iload C 0 dL_arePhases_38 rfl ?_
        refine G.if_eq (tgt := 47) C dL_arePhases_40 (by decide) hf (fun c4 hf => ?_) (fun c4 hf => ?_)
        · refine G.iconst (v := 0) C dL_arePhases_47 (by decide) ?_
          refine G.sub C [1, 2, 3, 5, 6, 0] (lv' := [(0, .ref (a0)), (1, .int (a1)), (2, .int (a2)), (4, .int (x4)), (5, .int (x5)), (6, .int (k0))]) rfl ?_
          exact hj48 _ _ _ _ _ hf
        · refine G.iconst (v := 1) C dL_arePhases_43 (by decide) ?_
          refine G.goto (tgt := 48) C dL_arePhases_44 (by decide) ?_
          refine G.sub C [1, 2, 3, 5, 6, 0] (lv' := [(0, .ref (a0)), (1, .int (a1)), (2, .int (a2)), (4, .int (x4)), (5, .int (x5)), (6, .int (k0))]) rfl ?_
          exact hj48 _ _ _ _ _ hf
      refine G.iload C 5 dL_arePhases_14 rfl ?_
      refine G.if_lt (tgt := 70) C dL_arePhases_16 (by decide) hf (fun c7 hf => ?_) (fun c7 hf => ?_)
      · cases hf
        change some _ = some _ at hlp2
        have hf := hfo2
        try rw [← Option.some.inj hlp2] at hf
        try dsimp only at hf
        refine G.sub C [0, 1, 2, 3, 4] (lv' := [(0, .ref (a0)), (1, .int (a1)), (2, .int (a2)), (3, .int (x3)), (4, .int (x4))]) rfl ?_
        exact hj70 _ _ _ _ _ hf
      · refine G.aload_n C 0 dL_arePhases_19 rfl rfl ?_
        refine G.iload_n C 1 dL_arePhases_20 rfl rfl ?_
        refine G.iload_n C 2 dL_arePhases_21 rfl rfl ?_
        refine G.iload C 5 dL_arePhases_22 rfl ?_
        obtain ⟨q5, hq5, hf⟩ := bind_some hf
        try dsimp only at hf
        have hq5 := okL9_at hq5
        refine G.callX9 C TT (st := []) (st2 := [.int (q5)]) (cx_X5_refusal hq5) rfl (ko_X5_refusal hq5) rfl m9_250 m9_251 m9_252 m9_2 m9_253 kd_X5_refusal ⟨Nat.le_of_ble_eq_true rfl, Nat.le_of_ble_eq_true rfl⟩ ⟨Nat.le_of_ble_eq_true rfl, Nat.le_of_ble_eq_true rfl⟩ (Nat.le_of_ble_eq_true rfl) rfl rfl dL_arePhases_24 ?_
        refine G.if_ne (tgt := 34) C dL_arePhases_27 (by decide) hf (fun c6 hf => ?_) (fun c6 hf => ?_)
        · refine G.iconst (v := 0) C dL_arePhases_34 (by decide) ?_
          refine G.sub C [0, 1, 2, 3, 4, 5] (lv' := [(0, .ref (a0)), (1, .int (a1)), (2, .int (a2)), (3, .int (x3)), (4, .int (x4)), (5, .int (x5))]) rfl ?_
          exact hj35 _ _ _ _ hf
        · refine G.iconst (v := 1) C dL_arePhases_30 (by decide) ?_
          refine G.goto (tgt := 35) C dL_arePhases_31 (by decide) ?_
          refine G.sub C [0, 1, 2, 3, 4, 5] (lv' := [(0, .ref (a0)), (1, .int (a1)), (2, .int (a2)), (3, .int (x3)), (4, .int (x4)), (5, .int (x5))]) rfl ?_
          exact hj35 _ _ _ _ hf
  refine G.sub C [3, 4, 5, 2, 1, 0] (lv' := [(0, .ref (a0)), (1, .int (a1)), (2, .int (a2)), (3, .int ((0 : Int32))), (4, .int (((-1) : Int32))), (5, .int ((q1 - (1 : Int32))))]) rfl ?_
  exact hloop2 LF _ _ _ hlp2
theorem kd_L_isRope : yL_isRope.cls ≠ "java/lang/invoke/MethodHandle" ∧ yL_isRope.cls ≠ "java/lang/invoke/VarHandle" ∧ (parseMethodDescriptor yL_isRope.desc).map (fun d => d.parameters.length) = some 2 := by decide +kernel
set_option maxRecDepth 20000 in
set_option maxHeartbeats 8000000 in
theorem cl_L_isRope {l : Launch} {h : PH} {a0 : Nat} {a1 : Int32} {r : (Int32 × PH)} (hf : f_L_isRope h a0 a1 = some r) : CL l yL_isRope cL_isRope 13 (some .boolean) 9 162 0 0 [.ref (a0), .int (a1)] h (some (.int r.1)) r.2 := by
  refine CL.of (own := RL) rfl (by decide) (Nat.le_of_ble_eq_true rfl) ?_
  intro p e R s m args below meth c g X hR C TT
  subst hR
  unfold f_L_isRope at hf
  have hj406 : ∀ (hh : PH) (k0 : Int32), f_L_isRope_J406 hh k0 = some r → G p l e ({ frames := 9, cells := 0, slots := 0, locals := 162 } : Room) s m args below meth c 13 g X h 0 0 (MQ below (QW g X h s.heap.size (some (.int r.1)) r.2) args s 0 0 (AF X h s.heap.size)) 406 [] [.int (k0)] hh := by
    intro hh k0 hf
    unfold f_L_isRope_J406 at hf
    obtain ⟨c24, hf⟩ := gd_ok hf
    cases hf
    exact G.zretC C ⟨by omega, by omega⟩ rfl (z01_n c24) dL_isRope_406
  have hj405 : ∀ (hh : PH), f_L_isRope_J405 hh = some r → G p l e ({ frames := 9, cells := 0, slots := 0, locals := 162 } : Room) s m args below meth c 13 g X h 0 0 (MQ below (QW g X h s.heap.size (some (.int r.1)) r.2) args s 0 0 (AF X h s.heap.size)) 405 [] [] hh := by
    intro hh hf
    unfold f_L_isRope_J405 at hf
    refine G.iconst (v := 0) C dL_isRope_405 (by decide) ?_
    refine G.sub C [] (lv' := []) rfl ?_
    exact hj406 _ _ hf
  have hj391 : ∀ (x0 : Nat) (x1 : Int32), f_L_isRope_J391 h (x0) (x1) = some r → G p l e ({ frames := 9, cells := 0, slots := 0, locals := 162 } : Room) s m args below meth c 13 g X h 0 0 (MQ below (QW g X h s.heap.size (some (.int r.1)) r.2) args s 0 0 (AF X h s.heap.size)) 391 [(0, .ref (x0)), (1, .int (x1))] [] h := by
    intro x0 x1 hf
    unfold f_L_isRope_J391 at hf
    refine G.aload_n C 0 dL_isRope_391 rfl rfl ?_
    refine G.iload_n C 1 dL_isRope_392 rfl rfl ?_
    refine G.iload_n C 1 dL_isRope_393 rfl rfl ?_
    obtain ⟨q25, hq25, hf⟩ := bind_some hf
    try dsimp only at hf
    have hq25 := okW_at hq25
    refine G.callX9 C TT (st := []) (st2 := [.int (q25.1)]) (cx_X5_joining hq25) rfl (ko_X5_joining hq25) rfl m9_274 m9_275 m9_276 m9_2 m9_277 kd_X5_joining ⟨Nat.le_of_ble_eq_true rfl, Nat.le_of_ble_eq_true rfl⟩ ⟨Nat.le_of_ble_eq_true rfl, Nat.le_of_ble_eq_true rfl⟩ (Nat.le_of_ble_eq_true rfl) rfl rfl dL_isRope_394 ?_
    refine G.iconst (v := 1) C dL_isRope_397 (by decide) ?_
    refine G.icmp_ne (tgt := 405) C dL_isRope_398 (by decide) hf (fun c26 hf => ?_) (fun c26 hf => ?_)
    · refine G.sub C [] (lv' := []) rfl ?_
      exact hj405 _ hf
    · refine G.iconst (v := 1) C dL_isRope_401 (by decide) ?_
      refine G.goto (tgt := 406) C dL_isRope_402 (by decide) ?_
      refine G.sub C [] (lv' := []) rfl ?_
      exact hj406 _ _ hf
  have hj349 : ∀ (x0 : Nat) (x1 : Int32) (x2 : Int32) (x4 : Int32) (x6 : Int32) (k0 : Int32), f_L_isRope_J349 h (x0) (x1) (x2) (x4) (x6) k0 = some r → G p l e ({ frames := 9, cells := 0, slots := 0, locals := 162 } : Room) s m args below meth c 13 g X h 0 0 (MQ below (QW g X h s.heap.size (some (.int r.1)) r.2) args s 0 0 (AF X h s.heap.size)) 349 [(0, .ref (x0)), (1, .int (x1)), (2, .int (x2)), (4, .int (x4)), (6, .int (x6))] [.int (k0)] h := by
    intro x0 x1 x2 x4 x6 k0 hf
    unfold f_L_isRope_J349 at hf
    refine G.istore (lv' := [(7, .int (k0)), (0, .ref (x0)), (1, .int (x1)), (2, .int (x2)), (4, .int (x4)), (6, .int (x6))]) C dL_isRope_349 (by decide) rfl ?_
    refine G.iload C 0 dL_isRope_351 rfl ?_
    refine G.if_eq (tgt := 405) C dL_isRope_353 (by decide) hf (fun c34 hf => ?_) (fun c34 hf => ?_)
    · refine G.sub C [] (lv' := []) rfl ?_
      exact hj405 _ hf
    · refine G.aload_n C 1 dL_isRope_356 rfl rfl ?_
      refine G.iload_n C 2 dL_isRope_357 rfl rfl ?_
      obtain ⟨q27, hq27, hf⟩ := bind_some hf
      try dsimp only at hf
      have hq27 := okL9_at hq27
      refine G.callX9 C TT (st := []) (st2 := [.int (q27)]) (cx_X5_greatest hq27) rfl (ko_X5_greatest hq27) rfl m9_259 m9_260 m9_261 m9_2 m9_262 kd_X5_greatest ⟨Nat.le_of_ble_eq_true rfl, Nat.le_of_ble_eq_true rfl⟩ ⟨Nat.le_of_ble_eq_true rfl, Nat.le_of_ble_eq_true rfl⟩ (Nat.le_of_ble_eq_true rfl) rfl rfl dL_isRope_358 ?_
      refine G.iload_n C 3 dL_isRope_361 rfl rfl ?_
      refine G.icmp_lt (tgt := 405) C dL_isRope_362 (by decide) hf (fun c33 hf => ?_) (fun c33 hf => ?_)
      · refine G.sub C [] (lv' := []) rfl ?_
        exact hj405 _ hf
      · refine G.aload_n C 1 dL_isRope_365 rfl rfl ?_
        refine G.iload_n C 2 dL_isRope_366 rfl rfl ?_
        refine G.iconst (v := 4) C dL_isRope_367 (by decide) ?_
        obtain ⟨q28, hq28, hf⟩ := bind_some hf
        try dsimp only at hf
        have hq28 := okL9_at hq28
        refine G.callX9 C TT (st := []) (st2 := [.int (q28)]) (cx_X5_ropeOf hq28) rfl (ko_X5_ropeOf hq28) rfl m9_139 m9_140 m9_141 m9_2 m9_142 kd_X5_ropeOf ⟨Nat.le_of_ble_eq_true rfl, Nat.le_of_ble_eq_true rfl⟩ ⟨Nat.le_of_ble_eq_true rfl, Nat.le_of_ble_eq_true rfl⟩ (Nat.le_of_ble_eq_true rfl) rfl rfl dL_isRope_368 ?_
        refine G.aload_n C 1 dL_isRope_371 rfl rfl ?_
        refine G.iload_n C 2 dL_isRope_372 rfl rfl ?_
        refine G.iconst (v := 2) C dL_isRope_373 (by decide) ?_
        obtain ⟨q29, hq29, hf⟩ := bind_some hf
        try dsimp only at hf
        have hq29 := okL9_at hq29
        refine G.callX9 C TT (st := [.int (q28)]) (st2 := [.int (q29), .int (q28)]) (cx_X5_ropeOf hq29) rfl (ko_X5_ropeOf hq29) rfl m9_139 m9_140 m9_141 m9_2 m9_142 kd_X5_ropeOf ⟨Nat.le_of_ble_eq_true rfl, Nat.le_of_ble_eq_true rfl⟩ ⟨Nat.le_of_ble_eq_true rfl, Nat.le_of_ble_eq_true rfl⟩ (Nat.le_of_ble_eq_true rfl) rfl rfl dL_isRope_374 ?_
        refine G.icmp_gt (tgt := 405) C dL_isRope_377 (by decide) hf (fun c32 hf => ?_) (fun c32 hf => ?_)
        · refine G.sub C [] (lv' := []) rfl ?_
          exact hj405 _ hf
        · refine G.iload C 4 dL_isRope_380 rfl ?_
          refine G.if_gt (tgt := 391) C dL_isRope_382 (by decide) hf (fun c31 hf => ?_) (fun c31 hf => ?_)
          · refine G.sub C [1, 2] (lv' := [(0, .ref (x0)), (1, .int (x1))]) rfl ?_
            exact hj391 _ _ hf
          · refine G.iload C 5 dL_isRope_385 rfl ?_
            refine G.iconst (v := 1) C dL_isRope_387 (by decide) ?_
            refine G.icmp_ne (tgt := 405) C dL_isRope_388 (by decide) hf (fun c30 hf => ?_) (fun c30 hf => ?_)
            · refine G.sub C [] (lv' := []) rfl ?_
              exact hj405 _ hf
            · refine G.sub C [1, 2] (lv' := [(0, .ref (x0)), (1, .int (x1))]) rfl ?_
              exact hj391 _ _ hf
  have hj344 : ∀ (x0 : Nat) (x1 : Int32) (x2 : Int32) (x4 : Int32) (x6 : Int32), f_L_isRope_J344 h (x0) (x1) (x2) (x4) (x6) = some r → G p l e ({ frames := 9, cells := 0, slots := 0, locals := 162 } : Room) s m args below meth c 13 g X h 0 0 (MQ below (QW g X h s.heap.size (some (.int r.1)) r.2) args s 0 0 (AF X h s.heap.size)) 344 [(0, .ref (x0)), (1, .int (x1)), (2, .int (x2)), (4, .int (x4)), (6, .int (x6))] [] h := by
    intro x0 x1 x2 x4 x6 hf
    unfold f_L_isRope_J344 at hf
    refine G.iconst (v := 1) C dL_isRope_344 (by decide) ?_
    refine G.goto (tgt := 349) C dL_isRope_345 (by decide) ?_
    refine G.sub C [0, 1, 2, 3, 4] (lv' := [(0, .ref (x0)), (1, .int (x1)), (2, .int (x2)), (4, .int (x4)), (6, .int (x6))]) rfl ?_
    exact hj349 _ _ _ _ _ _ hf
  have hj348 : ∀ (x0 : Nat) (x1 : Int32) (x2 : Int32) (x4 : Int32) (x6 : Int32), f_L_isRope_J348 h (x0) (x1) (x2) (x4) (x6) = some r → G p l e ({ frames := 9, cells := 0, slots := 0, locals := 162 } : Room) s m args below meth c 13 g X h 0 0 (MQ below (QW g X h s.heap.size (some (.int r.1)) r.2) args s 0 0 (AF X h s.heap.size)) 348 [(0, .ref (x0)), (1, .int (x1)), (2, .int (x2)), (4, .int (x4)), (6, .int (x6))] [] h := by
    intro x0 x1 x2 x4 x6 hf
    unfold f_L_isRope_J348 at hf
    refine G.iconst (v := 0) C dL_isRope_348 (by decide) ?_
    refine G.sub C [0, 1, 2, 3, 4] (lv' := [(0, .ref (x0)), (1, .int (x1)), (2, .int (x2)), (4, .int (x4)), (6, .int (x6))]) rfl ?_
    exact hj349 _ _ _ _ _ _ hf
  have hj324 : ∀ (x0 : Nat) (x1 : Int32) (x2 : Int32) (x4 : Int32) (x6 : Int32) (x8 : Int32) (k0 : Int32) (k1 : Int32), f_L_isRope_J324 h (x0) (x1) (x2) (x4) (x6) (x8) k0 k1 = some r → G p l e ({ frames := 9, cells := 0, slots := 0, locals := 162 } : Room) s m args below meth c 13 g X h 0 0 (MQ below (QW g X h s.heap.size (some (.int r.1)) r.2) args s 0 0 (AF X h s.heap.size)) 324 [(0, .ref (x0)), (1, .int (x1)), (2, .int (x2)), (4, .int (x4)), (6, .int (x6)), (8, .int (x8))] [.int (k1), .int (k0)] h := by
    intro x0 x1 x2 x4 x6 x8 k0 k1 hf
    unfold f_L_isRope_J324 at hf
    refine G.icmp_ne (tgt := 348) C dL_isRope_324 (by decide) hf (fun c38 hf => ?_) (fun c38 hf => ?_)
    · refine G.sub C [0, 1, 2, 3, 4] (lv' := [(0, .ref (x0)), (1, .int (x1)), (2, .int (x2)), (4, .int (x4)), (6, .int (x6))]) rfl ?_
      exact hj348 _ _ _ _ _ hf
    · refine G.iload C 5 dL_isRope_327 rfl ?_
      refine G.iconst (v := (-1)) C dL_isRope_329 (by decide) ?_
      refine G.icmp_eq (tgt := 344) C dL_isRope_330 (by decide) hf (fun c37 hf => ?_) (fun c37 hf => ?_)
      · refine G.sub C [0, 1, 2, 3, 4] (lv' := [(0, .ref (x0)), (1, .int (x1)), (2, .int (x2)), (4, .int (x4)), (6, .int (x6))]) rfl ?_
        exact hj344 _ _ _ _ _ hf
      · refine G.aload_n C 0 dL_isRope_333 rfl rfl ?_
        refine G.iload_n C 1 dL_isRope_334 rfl rfl ?_
        refine G.iload C 5 dL_isRope_335 rfl ?_
        obtain ⟨q35, hq35, hf⟩ := bind_some hf
        try dsimp only at hf
        have hq35 := okL9_at hq35
        refine G.callX9 C TT (st := []) (st2 := [.int (q35)]) (cx_X5_place hq35) rfl (ko_X5_place hq35) rfl m9_214 m9_215 m9_216 m9_2 m9_217 kd_X5_place ⟨Nat.le_of_ble_eq_true rfl, Nat.le_of_ble_eq_true rfl⟩ ⟨Nat.le_of_ble_eq_true rfl, Nat.le_of_ble_eq_true rfl⟩ (Nat.le_of_ble_eq_true rfl) rfl rfl dL_isRope_337 ?_
        refine G.iconst (v := (-1)) C dL_isRope_340 (by decide) ?_
        refine G.icmp_ne (tgt := 348) C dL_isRope_341 (by decide) hf (fun c36 hf => ?_) (fun c36 hf => ?_)
        · refine G.sub C [0, 1, 2, 3, 4] (lv' := [(0, .ref (x0)), (1, .int (x1)), (2, .int (x2)), (4, .int (x4)), (6, .int (x6))]) rfl ?_
          exact hj348 _ _ _ _ _ hf
        · refine G.sub C [0, 1, 2, 3, 4] (lv' := [(0, .ref (x0)), (1, .int (x1)), (2, .int (x2)), (4, .int (x4)), (6, .int (x6))]) rfl ?_
          exact hj344 _ _ _ _ _ hf
  have hj314 : ∀ (x0 : Nat) (x1 : Int32) (x2 : Int32) (x3 : Int32) (x4 : Int32) (x6 : Int32) (x8 : Int32) (k0 : Int32), f_L_isRope_J314 h (x0) (x1) (x2) (x3) (x4) (x6) (x8) k0 = some r → G p l e ({ frames := 9, cells := 0, slots := 0, locals := 162 } : Room) s m args below meth c 13 g X h 0 0 (MQ below (QW g X h s.heap.size (some (.int r.1)) r.2) args s 0 0 (AF X h s.heap.size)) 314 [(0, .ref (x0)), (1, .int (x1)), (2, .int (x2)), (3, .int (x3)), (4, .int (x4)), (6, .int (x6)), (8, .int (x8))] [.int (k0)] h := by
    intro x0 x1 x2 x3 x4 x6 x8 k0 hf
    unfold f_L_isRope_J314 at hf
    refine G.iload_n C 3 dL_isRope_314 rfl rfl ?_
    refine G.iload_n C 2 dL_isRope_315 rfl rfl ?_
    refine G.icmp_ne (tgt := 323) C dL_isRope_316 (by decide) hf (fun c39 hf => ?_) (fun c39 hf => ?_)
    · refine G.iconst (v := 0) C dL_isRope_323 (by decide) ?_
      refine G.sub C [0, 1, 2, 4, 5, 6] (lv' := [(0, .ref (x0)), (1, .int (x1)), (2, .int (x2)), (4, .int (x4)), (6, .int (x6)), (8, .int (x8))]) rfl ?_
      exact hj324 _ _ _ _ _ _ _ _ hf
    · refine G.iconst (v := 1) C dL_isRope_319 (by decide) ?_
      refine G.goto (tgt := 324) C dL_isRope_320 (by decide) ?_
      refine G.sub C [0, 1, 2, 4, 5, 6] (lv' := [(0, .ref (x0)), (1, .int (x1)), (2, .int (x2)), (4, .int (x4)), (6, .int (x6)), (8, .int (x8))]) rfl ?_
      exact hj324 _ _ _ _ _ _ _ _ hf
  have hj256 : ∀ (x0 : Nat) (x1 : Int32) (x2 : Int32) (x3 : Int32) (x4 : Int32) (x5 : Int32) (x6 : Int32) (x7 : Int32), f_L_isRope_J256 h (x0) (x1) (x2) (x3) (x4) (x5) (x6) (x7) = some r → G p l e ({ frames := 9, cells := 0, slots := 0, locals := 162 } : Room) s m args below meth c 13 g X h 0 0 (MQ below (QW g X h s.heap.size (some (.int r.1)) r.2) args s 0 0 (AF X h s.heap.size)) 256 [(0, .ref (x0)), (1, .int (x1)), (2, .int (x2)), (3, .int (x3)), (4, .int (x4)), (5, .int (x5)), (6, .int (x6)), (7, .int (x7))] [] h := by
    intro x0 x1 x2 x3 x4 x5 x6 x7 hf
    unfold f_L_isRope_J256 at hf
    refine G.aload_n C 0 dL_isRope_256 rfl rfl ?_
    refine G.iload_n C 1 dL_isRope_257 rfl rfl ?_
    refine G.iconst (v := 3) C dL_isRope_258 (by decide) ?_
    obtain ⟨q40, hq40, hf⟩ := bind_some hf
    try dsimp only at hf
    have hq40 := okL9_at hq40
    refine G.callX9 C TT (st := []) (st2 := [.int (q40)]) (cx_X5_ropeOf hq40) rfl (ko_X5_ropeOf hq40) rfl m9_139 m9_140 m9_141 m9_2 m9_142 kd_X5_ropeOf ⟨Nat.le_of_ble_eq_true rfl, Nat.le_of_ble_eq_true rfl⟩ ⟨Nat.le_of_ble_eq_true rfl, Nat.le_of_ble_eq_true rfl⟩ (Nat.le_of_ble_eq_true rfl) rfl rfl dL_isRope_259 ?_
    refine G.istore (lv' := [(8, .int (q40)), (0, .ref (x0)), (1, .int (x1)), (2, .int (x2)), (3, .int (x3)), (4, .int (x4)), (5, .int (x5)), (6, .int (x6)), (7, .int (x7))]) C dL_isRope_262 (by decide) rfl ?_
    refine G.iload C 8 dL_isRope_264 rfl ?_
    refine G.if_eq (tgt := 348) C dL_isRope_266 (by decide) hf (fun c47 hf => ?_) (fun c47 hf => ?_)
    · refine G.sub C [1, 2, 3, 5, 7] (lv' := [(0, .ref (x0)), (1, .int (x1)), (2, .int (x2)), (4, .int (x4)), (6, .int (x6))]) rfl ?_
      exact hj348 _ _ _ _ _ hf
    · refine G.iload C 5 dL_isRope_269 rfl ?_
      refine G.aload_n C 1 dL_isRope_271 rfl rfl ?_
      refine G.iload_n C 2 dL_isRope_272 rfl rfl ?_
      refine G.iconst (v := 1) C dL_isRope_273 (by decide) ?_
      obtain ⟨q41, hq41, hf⟩ := bind_some hf
      try dsimp only at hf
      have hq41 := okL9_at hq41
      refine G.callX9 C TT (st := [.int (x4)]) (st2 := [.int (q41), .int (x4)]) (cx_X5_ropeOf hq41) rfl (ko_X5_ropeOf hq41) rfl m9_139 m9_140 m9_141 m9_2 m9_142 kd_X5_ropeOf ⟨Nat.le_of_ble_eq_true rfl, Nat.le_of_ble_eq_true rfl⟩ ⟨Nat.le_of_ble_eq_true rfl, Nat.le_of_ble_eq_true rfl⟩ (Nat.le_of_ble_eq_true rfl) rfl rfl dL_isRope_274 ?_
      refine G.icmp_ne (tgt := 348) C dL_isRope_277 (by decide) hf (fun c46 hf => ?_) (fun c46 hf => ?_)
      · refine G.sub C [1, 2, 3, 5, 7] (lv' := [(0, .ref (x0)), (1, .int (x1)), (2, .int (x2)), (4, .int (x4)), (6, .int (x6))]) rfl ?_
        exact hj348 _ _ _ _ _ hf
      · refine G.iload C 6 dL_isRope_280 rfl ?_
        refine G.iconst (v := 1) C dL_isRope_282 (by decide) ?_
        refine G.iload C 5 dL_isRope_283 rfl ?_
        refine G.ishl C dL_isRope_285 ?_
        refine G.iconst (v := 1) C dL_isRope_286 (by decide) ?_
        refine G.isub C dL_isRope_287 ?_
        refine G.icmp_ne (tgt := 348) C dL_isRope_288 (by decide) hf (fun c45 hf => ?_) (fun c45 hf => ?_)
        · refine G.sub C [1, 2, 3, 5, 7] (lv' := [(0, .ref (x0)), (1, .int (x1)), (2, .int (x2)), (4, .int (x4)), (6, .int (x6))]) rfl ?_
          exact hj348 _ _ _ _ _ hf
        · refine G.aload_n C 1 dL_isRope_291 rfl rfl ?_
          refine G.iload_n C 2 dL_isRope_292 rfl rfl ?_
          refine G.iconst (v := 2) C dL_isRope_293 (by decide) ?_
          obtain ⟨q42, hq42, hf⟩ := bind_some hf
          try dsimp only at hf
          have hq42 := okL9_at hq42
          refine G.callX9 C TT (st := []) (st2 := [.int (q42)]) (cx_X5_ropeOf hq42) rfl (ko_X5_ropeOf hq42) rfl m9_139 m9_140 m9_141 m9_2 m9_142 kd_X5_ropeOf ⟨Nat.le_of_ble_eq_true rfl, Nat.le_of_ble_eq_true rfl⟩ ⟨Nat.le_of_ble_eq_true rfl, Nat.le_of_ble_eq_true rfl⟩ (Nat.le_of_ble_eq_true rfl) rfl rfl dL_isRope_294 ?_
          refine G.iload_n C 3 dL_isRope_297 rfl rfl ?_
          refine G.iload_n C 4 dL_isRope_298 rfl rfl ?_
          refine G.isub C dL_isRope_299 ?_
          refine G.icmp_ne (tgt := 348) C dL_isRope_300 (by decide) hf (fun c44 hf => ?_) (fun c44 hf => ?_)
          · refine G.sub C [1, 2, 3, 5, 7] (lv' := [(0, .ref (x0)), (1, .int (x1)), (2, .int (x2)), (4, .int (x4)), (6, .int (x6))]) rfl ?_
            exact hj348 _ _ _ _ _ hf
          · refine G.iload C 0 dL_isRope_303 rfl ?_
            refine G.iconst (v := (-1)) C dL_isRope_305 (by decide) ?_
            refine G.icmp_ne (tgt := 313) C dL_isRope_306 (by decide) hf (fun c43 hf => ?_) (fun c43 hf => ?_)
            · refine G.iconst (v := 0) C dL_isRope_313 (by decide) ?_
              refine G.sub C [1, 2, 3, 4, 5, 7, 0] (lv' := [(0, .ref (x0)), (1, .int (x1)), (2, .int (x2)), (3, .int (x3)), (4, .int (x4)), (6, .int (x6)), (8, .int (q40))]) rfl ?_
              exact hj314 _ _ _ _ _ _ _ _ hf
            · refine G.iconst (v := 1) C dL_isRope_309 (by decide) ?_
              refine G.goto (tgt := 314) C dL_isRope_310 (by decide) ?_
              refine G.sub C [1, 2, 3, 4, 5, 7, 0] (lv' := [(0, .ref (x0)), (1, .int (x1)), (2, .int (x2)), (3, .int (x3)), (4, .int (x4)), (6, .int (x6)), (8, .int (q40))]) rfl ?_
              exact hj314 _ _ _ _ _ _ _ _ hf
  refine G.sub C [0, 1] (lv' := [(0, .ref (a0)), (1, .int (a1))]) rfl ?_
  refine G.aload_n C 0 dL_isRope_0 rfl rfl ?_
  refine G.iload_n C 1 dL_isRope_1 rfl rfl ?_
  refine G.iconst (v := 0) C dL_isRope_2 (by decide) ?_
  obtain ⟨q1, hq1, hf⟩ := bind_some hf
  try dsimp only at hf
  have hq1 := okL9_at hq1
  refine G.callX9 C TT (st := []) (st2 := [.int (q1)]) (cx_X5_ropeOf hq1) rfl (ko_X5_ropeOf hq1) rfl m9_139 m9_140 m9_141 m9_2 m9_142 kd_X5_ropeOf ⟨Nat.le_of_ble_eq_true rfl, Nat.le_of_ble_eq_true rfl⟩ ⟨Nat.le_of_ble_eq_true rfl, Nat.le_of_ble_eq_true rfl⟩ (Nat.le_of_ble_eq_true rfl) rfl rfl dL_isRope_3 ?_
  refine G.istore_n (lv' := [(2, .int (q1)), (0, .ref (a0)), (1, .int (a1))]) C dL_isRope_6 rfl (by decide) rfl ?_
  refine G.iconst (v := 0) C dL_isRope_7 (by decide) ?_
  refine G.istore_n (lv' := [(3, .int ((0 : Int32))), (2, .int (q1)), (0, .ref (a0)), (1, .int (a1))]) C dL_isRope_8 rfl (by decide) rfl ?_
  refine G.iconst (v := 0) C dL_isRope_9 (by decide) ?_
  refine G.istore (lv' := [(4, .int ((0 : Int32))), (3, .int ((0 : Int32))), (2, .int (q1)), (0, .ref (a0)), (1, .int (a1))]) C dL_isRope_10 (by decide) rfl ?_
  refine G.iconst (v := 0) C dL_isRope_12 (by decide) ?_
  refine G.istore (lv' := [(5, .int ((0 : Int32))), (4, .int ((0 : Int32))), (3, .int ((0 : Int32))), (2, .int (q1)), (0, .ref (a0)), (1, .int (a1))]) C dL_isRope_13 (by decide) rfl ?_
  refine G.aload_n C 4 dL_isRope_15 rfl rfl ?_
  refine G.iload_n C 5 dL_isRope_16 rfl rfl ?_
  refine G.iconst (v := 5) C dL_isRope_17 (by decide) ?_
  obtain ⟨q2, hq2, hf⟩ := bind_some hf
  try dsimp only at hf
  have hq2 := okL9_at hq2
  refine G.callX9 C TT (st := []) (st2 := [.int (q2)]) (cx_X5_ropeOf hq2) rfl (ko_X5_ropeOf hq2) rfl m9_139 m9_140 m9_141 m9_2 m9_142 kd_X5_ropeOf ⟨Nat.le_of_ble_eq_true rfl, Nat.le_of_ble_eq_true rfl⟩ ⟨Nat.le_of_ble_eq_true rfl, Nat.le_of_ble_eq_true rfl⟩ (Nat.le_of_ble_eq_true rfl) rfl rfl dL_isRope_18 ?_
  refine G.istore (lv' := [(6, .int (q2)), (5, .int ((0 : Int32))), (4, .int ((0 : Int32))), (3, .int ((0 : Int32))), (2, .int (q1)), (0, .ref (a0)), (1, .int (a1))]) C dL_isRope_21 (by decide) rfl ?_
  refine G.iconst (v := 1) C dL_isRope_23 (by decide) ?_
  refine G.istore (lv' := [(7, .int ((1 : Int32))), (6, .int (q2)), (5, .int ((0 : Int32))), (4, .int ((0 : Int32))), (3, .int ((0 : Int32))), (2, .int (q1)), (0, .ref (a0)), (1, .int (a1))]) C dL_isRope_24 (by decide) rfl ?_
  refine G.iconst (v := 0) C dL_isRope_26 (by decide) ?_
  refine G.istore (lv' := [(8, .int ((0 : Int32))), (7, .int ((1 : Int32))), (6, .int (q2)), (5, .int ((0 : Int32))), (4, .int ((0 : Int32))), (3, .int ((0 : Int32))), (2, .int (q1)), (0, .ref (a0)), (1, .int (a1))]) C dL_isRope_27 (by decide) rfl ?_
  obtain ⟨z3, hlp3, hfo3⟩ := bind_some hf
  clear hf
  have hloop3 : ∀ (k : Nat), ∀ (x3 : Int32) (x4 : Int32) (x5 : Int32) (x7 : Int32) (x8 : Int32), (lpn (f_L_isRope_L29 (h) (a0) (a1) (q1) (q2)) k (x3, x4, x5, x7, x8)) = some z3 → G p l e ({ frames := 9, cells := 0, slots := 0, locals := 162 } : Room) s m args below meth c 13 g X h 0 0 (MQ below (QW g X h s.heap.size (some (.int r.1)) r.2) args s 0 0 (AF X h s.heap.size)) 29 [(0, .ref (a0)), (1, .int (a1)), (2, .int (q1)), (3, .int (x3)), (4, .int (x4)), (5, .int (x5)), (6, .int (q2)), (7, .int (x7)), (8, .int (x8))] [] h := by
    intro k
    induction k with
    | zero => intro x3 x4 x5 x7 x8 hlp3; exact (lpn_0 hlp3).elim
    | succ k ih3 =>
      intro x3 x4 x5 x7 x8 hlp3
      obtain ⟨y3, hf, hlp3⟩ := lpn_s hlp3
      unfold f_L_isRope_L29 at hf
      try dsimp only at hf
      have hj248 : ∀ (x3 : Int32) (x4 : Int32) (x5 : Int32) (x8 : Int32) (k0 : Int32), f_L_isRope_J248 h (a0) (a1) (q1) (x3) (x4) (x5) (q2) (x8) k0 = some y3 → G p l e ({ frames := 9, cells := 0, slots := 0, locals := 162 } : Room) s m args below meth c 13 g X h 0 0 (MQ below (QW g X h s.heap.size (some (.int r.1)) r.2) args s 0 0 (AF X h s.heap.size)) 248 [(0, .ref (a0)), (1, .int (a1)), (2, .int (q1)), (3, .int (x3)), (4, .int (x4)), (5, .int (x5)), (6, .int (q2)), (8, .int (x8))] [.int (k0)] h := by
        intro x3 x4 x5 x8 k0 hf
        unfold f_L_isRope_J248 at hf
        refine G.istore (lv' := [(7, .int (k0)), (0, .ref (a0)), (1, .int (a1)), (2, .int (q1)), (3, .int (x3)), (4, .int (x4)), (5, .int (x5)), (6, .int (q2)), (8, .int (x8))]) C dL_isRope_248 (by decide) rfl ?_
        refine G.iinc (k := 8) (v := (x8 + 1)) (lv' := [(8, .int ((x8 + 1))), (7, .int (k0)), (0, .ref (a0)), (1, .int (a1)), (2, .int (q1)), (3, .int (x3)), (4, .int (x4)), (5, .int (x5)), (6, .int (q2))]) C dL_isRope_250 rfl rfl (by decide) rfl ?_
        refine G.goto (tgt := 29) C dL_isRope_253 (by decide) ?_
        cases hf
        refine G.sub C [2, 3, 4, 5, 6, 7, 8, 1, 0] (lv' := [(0, .ref (a0)), (1, .int (a1)), (2, .int (q1)), (3, .int (x3)), (4, .int (x4)), (5, .int (x5)), (6, .int (q2)), (7, .int (k0)), (8, .int ((x8 + 1)))]) rfl ?_
        exact ih3 _ _ _ _ _ hlp3
      have hj243 : ∀ (x3 : Int32) (x4 : Int32) (x5 : Int32) (x8 : Int32), f_L_isRope_J243 h (a0) (a1) (q1) (x3) (x4) (x5) (q2) (x8) = some y3 → G p l e ({ frames := 9, cells := 0, slots := 0, locals := 162 } : Room) s m args below meth c 13 g X h 0 0 (MQ below (QW g X h s.heap.size (some (.int r.1)) r.2) args s 0 0 (AF X h s.heap.size)) 243 [(0, .ref (a0)), (1, .int (a1)), (2, .int (q1)), (3, .int (x3)), (4, .int (x4)), (5, .int (x5)), (6, .int (q2)), (8, .int (x8))] [] h := by
        intro x3 x4 x5 x8 hf
        unfold f_L_isRope_J243 at hf
        refine G.iconst (v := 1) C dL_isRope_243 (by decide) ?_
        refine G.goto (tgt := 248) C dL_isRope_244 (by decide) ?_
        refine G.sub C [0, 1, 2, 3, 4, 5, 6, 7] (lv' := [(0, .ref (a0)), (1, .int (a1)), (2, .int (q1)), (3, .int (x3)), (4, .int (x4)), (5, .int (x5)), (6, .int (q2)), (8, .int (x8))]) rfl ?_
        exact hj248 _ _ _ _ _ hf
      have hj247 : ∀ (x3 : Int32) (x4 : Int32) (x5 : Int32) (x8 : Int32), f_L_isRope_J247 h (a0) (a1) (q1) (x3) (x4) (x5) (q2) (x8) = some y3 → G p l e ({ frames := 9, cells := 0, slots := 0, locals := 162 } : Room) s m args below meth c 13 g X h 0 0 (MQ below (QW g X h s.heap.size (some (.int r.1)) r.2) args s 0 0 (AF X h s.heap.size)) 247 [(0, .ref (a0)), (1, .int (a1)), (2, .int (q1)), (3, .int (x3)), (4, .int (x4)), (5, .int (x5)), (6, .int (q2)), (8, .int (x8))] [] h := by
        intro x3 x4 x5 x8 hf
        unfold f_L_isRope_J247 at hf
        refine G.iconst (v := 0) C dL_isRope_247 (by decide) ?_
        refine G.sub C [0, 1, 2, 3, 4, 5, 6, 7] (lv' := [(0, .ref (a0)), (1, .int (a1)), (2, .int (q1)), (3, .int (x3)), (4, .int (x4)), (5, .int (x5)), (6, .int (q2)), (8, .int (x8))]) rfl ?_
        exact hj248 _ _ _ _ _ hf
      have hj209 : ∀ (x3 : Int32) (x4 : Int32) (x5 : Int32) (x7 : Int32) (x8 : Int32) (x9 : Int32), f_L_isRope_J209 h (a0) (a1) (q1) (x3) (x4) (x5) (q2) (x7) (x8) (x9) = some y3 → G p l e ({ frames := 9, cells := 0, slots := 0, locals := 162 } : Room) s m args below meth c 13 g X h 0 0 (MQ below (QW g X h s.heap.size (some (.int r.1)) r.2) args s 0 0 (AF X h s.heap.size)) 209 [(0, .ref (a0)), (1, .int (a1)), (2, .int (q1)), (3, .int (x3)), (4, .int (x4)), (5, .int (x5)), (6, .int (q2)), (7, .int (x7)), (8, .int (x8)), (9, .int (x9))] [] h := by
        intro x3 x4 x5 x7 x8 x9 hf
        unfold f_L_isRope_J209 at hf
        refine G.iload C 7 dL_isRope_209 rfl ?_
        refine G.if_eq (tgt := 247) C dL_isRope_211 (by decide) hf (fun c9 hf => ?_) (fun c9 hf => ?_)
        · refine G.sub C [0, 1, 2, 3, 4, 5, 6, 8] (lv' := [(0, .ref (a0)), (1, .int (a1)), (2, .int (q1)), (3, .int (x3)), (4, .int (x4)), (5, .int (x5)), (6, .int (q2)), (8, .int (x8))]) rfl ?_
          exact hj247 _ _ _ _ hf
        · refine G.iload C 9 dL_isRope_214 rfl ?_
          refine G.if_lt (tgt := 233) C dL_isRope_216 (by decide) hf (fun c8 hf => ?_) (fun c8 hf => ?_)
          · refine G.aload_n C 0 dL_isRope_233 rfl rfl ?_
            refine G.iload_n C 1 dL_isRope_234 rfl rfl ?_
            refine G.iload C 8 dL_isRope_235 rfl ?_
            obtain ⟨q4, hq4, hf⟩ := bind_some hf
            try dsimp only at hf
            refine G.callL0 C TT (st := []) (st2 := [.int (q4)]) (cl_L_arePhases hq4) m9_247 m9_248 m9_64 m9_249 kd_L_arePhases ⟨Nat.le_of_ble_eq_true rfl, Nat.le_of_ble_eq_true rfl⟩ ⟨Nat.le_of_ble_eq_true rfl, Nat.le_of_ble_eq_true rfl⟩ (Nat.le_of_ble_eq_true rfl) rfl rfl dL_isRope_237 ?_
            refine G.if_eq (tgt := 247) C dL_isRope_240 (by decide) hf (fun c5 hf => ?_) (fun c5 hf => ?_)
            · refine G.sub C [0, 1, 2, 3, 4, 5, 6, 8] (lv' := [(0, .ref (a0)), (1, .int (a1)), (2, .int (q1)), (3, .int (x3)), (4, .int (x4)), (5, .int (x5)), (6, .int (q2)), (8, .int (x8))]) rfl ?_
              exact hj247 _ _ _ _ hf
            · refine G.sub C [0, 1, 2, 3, 4, 5, 6, 8] (lv' := [(0, .ref (a0)), (1, .int (a1)), (2, .int (q1)), (3, .int (x3)), (4, .int (x4)), (5, .int (x5)), (6, .int (q2)), (8, .int (x8))]) rfl ?_
              exact hj243 _ _ _ _ hf
          · refine G.aload_n C 0 dL_isRope_219 rfl rfl ?_
            refine G.iload_n C 1 dL_isRope_220 rfl rfl ?_
            refine G.iload C 8 dL_isRope_221 rfl ?_
            refine G.iconst (v := 0) C dL_isRope_223 (by decide) ?_
            obtain ⟨q6, hq6, hf⟩ := bind_some hf
            try dsimp only at hf
            have hq6 := okL9_at hq6
            refine G.callX9 C TT (st := []) (st2 := [.int (q6)]) (cx_X5_phases hq6) rfl (ko_X5_phases hq6) rfl m9_219 m9_220 m9_221 m9_2 m9_222 kd_X5_phases ⟨Nat.le_of_ble_eq_true rfl, Nat.le_of_ble_eq_true rfl⟩ ⟨Nat.le_of_ble_eq_true rfl, Nat.le_of_ble_eq_true rfl⟩ (Nat.le_of_ble_eq_true rfl) rfl rfl dL_isRope_224 ?_
            refine G.if_ne (tgt := 247) C dL_isRope_227 (by decide) hf (fun c7 hf => ?_) (fun c7 hf => ?_)
            · refine G.sub C [0, 1, 2, 3, 4, 5, 6, 8] (lv' := [(0, .ref (a0)), (1, .int (a1)), (2, .int (q1)), (3, .int (x3)), (4, .int (x4)), (5, .int (x5)), (6, .int (q2)), (8, .int (x8))]) rfl ?_
              exact hj247 _ _ _ _ hf
            · refine G.goto (tgt := 243) C dL_isRope_230 (by decide) ?_
              refine G.sub C [0, 1, 2, 3, 4, 5, 6, 8] (lv' := [(0, .ref (a0)), (1, .int (a1)), (2, .int (q1)), (3, .int (x3)), (4, .int (x4)), (5, .int (x5)), (6, .int (q2)), (8, .int (x8))]) rfl ?_
              exact hj243 _ _ _ _ hf
      have hj186 : ∀ (x3 : Int32) (x4 : Int32) (x5 : Int32) (x7 : Int32) (x8 : Int32) (x9 : Int32) (x11 : Int32), f_L_isRope_J186 h (a0) (a1) (q1) (x3) (x4) (x5) (q2) (x7) (x8) (x9) (x11) = some y3 → G p l e ({ frames := 9, cells := 0, slots := 0, locals := 162 } : Room) s m args below meth c 13 g X h 0 0 (MQ below (QW g X h s.heap.size (some (.int r.1)) r.2) args s 0 0 (AF X h s.heap.size)) 186 [(0, .ref (a0)), (1, .int (a1)), (2, .int (q1)), (3, .int (x3)), (4, .int (x4)), (5, .int (x5)), (6, .int (q2)), (7, .int (x7)), (8, .int (x8)), (9, .int (x9)), (11, .int (x11))] [] h := by
        intro x3 x4 x5 x7 x8 x9 x11 hf
        unfold f_L_isRope_J186 at hf
        refine G.iload_n C 3 dL_isRope_186 rfl rfl ?_
        refine G.iload C 10 dL_isRope_187 rfl ?_
        refine G.iadd C dL_isRope_189 ?_
        refine G.istore_n (lv' := [(3, .int ((x3 + x11))), (0, .ref (a0)), (1, .int (a1)), (2, .int (q1)), (4, .int (x4)), (5, .int (x5)), (6, .int (q2)), (7, .int (x7)), (8, .int (x8)), (9, .int (x9)), (11, .int (x11))]) C dL_isRope_190 rfl (by decide) rfl ?_
        refine G.iinc (k := 4) (v := (x4 + 1)) (lv' := [(4, .int ((x4 + 1))), (3, .int ((x3 + x11))), (0, .ref (a0)), (1, .int (a1)), (2, .int (q1)), (5, .int (x5)), (6, .int (q2)), (7, .int (x7)), (8, .int (x8)), (9, .int (x9)), (11, .int (x11))]) C dL_isRope_191 rfl rfl (by decide) rfl ?_
        refine G.iload C 5 dL_isRope_194 rfl ?_
        refine G.iconst (v := 1) C dL_isRope_196 (by decide) ?_
        refine G.aload_n C 2 dL_isRope_197 rfl rfl ?_
        refine G.iload_n C 3 dL_isRope_198 rfl rfl ?_
        refine G.iload C 8 dL_isRope_199 rfl ?_
        refine G.iconst (v := 3) C dL_isRope_201 (by decide) ?_
        obtain ⟨q10, hq10, hf⟩ := bind_some hf
        try dsimp only at hf
        have hq10 := okL9_at hq10
        refine G.callX9 C TT (st := [.int ((1 : Int32)), .int (x5)]) (st2 := [.int (q10), .int ((1 : Int32)), .int (x5)]) (cx_X5_hueOf hq10) rfl (ko_X5_hueOf hq10) rfl m9_191 m9_192 m9_193 m9_2 m9_194 kd_X5_hueOf ⟨Nat.le_of_ble_eq_true rfl, Nat.le_of_ble_eq_true rfl⟩ ⟨Nat.le_of_ble_eq_true rfl, Nat.le_of_ble_eq_true rfl⟩ (Nat.le_of_ble_eq_true rfl) rfl rfl dL_isRope_202 ?_
        refine G.ishl C dL_isRope_205 ?_
        refine G.ior C dL_isRope_206 ?_
        refine G.istore (lv' := [(5, .int ((x5 ||| ((1 : Int32) <<< (q10 &&& 31))))), (4, .int ((x4 + 1))), (3, .int ((x3 + x11))), (0, .ref (a0)), (1, .int (a1)), (2, .int (q1)), (6, .int (q2)), (7, .int (x7)), (8, .int (x8)), (9, .int (x9)), (11, .int (x11))]) C dL_isRope_207 (by decide) rfl ?_
        refine G.sub C [3, 4, 5, 2, 1, 0, 6, 7, 8, 9] (lv' := [(0, .ref (a0)), (1, .int (a1)), (2, .int (q1)), (3, .int ((x3 + x11))), (4, .int ((x4 + 1))), (5, .int ((x5 ||| ((1 : Int32) <<< (q10 &&& 31))))), (6, .int (q2)), (7, .int (x7)), (8, .int (x8)), (9, .int (x9))]) rfl ?_
        exact hj209 _ _ _ _ _ _ hf
      have hj138 : ∀ (x3 : Int32) (x4 : Int32) (x5 : Int32) (x8 : Int32) (x9 : Int32) (x10 : Int32) (x11 : Int32) (k0 : Int32), f_L_isRope_J138 h (a0) (a1) (q1) (x3) (x4) (x5) (q2) (x8) (x9) (x10) (x11) k0 = some y3 → G p l e ({ frames := 9, cells := 0, slots := 0, locals := 162 } : Room) s m args below meth c 13 g X h 0 0 (MQ below (QW g X h s.heap.size (some (.int r.1)) r.2) args s 0 0 (AF X h s.heap.size)) 138 [(0, .ref (a0)), (1, .int (a1)), (2, .int (q1)), (3, .int (x3)), (4, .int (x4)), (5, .int (x5)), (6, .int (q2)), (8, .int (x8)), (9, .int (x9)), (10, .int (x10)), (11, .int (x11))] [.int (k0)] h := by
        intro x3 x4 x5 x8 x9 x10 x11 k0 hf
        unfold f_L_isRope_J138 at hf
        refine G.istore (lv' := [(7, .int (k0)), (0, .ref (a0)), (1, .int (a1)), (2, .int (q1)), (3, .int (x3)), (4, .int (x4)), (5, .int (x5)), (6, .int (q2)), (8, .int (x8)), (9, .int (x9)), (10, .int (x10)), (11, .int (x11))]) C dL_isRope_138 (by decide) rfl ?_
        refine G.iconst (v := 0) C dL_isRope_140 (by decide) ?_
        refine G.istore (lv' := [(12, .int ((0 : Int32))), (7, .int (k0)), (0, .ref (a0)), (1, .int (a1)), (2, .int (q1)), (3, .int (x3)), (4, .int (x4)), (5, .int (x5)), (6, .int (q2)), (8, .int (x8)), (9, .int (x9)), (10, .int (x10)), (11, .int (x11))]) C dL_isRope_141 (by decide) rfl ?_
        obtain ⟨z11, hlp11, hfo11⟩ := bind_some hf
        clear hf
        have hloop11 : ∀ (k : Nat), ∀ (x7 : Int32) (x12 : Int32), (lpn (f_L_isRope_L143 (h) (a0) (a1) (q1) (x3) (x4) (x5) (q2) (x8) (x9) (x10) (x11)) k (x7, x12)) = some z11 → G p l e ({ frames := 9, cells := 0, slots := 0, locals := 162 } : Room) s m args below meth c 13 g X h 0 0 (MQ below (QW g X h s.heap.size (some (.int r.1)) r.2) args s 0 0 (AF X h s.heap.size)) 143 [(0, .ref (a0)), (1, .int (a1)), (2, .int (q1)), (3, .int (x3)), (4, .int (x4)), (5, .int (x5)), (6, .int (q2)), (7, .int (x7)), (8, .int (x8)), (9, .int (x9)), (10, .int (x10)), (11, .int (x11)), (12, .int (x12))] [] h := by
          intro k
          induction k with
          | zero => intro x7 x12 hlp11; exact (lpn_0 hlp11).elim
          | succ k ih11 =>
            intro x7 x12 hlp11
            obtain ⟨y11, hf, hlp11⟩ := lpn_s hlp11
            unfold f_L_isRope_L143 at hf
            try dsimp only at hf
            have hj178 : ∀ (x12 : Int32) (k0 : Int32), f_L_isRope_J178 h (a0) (a1) (q1) (x3) (x4) (x5) (q2) (x8) (x9) (x10) (x11) (x12) k0 = some y11 → G p l e ({ frames := 9, cells := 0, slots := 0, locals := 162 } : Room) s m args below meth c 13 g X h 0 0 (MQ below (QW g X h s.heap.size (some (.int r.1)) r.2) args s 0 0 (AF X h s.heap.size)) 178 [(0, .ref (a0)), (1, .int (a1)), (2, .int (q1)), (3, .int (x3)), (4, .int (x4)), (5, .int (x5)), (6, .int (q2)), (8, .int (x8)), (9, .int (x9)), (10, .int (x10)), (11, .int (x11)), (12, .int (x12))] [.int (k0)] h := by
              intro x12 k0 hf
              unfold f_L_isRope_J178 at hf
              refine G.istore (lv' := [(7, .int (k0)), (0, .ref (a0)), (1, .int (a1)), (2, .int (q1)), (3, .int (x3)), (4, .int (x4)), (5, .int (x5)), (6, .int (q2)), (8, .int (x8)), (9, .int (x9)), (10, .int (x10)), (11, .int (x11)), (12, .int (x12))]) C dL_isRope_178 (by decide) rfl ?_
              refine G.iinc (k := 12) (v := (x12 + 1)) (lv' := [(12, .int ((x12 + 1))), (7, .int (k0)), (0, .ref (a0)), (1, .int (a1)), (2, .int (q1)), (3, .int (x3)), (4, .int (x4)), (5, .int (x5)), (6, .int (q2)), (8, .int (x8)), (9, .int (x9)), (10, .int (x10)), (11, .int (x11))]) C dL_isRope_180 rfl rfl (by decide) rfl ?_
              refine G.goto (tgt := 143) C dL_isRope_183 (by decide) ?_
              cases hf
              refine G.sub C [2, 3, 4, 5, 6, 7, 8, 1, 9, 10, 11, 12, 0] (lv' := [(0, .ref (a0)), (1, .int (a1)), (2, .int (q1)), (3, .int (x3)), (4, .int (x4)), (5, .int (x5)), (6, .int (q2)), (7, .int (k0)), (8, .int (x8)), (9, .int (x9)), (10, .int (x10)), (11, .int (x11)), (12, .int ((x12 + 1)))]) rfl ?_
              exact ih11 _ _ hlp11
            refine G.iload C 12 dL_isRope_143 rfl ?_
            refine G.iload C 11 dL_isRope_145 rfl ?_
            refine G.icmp_ge (tgt := 186) C dL_isRope_147 (by decide) hf (fun c15 hf => ?_) (fun c15 hf => ?_)
            · cases hf
              change some _ = some _ at hlp11
              have hf := hfo11
              try rw [← Option.some.inj hlp11] at hf
              try dsimp only at hf
              refine G.sub C [0, 1, 2, 3, 4, 5, 6, 7, 8, 9, 11] (lv' := [(0, .ref (a0)), (1, .int (a1)), (2, .int (q1)), (3, .int (x3)), (4, .int (x4)), (5, .int (x5)), (6, .int (q2)), (7, .int (x7)), (8, .int (x8)), (9, .int (x9)), (11, .int (x11))]) rfl ?_
              exact hj186 _ _ _ _ _ _ _ hf
            · refine G.iload C 7 dL_isRope_150 rfl ?_
              refine G.if_eq (tgt := 186) C dL_isRope_152 (by decide) hf (fun c14 hf => ?_) (fun c14 hf => ?_)
              · cases hf
                change some _ = some _ at hlp11
                have hf := hfo11
                try rw [← Option.some.inj hlp11] at hf
                try dsimp only at hf
                refine G.sub C [0, 1, 2, 3, 4, 5, 6, 7, 8, 9, 11] (lv' := [(0, .ref (a0)), (1, .int (a1)), (2, .int (q1)), (3, .int (x3)), (4, .int (x4)), (5, .int (x5)), (6, .int (q2)), (7, .int (x7)), (8, .int (x8)), (9, .int (x9)), (11, .int (x11))]) rfl ?_
                exact hj186 _ _ _ _ _ _ _ hf
              · refine G.aload_n C 0 dL_isRope_155 rfl rfl ?_
                refine G.iload_n C 1 dL_isRope_156 rfl rfl ?_
                refine G.iload C 9 dL_isRope_157 rfl ?_
                refine G.iload C 12 dL_isRope_159 rfl ?_
                refine G.iload C 10 dL_isRope_161 rfl ?_
                refine G.imul C dL_isRope_163 ?_
                refine G.iadd C dL_isRope_164 ?_
                obtain ⟨q12, hq12, hf⟩ := bind_some hf
                try dsimp only at hf
                have hq12 := okL9_at hq12
                refine G.callX9 C TT (st := []) (st2 := [.int (q12)]) (cx_X5_place hq12) rfl (ko_X5_place hq12) rfl m9_214 m9_215 m9_216 m9_2 m9_217 kd_X5_place ⟨Nat.le_of_ble_eq_true rfl, Nat.le_of_ble_eq_true rfl⟩ ⟨Nat.le_of_ble_eq_true rfl, Nat.le_of_ble_eq_true rfl⟩ (Nat.le_of_ble_eq_true rfl) rfl rfl dL_isRope_165 ?_
                refine G.iload C 8 dL_isRope_168 rfl ?_
                refine G.icmp_ne (tgt := 177) C dL_isRope_170 (by decide) hf (fun c13 hf => ?_) (fun c13 hf => ?_)
                · refine G.iconst (v := 0) C dL_isRope_177 (by decide) ?_
                  refine G.sub C [0, 1, 2, 3, 4, 5, 6, 8, 9, 10, 11, 12] (lv' := [(0, .ref (a0)), (1, .int (a1)), (2, .int (q1)), (3, .int (x3)), (4, .int (x4)), (5, .int (x5)), (6, .int (q2)), (8, .int (x8)), (9, .int (x9)), (10, .int (x10)), (11, .int (x11)), (12, .int (x12))]) rfl ?_
                  exact hj178 _ _ hf
                · refine G.iconst (v := 1) C dL_isRope_173 (by decide) ?_
                  refine G.goto (tgt := 178) C dL_isRope_174 (by decide) ?_
                  refine G.sub C [0, 1, 2, 3, 4, 5, 6, 8, 9, 10, 11, 12] (lv' := [(0, .ref (a0)), (1, .int (a1)), (2, .int (q1)), (3, .int (x3)), (4, .int (x4)), (5, .int (x5)), (6, .int (q2)), (8, .int (x8)), (9, .int (x9)), (10, .int (x10)), (11, .int (x11)), (12, .int (x12))]) rfl ?_
                  exact hj178 _ _ hf
        refine G.sub C [2, 3, 4, 5, 6, 7, 8, 1, 9, 10, 11, 12, 0] (lv' := [(0, .ref (a0)), (1, .int (a1)), (2, .int (q1)), (3, .int (x3)), (4, .int (x4)), (5, .int (x5)), (6, .int (q2)), (7, .int (k0)), (8, .int (x8)), (9, .int (x9)), (10, .int (x10)), (11, .int (x11)), (12, .int ((0 : Int32)))]) rfl ?_
        exact hloop11 LF _ _ hlp11
      have hj137 : ∀ (x3 : Int32) (x4 : Int32) (x5 : Int32) (x8 : Int32) (x9 : Int32) (x10 : Int32) (x11 : Int32), f_L_isRope_J137 h (a0) (a1) (q1) (x3) (x4) (x5) (q2) (x8) (x9) (x10) (x11) = some y3 → G p l e ({ frames := 9, cells := 0, slots := 0, locals := 162 } : Room) s m args below meth c 13 g X h 0 0 (MQ below (QW g X h s.heap.size (some (.int r.1)) r.2) args s 0 0 (AF X h s.heap.size)) 137 [(0, .ref (a0)), (1, .int (a1)), (2, .int (q1)), (3, .int (x3)), (4, .int (x4)), (5, .int (x5)), (6, .int (q2)), (8, .int (x8)), (9, .int (x9)), (10, .int (x10)), (11, .int (x11))] [] h := by
        intro x3 x4 x5 x8 x9 x10 x11 hf
        unfold f_L_isRope_J137 at hf
        refine G.iconst (v := 0) C dL_isRope_137 (by decide) ?_
        refine G.sub C [0, 1, 2, 3, 4, 5, 6, 7, 8, 9, 10] (lv' := [(0, .ref (a0)), (1, .int (a1)), (2, .int (q1)), (3, .int (x3)), (4, .int (x4)), (5, .int (x5)), (6, .int (q2)), (8, .int (x8)), (9, .int (x9)), (10, .int (x10)), (11, .int (x11))]) rfl ?_
        exact hj138 _ _ _ _ _ _ _ _ hf
      refine G.iload C 8 dL_isRope_29 rfl ?_
      refine G.bipush (v := 8) C dL_isRope_31 (by decide) ?_
      refine G.icmp_ge (tgt := 256) C dL_isRope_33 (by decide) hf (fun c29 hf => ?_) (fun c29 hf => ?_)
      · cases hf
        change some _ = some _ at hlp3
        have hf := hfo3
        try rw [← Option.some.inj hlp3] at hf
        try dsimp only at hf
        refine G.sub C [0, 1, 2, 3, 4, 5, 6, 7] (lv' := [(0, .ref (a0)), (1, .int (a1)), (2, .int (q1)), (3, .int (x3)), (4, .int (x4)), (5, .int (x5)), (6, .int (q2)), (7, .int (x7))]) rfl ?_
        exact hj256 _ _ _ _ _ _ _ _ hf
      · refine G.iload C 7 dL_isRope_36 rfl ?_
        refine G.if_eq (tgt := 256) C dL_isRope_38 (by decide) hf (fun c28 hf => ?_) (fun c28 hf => ?_)
        · cases hf
          change some _ = some _ at hlp3
          have hf := hfo3
          try rw [← Option.some.inj hlp3] at hf
          try dsimp only at hf
          refine G.sub C [0, 1, 2, 3, 4, 5, 6, 7] (lv' := [(0, .ref (a0)), (1, .int (a1)), (2, .int (q1)), (3, .int (x3)), (4, .int (x4)), (5, .int (x5)), (6, .int (q2)), (7, .int (x7))]) rfl ?_
          exact hj256 _ _ _ _ _ _ _ _ hf
        · refine G.aload_n C 0 dL_isRope_41 rfl rfl ?_
          refine G.iload_n C 1 dL_isRope_42 rfl rfl ?_
          refine G.iload C 8 dL_isRope_43 rfl ?_
          refine G.iconst (v := 0) C dL_isRope_45 (by decide) ?_
          obtain ⟨q16, hq16, hf⟩ := bind_some hf
          try dsimp only at hf
          have hq16 := okL9_at hq16
          refine G.callX9 C TT (st := []) (st2 := [.int (q16)]) (cx_X5_hueOf hq16) rfl (ko_X5_hueOf hq16) rfl m9_191 m9_192 m9_193 m9_2 m9_194 kd_X5_hueOf ⟨Nat.le_of_ble_eq_true rfl, Nat.le_of_ble_eq_true rfl⟩ ⟨Nat.le_of_ble_eq_true rfl, Nat.le_of_ble_eq_true rfl⟩ (Nat.le_of_ble_eq_true rfl) rfl rfl dL_isRope_46 ?_
          refine G.istore (lv' := [(9, .int (q16)), (0, .ref (a0)), (1, .int (a1)), (2, .int (q1)), (3, .int (x3)), (4, .int (x4)), (5, .int (x5)), (6, .int (q2)), (7, .int (x7)), (8, .int (x8))]) C dL_isRope_49 (by decide) rfl ?_
          refine G.aload_n C 1 dL_isRope_51 rfl rfl ?_
          refine G.iload C 9 dL_isRope_52 rfl ?_
          obtain ⟨q17, hq17, hf⟩ := bind_some hf
          try dsimp only at hf
          have hq17 := okL9_at hq17
          refine G.callX9 C TT (st := []) (st2 := [.int (q17)]) (cx_X5_gapOf hq17) rfl (ko_X5_gapOf hq17) rfl m9_210 m9_211 m9_212 m9_2 m9_213 kd_X5_gapOf ⟨Nat.le_of_ble_eq_true rfl, Nat.le_of_ble_eq_true rfl⟩ ⟨Nat.le_of_ble_eq_true rfl, Nat.le_of_ble_eq_true rfl⟩ (Nat.le_of_ble_eq_true rfl) rfl rfl dL_isRope_54 ?_
          refine G.istore (lv' := [(10, .int (q17)), (9, .int (q16)), (0, .ref (a0)), (1, .int (a1)), (2, .int (q1)), (3, .int (x3)), (4, .int (x4)), (5, .int (x5)), (6, .int (q2)), (7, .int (x7)), (8, .int (x8))]) C dL_isRope_57 (by decide) rfl ?_
          refine G.aload_n C 2 dL_isRope_59 rfl rfl ?_
          refine G.iload_n C 3 dL_isRope_60 rfl rfl ?_
          refine G.iload C 10 dL_isRope_61 rfl ?_
          refine G.iconst (v := 1) C dL_isRope_63 (by decide) ?_
          obtain ⟨q18, hq18, hf⟩ := bind_some hf
          try dsimp only at hf
          have hq18 := okL9_at hq18
          refine G.callX9 C TT (st := []) (st2 := [.int (q18)]) (cx_X5_hueOf hq18) rfl (ko_X5_hueOf hq18) rfl m9_191 m9_192 m9_193 m9_2 m9_194 kd_X5_hueOf ⟨Nat.le_of_ble_eq_true rfl, Nat.le_of_ble_eq_true rfl⟩ ⟨Nat.le_of_ble_eq_true rfl, Nat.le_of_ble_eq_true rfl⟩ (Nat.le_of_ble_eq_true rfl) rfl rfl dL_isRope_64 ?_
          refine G.istore (lv' := [(11, .int (q18)), (10, .int (q17)), (9, .int (q16)), (0, .ref (a0)), (1, .int (a1)), (2, .int (q1)), (3, .int (x3)), (4, .int (x4)), (5, .int (x5)), (6, .int (q2)), (7, .int (x7)), (8, .int (x8))]) C dL_isRope_67 (by decide) rfl ?_
          refine G.iload C 2 dL_isRope_69 rfl ?_
          refine G.if_lt (tgt := 209) C dL_isRope_71 (by decide) hf (fun c27 hf => ?_) (fun c27 hf => ?_)
          · refine G.sub C [3, 4, 5, 6, 7, 8, 9, 10, 11, 2] (lv' := [(0, .ref (a0)), (1, .int (a1)), (2, .int (q1)), (3, .int (x3)), (4, .int (x4)), (5, .int (x5)), (6, .int (q2)), (7, .int (x7)), (8, .int (x8)), (9, .int (q16))]) rfl ?_
            exact hj209 _ _ _ _ _ _ hf
          · refine G.iload C 2 dL_isRope_74 rfl ?_
            refine G.iload C 1 dL_isRope_76 rfl ?_
            refine G.icmp_ge (tgt := 137) C dL_isRope_78 (by decide) hf (fun c26 hf => ?_) (fun c26 hf => ?_)
            · refine G.sub C [3, 4, 5, 6, 7, 8, 9, 11, 2, 1, 0] (lv' := [(0, .ref (a0)), (1, .int (a1)), (2, .int (q1)), (3, .int (x3)), (4, .int (x4)), (5, .int (x5)), (6, .int (q2)), (8, .int (x8)), (9, .int (q16)), (10, .int (q17)), (11, .int (q18))]) rfl ?_
              exact hj137 _ _ _ _ _ _ _ hf
            · refine G.iload C 2 dL_isRope_81 rfl ?_
              refine G.iload_n C 5 dL_isRope_83 rfl rfl ?_
              refine G.icmp_ge (tgt := 137) C dL_isRope_84 (by decide) hf (fun c25 hf => ?_) (fun c25 hf => ?_)
              · refine G.sub C [3, 4, 5, 6, 7, 8, 9, 11, 2, 1, 0] (lv' := [(0, .ref (a0)), (1, .int (a1)), (2, .int (q1)), (3, .int (x3)), (4, .int (x4)), (5, .int (x5)), (6, .int (q2)), (8, .int (x8)), (9, .int (q16)), (10, .int (q17)), (11, .int (q18))]) rfl ?_
                exact hj137 _ _ _ _ _ _ _ hf
              · refine G.iload C 0 dL_isRope_87 rfl ?_
                refine G.iload_n C 5 dL_isRope_89 rfl rfl ?_
                refine G.iload C 2 dL_isRope_90 rfl ?_
                refine G.isub C dL_isRope_92 ?_
                refine G.iload C 1 dL_isRope_93 rfl ?_
                refine G.iadd C dL_isRope_95 ?_
                refine G.iconst (v := 1) C dL_isRope_96 (by decide) ?_
                refine G.isub C dL_isRope_97 ?_
                refine G.iload C 1 dL_isRope_98 rfl ?_
                obtain ⟨c19, hf⟩ := gd_ok hf
                refine G.idiv C dL_isRope_100 c19 ?_
                refine G.icmp_ne (tgt := 137) C dL_isRope_101 (by decide) hf (fun c24 hf => ?_) (fun c24 hf => ?_)
                · refine G.sub C [3, 4, 5, 6, 7, 8, 9, 11, 2, 1, 0] (lv' := [(0, .ref (a0)), (1, .int (a1)), (2, .int (q1)), (3, .int (x3)), (4, .int (x4)), (5, .int (x5)), (6, .int (q2)), (8, .int (x8)), (9, .int (q16)), (10, .int (q17)), (11, .int (q18))]) rfl ?_
                  exact hj137 _ _ _ _ _ _ _ hf
                · refine G.aload_n C 3 dL_isRope_104 rfl rfl ?_
                  refine G.iload_n C 4 dL_isRope_105 rfl rfl ?_
                  refine G.iload C 11 dL_isRope_106 rfl ?_
                  refine G.iconst (v := 2) C dL_isRope_108 (by decide) ?_
                  obtain ⟨q20, hq20, hf⟩ := bind_some hf
                  try dsimp only at hf
                  have hq20 := okL9_at hq20
                  refine G.callX9 C TT (st := []) (st2 := [.int (q20)]) (cx_X5_hueOf hq20) rfl (ko_X5_hueOf hq20) rfl m9_191 m9_192 m9_193 m9_2 m9_194 kd_X5_hueOf ⟨Nat.le_of_ble_eq_true rfl, Nat.le_of_ble_eq_true rfl⟩ ⟨Nat.le_of_ble_eq_true rfl, Nat.le_of_ble_eq_true rfl⟩ (Nat.le_of_ble_eq_true rfl) rfl rfl dL_isRope_109 ?_
                  refine G.iload C 2 dL_isRope_112 rfl ?_
                  refine G.iload C 0 dL_isRope_114 rfl ?_
                  refine G.iconst (v := 1) C dL_isRope_116 (by decide) ?_
                  refine G.isub C dL_isRope_117 ?_
                  refine G.iload C 1 dL_isRope_118 rfl ?_
                  refine G.imul C dL_isRope_120 ?_
                  refine G.iadd C dL_isRope_121 ?_
                  refine G.icmp_ne (tgt := 137) C dL_isRope_122 (by decide) hf (fun c23 hf => ?_) (fun c23 hf => ?_)
                  · refine G.sub C [3, 4, 5, 6, 7, 8, 9, 11, 2, 1, 0] (lv' := [(0, .ref (a0)), (1, .int (a1)), (2, .int (q1)), (3, .int (x3)), (4, .int (x4)), (5, .int (x5)), (6, .int (q2)), (8, .int (x8)), (9, .int (q16)), (10, .int (q17)), (11, .int (q18))]) rfl ?_
                    exact hj137 _ _ _ _ _ _ _ hf
                  · refine G.iload C 9 dL_isRope_125 rfl ?_
                    refine G.iload C 1 dL_isRope_127 rfl ?_
                    obtain ⟨c21, hf⟩ := gd_ok hf
                    refine G.irem C dL_isRope_129 c21 ?_
                    refine G.if_ne (tgt := 137) C dL_isRope_130 (by decide) hf (fun c22 hf => ?_) (fun c22 hf => ?_)
                    · refine G.sub C [3, 4, 5, 6, 7, 8, 9, 11, 2, 1, 0] (lv' := [(0, .ref (a0)), (1, .int (a1)), (2, .int (q1)), (3, .int (x3)), (4, .int (x4)), (5, .int (x5)), (6, .int (q2)), (8, .int (x8)), (9, .int (q16)), (10, .int (q17)), (11, .int (q18))]) rfl ?_
                      exact hj137 _ _ _ _ _ _ _ hf
                    · refine G.iconst (v := 1) C dL_isRope_133 (by decide) ?_
                      refine G.goto (tgt := 138) C dL_isRope_134 (by decide) ?_
                      refine G.sub C [3, 4, 5, 6, 7, 8, 9, 11, 2, 1, 0] (lv' := [(0, .ref (a0)), (1, .int (a1)), (2, .int (q1)), (3, .int (x3)), (4, .int (x4)), (5, .int (x5)), (6, .int (q2)), (8, .int (x8)), (9, .int (q16)), (10, .int (q17)), (11, .int (q18))]) rfl ?_
                      exact hj138 _ _ _ _ _ _ _ _ hf
  refine G.sub C [7, 8, 6, 5, 4, 3, 2, 1, 0] (lv' := [(0, .ref (a0)), (1, .int (a1)), (2, .int (q1)), (3, .int ((0 : Int32))), (4, .int ((0 : Int32))), (5, .int ((0 : Int32))), (6, .int (q2)), (7, .int ((1 : Int32))), (8, .int ((0 : Int32)))]) rfl ?_
  exact hloop3 LF _ _ _ _ _ hlp3
theorem kd_L_meets : yL_meets.cls ≠ "java/lang/invoke/MethodHandle" ∧ yL_meets.cls ≠ "java/lang/invoke/VarHandle" ∧ (parseMethodDescriptor yL_meets.desc).map (fun d => d.parameters.length) = some 2 := by decide +kernel
set_option maxRecDepth 20000 in
set_option maxHeartbeats 8000000 in
theorem cl_L_meets {l : Launch} {h : PH} {a0 : Nat} {a1 : Int32} {r : Int32} (hf : f_L_meets h a0 a1 = some r) : CL l yL_meets cL_meets 9 (some .boolean) 8 136 0 0 [.ref (a0), .int (a1)] h (some (.int r)) h := by
  refine CL.of (own := RL) rfl (by decide) (Nat.le_of_ble_eq_true rfl) ?_
  intro p e R s m args below meth c g X hR C TT
  subst hR
  unfold f_L_meets at hf
  have hj168 : ∀ (k0 : Int32), f_L_meets_J168 h k0 = some r → G p l e ({ frames := 8, cells := 0, slots := 0, locals := 136 } : Room) s m args below meth c 9 g X h 0 0 (MQ below (QW g X h s.heap.size (some (.int r)) h) args s 0 0 (AF X h s.heap.size)) 168 [] [.int (k0)] h := by
    intro k0 hf
    unfold f_L_meets_J168 at hf
    obtain ⟨c16, hf⟩ := gd_ok hf
    cases hf
    exact G.zretC C ⟨by omega, by omega⟩ rfl (z01_n c16) dL_meets_168
  have hj167 : f_L_meets_J167 h = some r → G p l e ({ frames := 8, cells := 0, slots := 0, locals := 136 } : Room) s m args below meth c 9 g X h 0 0 (MQ below (QW g X h s.heap.size (some (.int r)) h) args s 0 0 (AF X h s.heap.size)) 167 [] [] h := by
    intro hf
    unfold f_L_meets_J167 at hf
    refine G.iconst (v := 0) C dL_meets_167 (by decide) ?_
    refine G.sub C [] (lv' := []) rfl ?_
    exact hj168 _ hf
  have hj126 : ∀ (x0 : Nat) (x2 : Int32) (x3 : Int32) (x4 : Int32) (x5 : Int32) (x6 : Int32) (x7 : Int32), f_L_meets_J126 h (x0) (x2) (x3) (x4) (x5) (x6) (x7) = some r → G p l e ({ frames := 8, cells := 0, slots := 0, locals := 136 } : Room) s m args below meth c 9 g X h 0 0 (MQ below (QW g X h s.heap.size (some (.int r)) h) args s 0 0 (AF X h s.heap.size)) 126 [(0, .ref (x0)), (2, .int (x2)), (3, .int (x3)), (4, .int (x4)), (5, .int (x5)), (6, .int (x6)), (7, .int (x7))] [] h := by
    intro x0 x2 x3 x4 x5 x6 x7 hf
    unfold f_L_meets_J126 at hf
    refine G.iload C 5 dL_meets_126 rfl ?_
    refine G.iload C 6 dL_meets_128 rfl ?_
    refine G.icmp_ne (tgt := 167) C dL_meets_130 (by decide) hf (fun c21 hf => ?_) (fun c21 hf => ?_)
    · refine G.sub C [] (lv' := []) rfl ?_
      exact hj167  hf
    · refine G.aload_n C 0 dL_meets_133 rfl rfl ?_
      refine G.iload_n C 1 dL_meets_134 rfl rfl ?_
      refine G.iload C 3 dL_meets_135 rfl ?_
      refine G.iload_n C 2 dL_meets_137 rfl rfl ?_
      refine G.iload C 4 dL_meets_138 rfl ?_
      obtain ⟨q17, hq17, hf⟩ := bind_some hf
      try dsimp only at hf
      have hq17 := okL9_at hq17
      refine G.callX9 C TT (st := []) (st2 := [.int (q17)]) (cx_X5_walked hq17) rfl (ko_X5_walked hq17) rfl m9_473 m9_474 m9_475 m9_2 m9_476 kd_X5_walked ⟨Nat.le_of_ble_eq_true rfl, Nat.le_of_ble_eq_true rfl⟩ ⟨Nat.le_of_ble_eq_true rfl, Nat.le_of_ble_eq_true rfl⟩ (Nat.le_of_ble_eq_true rfl) rfl rfl dL_meets_140 ?_
      refine G.iload C 6 dL_meets_143 rfl ?_
      refine G.icmp_ne (tgt := 167) C dL_meets_145 (by decide) hf (fun c20 hf => ?_) (fun c20 hf => ?_)
      · refine G.sub C [] (lv' := []) rfl ?_
        exact hj167  hf
      · refine G.aload_n C 0 dL_meets_148 rfl rfl ?_
        refine G.iload_n C 2 dL_meets_149 rfl rfl ?_
        refine G.iload C 4 dL_meets_150 rfl ?_
        refine G.iload_n C 1 dL_meets_152 rfl rfl ?_
        refine G.iload C 3 dL_meets_153 rfl ?_
        obtain ⟨q18, hq18, hf⟩ := bind_some hf
        try dsimp only at hf
        have hq18 := okL9_at hq18
        refine G.callX9 C TT (st := []) (st2 := [.int (q18)]) (cx_X5_meeting hq18) rfl (ko_X5_meeting hq18) rfl m9_465 m9_466 m9_467 m9_2 m9_468 kd_X5_meeting ⟨Nat.le_of_ble_eq_true rfl, Nat.le_of_ble_eq_true rfl⟩ ⟨Nat.le_of_ble_eq_true rfl, Nat.le_of_ble_eq_true rfl⟩ (Nat.le_of_ble_eq_true rfl) rfl rfl dL_meets_155 ?_
        refine G.iload C 6 dL_meets_158 rfl ?_
        refine G.icmp_ne (tgt := 167) C dL_meets_160 (by decide) hf (fun c19 hf => ?_) (fun c19 hf => ?_)
        · refine G.sub C [] (lv' := []) rfl ?_
          exact hj167  hf
        · refine G.iconst (v := 1) C dL_meets_163 (by decide) ?_
          refine G.goto (tgt := 168) C dL_meets_164 (by decide) ?_
          refine G.sub C [] (lv' := []) rfl ?_
          exact hj168 _ hf
  refine G.sub C [0, 1] (lv' := [(0, .ref (a0)), (1, .int (a1))]) rfl ?_
  refine G.iload_n C 1 dL_meets_0 rfl rfl ?_
  refine G.bipush (v := 8) C dL_meets_1 (by decide) ?_
  obtain ⟨v1, hv1, hf⟩ := bind_some hf
  try dsimp only at hf
  refine G.callS C (st := []) (st2 := [.int (v1)]) (ct_L_low hv1) m9_330 m9_331 m9_64 m9_332 kd_L_low ⟨Nat.le_of_ble_eq_true rfl, Nat.le_of_ble_eq_true rfl⟩ ⟨Nat.le_of_ble_eq_true rfl, Nat.le_of_ble_eq_true rfl⟩ (Nat.le_of_ble_eq_true rfl) rfl rfl dL_meets_3 ?_
  refine G.istore_n (lv' := [(2, .int (v1)), (0, .ref (a0)), (1, .int (a1))]) C dL_meets_6 rfl (by decide) rfl ?_
  refine G.iload_n C 2 dL_meets_7 rfl rfl ?_
  refine G.iconst (v := 3) C dL_meets_8 (by decide) ?_
  refine G.ishr C dL_meets_9 ?_
  refine G.bipush (v := 8) C dL_meets_10 (by decide) ?_
  obtain ⟨v2, hv2, hf⟩ := bind_some hf
  try dsimp only at hf
  refine G.callS C (st := []) (st2 := [.int (v2)]) (ct_L_low hv2) m9_330 m9_331 m9_64 m9_332 kd_L_low ⟨Nat.le_of_ble_eq_true rfl, Nat.le_of_ble_eq_true rfl⟩ ⟨Nat.le_of_ble_eq_true rfl, Nat.le_of_ble_eq_true rfl⟩ (Nat.le_of_ble_eq_true rfl) rfl rfl dL_meets_12 ?_
  refine G.istore_n (lv' := [(3, .int (v2)), (2, .int (v1)), (0, .ref (a0)), (1, .int (a1))]) C dL_meets_15 rfl (by decide) rfl ?_
  refine G.iload_n C 3 dL_meets_16 rfl rfl ?_
  refine G.bipush (v := 6) C dL_meets_17 (by decide) ?_
  refine G.ishr C dL_meets_19 ?_
  refine G.aload_n C 2 dL_meets_20 rfl rfl ?_
  refine G.iload_n C 1 dL_meets_21 rfl rfl ?_
  obtain ⟨q3, hq3, hf⟩ := bind_some hf
  try dsimp only at hf
  have hq3 := okL9_at hq3
  refine G.callX9 C TT (st := [.int ((a1 >>> ((6 : Int32) &&& 31)))]) (st2 := [.int (q3), .int ((a1 >>> ((6 : Int32) &&& 31)))]) (cx_X5_gapOf hq3) rfl (ko_X5_gapOf hq3) rfl m9_210 m9_211 m9_212 m9_2 m9_213 kd_X5_gapOf ⟨Nat.le_of_ble_eq_true rfl, Nat.le_of_ble_eq_true rfl⟩ ⟨Nat.le_of_ble_eq_true rfl, Nat.le_of_ble_eq_true rfl⟩ (Nat.le_of_ble_eq_true rfl) rfl rfl dL_meets_22 ?_
  obtain ⟨v4, hv4, hf⟩ := bind_some hf
  try dsimp only at hf
  refine G.callS C (st := []) (st2 := [.int (v4)]) (ct_L_low hv4) m9_330 m9_331 m9_64 m9_332 kd_L_low ⟨Nat.le_of_ble_eq_true rfl, Nat.le_of_ble_eq_true rfl⟩ ⟨Nat.le_of_ble_eq_true rfl, Nat.le_of_ble_eq_true rfl⟩ (Nat.le_of_ble_eq_true rfl) rfl rfl dL_meets_25 ?_
  refine G.istore (lv' := [(4, .int (v4)), (3, .int (v2)), (2, .int (v1)), (0, .ref (a0)), (1, .int (a1))]) C dL_meets_28 (by decide) rfl ?_
  refine G.iload_n C 4 dL_meets_30 rfl rfl ?_
  refine G.bipush (v := 11) C dL_meets_31 (by decide) ?_
  refine G.ishr C dL_meets_33 ?_
  refine G.aload_n C 3 dL_meets_34 rfl rfl ?_
  refine G.iload_n C 1 dL_meets_35 rfl rfl ?_
  obtain ⟨q5, hq5, hf⟩ := bind_some hf
  try dsimp only at hf
  have hq5 := okL9_at hq5
  refine G.callX9 C TT (st := [.int ((a1 >>> ((11 : Int32) &&& 31)))]) (st2 := [.int (q5), .int ((a1 >>> ((11 : Int32) &&& 31)))]) (cx_X5_gapOf hq5) rfl (ko_X5_gapOf hq5) rfl m9_210 m9_211 m9_212 m9_2 m9_213 kd_X5_gapOf ⟨Nat.le_of_ble_eq_true rfl, Nat.le_of_ble_eq_true rfl⟩ ⟨Nat.le_of_ble_eq_true rfl, Nat.le_of_ble_eq_true rfl⟩ (Nat.le_of_ble_eq_true rfl) rfl rfl dL_meets_36 ?_
  obtain ⟨v6, hv6, hf⟩ := bind_some hf
  try dsimp only at hf
  refine G.callS C (st := []) (st2 := [.int (v6)]) (ct_L_low hv6) m9_330 m9_331 m9_64 m9_332 kd_L_low ⟨Nat.le_of_ble_eq_true rfl, Nat.le_of_ble_eq_true rfl⟩ ⟨Nat.le_of_ble_eq_true rfl, Nat.le_of_ble_eq_true rfl⟩ (Nat.le_of_ble_eq_true rfl) rfl rfl dL_meets_39 ?_
  refine G.istore (lv' := [(5, .int (v6)), (4, .int (v4)), (3, .int (v2)), (2, .int (v1)), (0, .ref (a0)), (1, .int (a1))]) C dL_meets_42 (by decide) rfl ?_
  refine G.aload_n C 4 dL_meets_44 rfl rfl ?_
  refine G.iload_n C 3 dL_meets_45 rfl rfl ?_
  refine G.iload C 1 dL_meets_46 rfl ?_
  refine G.iload_n C 2 dL_meets_48 rfl rfl ?_
  refine G.iload C 0 dL_meets_49 rfl ?_
  obtain ⟨q7, hq7, hf⟩ := bind_some hf
  try dsimp only at hf
  have hq7 := okL9_at hq7
  refine G.callX9 C TT (st := []) (st2 := [.int (q7)]) (cx_X5_meeting hq7) rfl (ko_X5_meeting hq7) rfl m9_465 m9_466 m9_467 m9_2 m9_468 kd_X5_meeting ⟨Nat.le_of_ble_eq_true rfl, Nat.le_of_ble_eq_true rfl⟩ ⟨Nat.le_of_ble_eq_true rfl, Nat.le_of_ble_eq_true rfl⟩ (Nat.le_of_ble_eq_true rfl) rfl rfl dL_meets_51 ?_
  refine G.istore (lv' := [(6, .int (q7)), (5, .int (v6)), (4, .int (v4)), (3, .int (v2)), (2, .int (v1)), (0, .ref (a0)), (1, .int (a1))]) C dL_meets_54 (by decide) rfl ?_
  refine G.iconst (v := (-1)) C dL_meets_56 (by decide) ?_
  refine G.istore (lv' := [(7, .int (((-1) : Int32))), (6, .int (q7)), (5, .int (v6)), (4, .int (v4)), (3, .int (v2)), (2, .int (v1)), (0, .ref (a0)), (1, .int (a1))]) C dL_meets_57 (by decide) rfl ?_
  refine G.sipush (v := 799) C dL_meets_59 (by decide) ?_
  refine G.istore (lv' := [(8, .int ((799 : Int32))), (7, .int (((-1) : Int32))), (6, .int (q7)), (5, .int (v6)), (4, .int (v4)), (3, .int (v2)), (2, .int (v1)), (0, .ref (a0)), (1, .int (a1))]) C dL_meets_62 (by decide) rfl ?_
  obtain ⟨z8, hlp8, hfo8⟩ := bind_some hf
  clear hf
  have hloop8 : ∀ (k : Nat), ∀ (x7 : Int32) (x8 : Int32), (lpn (f_L_meets_L64 (h) (a0) (v1) (v2) (v4) (v6) (q7)) k (x7, x8)) = some z8 → G p l e ({ frames := 8, cells := 0, slots := 0, locals := 136 } : Room) s m args below meth c 9 g X h 0 0 (MQ below (QW g X h s.heap.size (some (.int r)) h) args s 0 0 (AF X h s.heap.size)) 64 [(0, .ref (a0)), (2, .int (v1)), (3, .int (v2)), (4, .int (v4)), (5, .int (v6)), (6, .int (q7)), (7, .int (x7)), (8, .int (x8))] [] h := by
    intro k
    induction k with
    | zero => intro x7 x8 hlp8; exact (lpn_0 hlp8).elim
    | succ k ih8 =>
      intro x7 x8 hlp8
      obtain ⟨y8, hf, hlp8⟩ := lpn_s hlp8
      unfold f_L_meets_L64 at hf
      try dsimp only at hf
      have hj118 : ∀ (x8 : Int32) (k0 : Int32), f_L_meets_J118 h (a0) (v1) (v2) (v4) (v6) (q7) (x8) k0 = some y8 → G p l e ({ frames := 8, cells := 0, slots := 0, locals := 136 } : Room) s m args below meth c 9 g X h 0 0 (MQ below (QW g X h s.heap.size (some (.int r)) h) args s 0 0 (AF X h s.heap.size)) 118 [(0, .ref (a0)), (2, .int (v1)), (3, .int (v2)), (4, .int (v4)), (5, .int (v6)), (6, .int (q7)), (8, .int (x8))] [.int (k0)] h := by
        intro x8 k0 hf
        unfold f_L_meets_J118 at hf
        refine G.istore (lv' := [(7, .int (k0)), (0, .ref (a0)), (2, .int (v1)), (3, .int (v2)), (4, .int (v4)), (5, .int (v6)), (6, .int (q7)), (8, .int (x8))]) C dL_meets_118 (by decide) rfl ?_
        refine G.iinc (k := 7) (v := (x8 + (-1))) (lv' := [(8, .int ((x8 + (-1)))), (7, .int (k0)), (0, .ref (a0)), (2, .int (v1)), (3, .int (v2)), (4, .int (v4)), (5, .int (v6)), (6, .int (q7))]) C dL_meets_120 rfl rfl (by decide) rfl ?_
        refine G.goto (tgt := 64) C dL_meets_123 (by decide) ?_
        cases hf
        refine G.sub C [2, 3, 4, 5, 6, 7, 1, 0] (lv' := [(0, .ref (a0)), (2, .int (v1)), (3, .int (v2)), (4, .int (v4)), (5, .int (v6)), (6, .int (q7)), (7, .int (k0)), (8, .int ((x8 + (-1))))]) rfl ?_
        exact ih8 _ _ hlp8
      have hj116 : ∀ (x7 : Int32) (x8 : Int32), f_L_meets_J116 h (a0) (v1) (v2) (v4) (v6) (q7) (x7) (x8) = some y8 → G p l e ({ frames := 8, cells := 0, slots := 0, locals := 136 } : Room) s m args below meth c 9 g X h 0 0 (MQ below (QW g X h s.heap.size (some (.int r)) h) args s 0 0 (AF X h s.heap.size)) 116 [(0, .ref (a0)), (2, .int (v1)), (3, .int (v2)), (4, .int (v4)), (5, .int (v6)), (6, .int (q7)), (7, .int (x7)), (8, .int (x8))] [] h := by
        intro x7 x8 hf
        unfold f_L_meets_J116 at hf
        refine G.iload C 6 dL_meets_116 rfl ?_
        refine G.sub C [0, 1, 2, 3, 4, 5, 7] (lv' := [(0, .ref (a0)), (2, .int (v1)), (3, .int (v2)), (4, .int (v4)), (5, .int (v6)), (6, .int (q7)), (8, .int (x8))]) rfl ?_
        exact hj118 _ _ hf
      refine G.iload C 7 dL_meets_64 rfl ?_
      refine G.if_lt (tgt := 126) C dL_meets_66 (by decide) hf (fun c17 hf => ?_) (fun c17 hf => ?_)
      · cases hf
        change some _ = some _ at hlp8
        have hf := hfo8
        try rw [← Option.some.inj hlp8] at hf
        try dsimp only at hf
        refine G.sub C [0, 1, 2, 3, 4, 5, 6] (lv' := [(0, .ref (a0)), (2, .int (v1)), (3, .int (v2)), (4, .int (v4)), (5, .int (v6)), (6, .int (q7)), (7, .int (x7))]) rfl ?_
        exact hj126 _ _ _ _ _ _ _ hf
      · refine G.iload C 7 dL_meets_69 rfl ?_
        refine G.iload C 3 dL_meets_71 rfl ?_
        refine G.icmp_lt (tgt := 116) C dL_meets_73 (by decide) hf (fun c16 hf => ?_) (fun c16 hf => ?_)
        · refine G.sub C [0, 1, 2, 3, 4, 5, 6, 7] (lv' := [(0, .ref (a0)), (2, .int (v1)), (3, .int (v2)), (4, .int (v4)), (5, .int (v6)), (6, .int (q7)), (7, .int (x7)), (8, .int (x8))]) rfl ?_
          exact hj116 _ _ hf
        · refine G.iload C 7 dL_meets_76 rfl ?_
          refine G.iload C 4 dL_meets_78 rfl ?_
          refine G.icmp_lt (tgt := 116) C dL_meets_80 (by decide) hf (fun c15 hf => ?_) (fun c15 hf => ?_)
          · refine G.sub C [0, 1, 2, 3, 4, 5, 6, 7] (lv' := [(0, .ref (a0)), (2, .int (v1)), (3, .int (v2)), (4, .int (v4)), (5, .int (v6)), (6, .int (q7)), (7, .int (x7)), (8, .int (x8))]) rfl ?_
            exact hj116 _ _ hf
          · refine G.iload C 7 dL_meets_83 rfl ?_
            refine G.iload C 3 dL_meets_85 rfl ?_
            refine G.isub C dL_meets_87 ?_
            refine G.aload_n C 0 dL_meets_88 rfl rfl ?_
            refine G.iload_n C 1 dL_meets_89 rfl rfl ?_
            obtain ⟨q9, hq9, hf⟩ := bind_some hf
            try dsimp only at hf
            have hq9 := okL9_at hq9
            refine G.callX9 C TT (st := [.int ((x8 - v4))]) (st2 := [.int (q9), .int ((x8 - v4))]) (cx_X5_gapOf hq9) rfl (ko_X5_gapOf hq9) rfl m9_210 m9_211 m9_212 m9_2 m9_213 kd_X5_gapOf ⟨Nat.le_of_ble_eq_true rfl, Nat.le_of_ble_eq_true rfl⟩ ⟨Nat.le_of_ble_eq_true rfl, Nat.le_of_ble_eq_true rfl⟩ (Nat.le_of_ble_eq_true rfl) rfl rfl dL_meets_90 ?_
            obtain ⟨c10, hf⟩ := gd_ok hf
            refine G.irem C dL_meets_93 c10 ?_
            refine G.if_ne (tgt := 116) C dL_meets_94 (by decide) hf (fun c14 hf => ?_) (fun c14 hf => ?_)
            · refine G.sub C [0, 1, 2, 3, 4, 5, 6, 7] (lv' := [(0, .ref (a0)), (2, .int (v1)), (3, .int (v2)), (4, .int (v4)), (5, .int (v6)), (6, .int (q7)), (7, .int (x7)), (8, .int (x8))]) rfl ?_
              exact hj116 _ _ hf
            · refine G.iload C 7 dL_meets_97 rfl ?_
              refine G.iload C 4 dL_meets_99 rfl ?_
              refine G.isub C dL_meets_101 ?_
              refine G.aload_n C 0 dL_meets_102 rfl rfl ?_
              refine G.iload_n C 2 dL_meets_103 rfl rfl ?_
              obtain ⟨q11, hq11, hf⟩ := bind_some hf
              try dsimp only at hf
              have hq11 := okL9_at hq11
              refine G.callX9 C TT (st := [.int ((x8 - v6))]) (st2 := [.int (q11), .int ((x8 - v6))]) (cx_X5_gapOf hq11) rfl (ko_X5_gapOf hq11) rfl m9_210 m9_211 m9_212 m9_2 m9_213 kd_X5_gapOf ⟨Nat.le_of_ble_eq_true rfl, Nat.le_of_ble_eq_true rfl⟩ ⟨Nat.le_of_ble_eq_true rfl, Nat.le_of_ble_eq_true rfl⟩ (Nat.le_of_ble_eq_true rfl) rfl rfl dL_meets_104 ?_
              obtain ⟨c12, hf⟩ := gd_ok hf
              refine G.irem C dL_meets_107 c12 ?_
              refine G.if_ne (tgt := 116) C dL_meets_108 (by decide) hf (fun c13 hf => ?_) (fun c13 hf => ?_)
              · refine G.sub C [0, 1, 2, 3, 4, 5, 6, 7] (lv' := [(0, .ref (a0)), (2, .int (v1)), (3, .int (v2)), (4, .int (v4)), (5, .int (v6)), (6, .int (q7)), (7, .int (x7)), (8, .int (x8))]) rfl ?_
                exact hj116 _ _ hf
              · refine G.iload C 7 dL_meets_111 rfl ?_
                refine G.goto (tgt := 118) C dL_meets_113 (by decide) ?_
                refine G.sub C [0, 1, 2, 3, 4, 5, 7] (lv' := [(0, .ref (a0)), (2, .int (v1)), (3, .int (v2)), (4, .int (v4)), (5, .int (v6)), (6, .int (q7)), (8, .int (x8))]) rfl ?_
                exact hj118 _ _ hf
  refine G.sub C [7, 6, 5, 4, 3, 2, 1, 0] (lv' := [(0, .ref (a0)), (2, .int (v1)), (3, .int (v2)), (4, .int (v4)), (5, .int (v6)), (6, .int (q7)), (7, .int (((-1) : Int32))), (8, .int ((799 : Int32)))]) rfl ?_
  exact hloop8 LF _ _ hlp8
theorem kd_L_holds : yL_holds.cls ≠ "java/lang/invoke/MethodHandle" ∧ yL_holds.cls ≠ "java/lang/invoke/VarHandle" ∧ (parseMethodDescriptor yL_holds.desc).map (fun d => d.parameters.length) = some 1 := by decide +kernel
set_option maxRecDepth 20000 in
set_option maxHeartbeats 8000000 in
theorem cl_L_holds {l : Launch} {h : PH} {a0 : Nat} {r : (Int32 × PH)} (hf : f_L_holds h a0 = some r) : CL l yL_holds cL_holds 5 (some .boolean) 10 194 0 0 [.ref (a0)] h (some (.int r.1)) r.2 := by
  refine CL.of (own := RL) rfl (by decide) (Nat.le_of_ble_eq_true rfl) ?_
  intro p e R s m args below meth c g X hR C TT
  subst hR
  unfold f_L_holds at hf
  have hj106 : ∀ (hh : PH) (k0 : Int32), f_L_holds_J106 hh k0 = some r → G p l e ({ frames := 10, cells := 0, slots := 0, locals := 194 } : Room) s m args below meth c 5 g X h 0 0 (MQ below (QW g X h s.heap.size (some (.int r.1)) r.2) args s 0 0 (AF X h s.heap.size)) 106 [] [.int (k0)] hh := by
    intro hh k0 hf
    unfold f_L_holds_J106 at hf
    obtain ⟨c11, hf⟩ := gd_ok hf
    cases hf
    exact G.zretC C ⟨by omega, by omega⟩ rfl (z01_n c11) dL_holds_106
  have hj105 : ∀ (hh : PH), f_L_holds_J105 hh = some r → G p l e ({ frames := 10, cells := 0, slots := 0, locals := 194 } : Room) s m args below meth c 5 g X h 0 0 (MQ below (QW g X h s.heap.size (some (.int r.1)) r.2) args s 0 0 (AF X h s.heap.size)) 105 [] [] hh := by
    intro hh hf
    unfold f_L_holds_J105 at hf
    refine G.iconst (v := 0) C dL_holds_105 (by decide) ?_
    refine G.sub C [] (lv' := []) rfl ?_
    exact hj106 _ _ hf
  have hj97 : ∀ (hh : PH) (k0 : UInt64) (k1 : UInt64), f_L_holds_J97 hh k0 k1 = some r → G p l e ({ frames := 10, cells := 0, slots := 0, locals := 194 } : Room) s m args below meth c 5 g X h 0 0 (MQ below (QW g X h s.heap.size (some (.int r.1)) r.2) args s 0 0 (AF X h s.heap.size)) 97 [] [.double (k1), .double (k0)] hh := by
    intro hh k0 k1 hf
    unfold f_L_holds_J97 at hf
    refine G.dcmp C dL_holds_97 ?_
    refine G.if_ne (tgt := 105) C dL_holds_98 (by decide) hf (fun c12 hf => ?_) (fun c12 hf => ?_)
    · refine G.sub C [] (lv' := []) rfl ?_
      exact hj105 _ hf
    · refine G.iconst (v := 1) C dL_holds_101 (by decide) ?_
      refine G.goto (tgt := 106) C dL_holds_102 (by decide) ?_
      refine G.sub C [] (lv' := []) rfl ?_
      exact hj106 _ _ hf
  have hj56 : ∀ (hh : PH) (x0 : Nat) (x1 : Int32) (x2 : Int32) (x3 : Int32), f_L_holds_J56 hh (x0) (x1) (x2) (x3) = some r → G p l e ({ frames := 10, cells := 0, slots := 0, locals := 194 } : Room) s m args below meth c 5 g X h 0 0 (MQ below (QW g X h s.heap.size (some (.int r.1)) r.2) args s 0 0 (AF X h s.heap.size)) 56 [(0, .ref (x0)), (1, .int (x1)), (2, .int (x2)), (3, .int (x3))] [] hh := by
    intro hh x0 x1 x2 x3 hf
    unfold f_L_holds_J56 at hf
    refine G.iload_n C 3 dL_holds_56 rfl rfl ?_
    refine G.if_eq (tgt := 105) C dL_holds_57 (by decide) hf (fun c20 hf => ?_) (fun c20 hf => ?_)
    · refine G.sub C [] (lv' := []) rfl ?_
      exact hj105 _ hf
    · refine G.iload_n C 1 dL_holds_60 rfl rfl ?_
      refine G.aload_n C 0 dL_holds_61 rfl rfl ?_
      refine G.iconst (v := 1) C dL_holds_62 (by decide) ?_
      obtain ⟨q13, hq13, hf⟩ := bind_some hf
      try dsimp only at hf
      have hq13 := okL9_at hq13
      refine G.callX9 C TT (st := [.int (x1)]) (st2 := [.int (q13), .int (x1)]) (cx_X5_count hq13) rfl (ko_X5_count hq13) rfl m9_66 m9_67 m9_68 m9_2 m9_69 kd_X5_count ⟨Nat.le_of_ble_eq_true rfl, Nat.le_of_ble_eq_true rfl⟩ ⟨Nat.le_of_ble_eq_true rfl, Nat.le_of_ble_eq_true rfl⟩ (Nat.le_of_ble_eq_true rfl) rfl rfl dL_holds_63 ?_
      refine G.icmp_ne (tgt := 105) C dL_holds_66 (by decide) hf (fun c19 hf => ?_) (fun c19 hf => ?_)
      · refine G.sub C [] (lv' := []) rfl ?_
        exact hj105 _ hf
      · refine G.iload_n C 2 dL_holds_69 rfl rfl ?_
        refine G.aload_n C 0 dL_holds_70 rfl rfl ?_
        refine G.iconst (v := 2) C dL_holds_71 (by decide) ?_
        obtain ⟨q14, hq14, hf⟩ := bind_some hf
        try dsimp only at hf
        have hq14 := okL9_at hq14
        refine G.callX9 C TT (st := [.int (x2)]) (st2 := [.int (q14), .int (x2)]) (cx_X5_count hq14) rfl (ko_X5_count hq14) rfl m9_66 m9_67 m9_68 m9_2 m9_69 kd_X5_count ⟨Nat.le_of_ble_eq_true rfl, Nat.le_of_ble_eq_true rfl⟩ ⟨Nat.le_of_ble_eq_true rfl, Nat.le_of_ble_eq_true rfl⟩ (Nat.le_of_ble_eq_true rfl) rfl rfl dL_holds_72 ?_
        refine G.icmp_ne (tgt := 105) C dL_holds_75 (by decide) hf (fun c18 hf => ?_) (fun c18 hf => ?_)
        · refine G.sub C [] (lv' := []) rfl ?_
          exact hj105 _ hf
        · refine G.aload_n C 0 dL_holds_78 rfl rfl ?_
          obtain ⟨q15, hq15, hf⟩ := bind_some hf
          try dsimp only at hf
          refine G.callV C (st := []) (st2 := [.double (q15)]) (ct_X5_fullness hq15) (ko_X5_fullness hq15) rfl m9_307 m9_308 m9_309 m9_2 m9_310 kd_X5_fullness ⟨Nat.le_of_ble_eq_true rfl, Nat.le_of_ble_eq_true rfl⟩ ⟨Nat.le_of_ble_eq_true rfl, Nat.le_of_ble_eq_true rfl⟩ (Nat.le_of_ble_eq_true rfl) rfl rfl dL_holds_79 ?_
          refine G.iload_n C 1 dL_holds_82 rfl rfl ?_
          refine G.if_ne (tgt := 90) C dL_holds_83 (by decide) hf (fun c17 hf => ?_) (fun c17 hf => ?_)
          · refine G.iload_n C 1 dL_holds_90 rfl rfl ?_
            refine G.iload_n C 2 dL_holds_91 rfl rfl ?_
            refine G.isub C dL_holds_92 ?_
            refine G.i2d C dL_holds_93 ?_
            refine G.iload_n C 1 dL_holds_94 rfl rfl ?_
            refine G.i2d C dL_holds_95 ?_
            obtain ⟨c16, hf⟩ := gd_ok hf
            refine G.ddiv C dL_holds_96 (nn64_ok c16) ?_
            refine G.sub C [] (lv' := []) rfl ?_
            exact hj97 _ _ _ hf
          · refine G.dconst1 C dL_holds_86 ?_
            refine G.goto (tgt := 97) C dL_holds_87 (by decide) ?_
            refine G.sub C [] (lv' := []) rfl ?_
            exact hj97 _ _ _ hf
  refine G.sub C [0] (lv' := [(0, .ref (a0))]) rfl ?_
  refine G.iconst (v := 0) C dL_holds_0 (by decide) ?_
  refine G.istore_n (lv' := [(1, .int ((0 : Int32))), (0, .ref (a0))]) C dL_holds_1 rfl (by decide) rfl ?_
  refine G.iconst (v := 0) C dL_holds_2 (by decide) ?_
  refine G.istore_n (lv' := [(2, .int ((0 : Int32))), (1, .int ((0 : Int32))), (0, .ref (a0))]) C dL_holds_3 rfl (by decide) rfl ?_
  refine G.iconst (v := 1) C dL_holds_4 (by decide) ?_
  refine G.istore_n (lv' := [(3, .int ((1 : Int32))), (2, .int ((0 : Int32))), (1, .int ((0 : Int32))), (0, .ref (a0))]) C dL_holds_5 rfl (by decide) rfl ?_
  refine G.iconst (v := 0) C dL_holds_6 (by decide) ?_
  refine G.istore (lv' := [(4, .int ((0 : Int32))), (3, .int ((1 : Int32))), (2, .int ((0 : Int32))), (1, .int ((0 : Int32))), (0, .ref (a0))]) C dL_holds_7 (by decide) rfl ?_
  obtain ⟨z1, hlp1, hfo1⟩ := bind_some hf
  clear hf
  have hloop1 : ∀ (k : Nat), ∀ (x1 : Int32) (x2 : Int32) (x3 : Int32) (x4 : Int32) (hh : PH), (lpn (f_L_holds_L9 (a0)) k (x1, x2, x3, x4, hh)) = some z1 → G p l e ({ frames := 10, cells := 0, slots := 0, locals := 194 } : Room) s m args below meth c 5 g X h 0 0 (MQ below (QW g X h s.heap.size (some (.int r.1)) r.2) args s 0 0 (AF X h s.heap.size)) 9 [(0, .ref (a0)), (1, .int (x1)), (2, .int (x2)), (3, .int (x3)), (4, .int (x4))] [] hh := by
    intro k
    induction k with
    | zero => intro x1 x2 x3 x4 hh hlp1; exact (lpn_0 hlp1).elim
    | succ k ih1 =>
      intro x1 x2 x3 x4 hh hlp1
      obtain ⟨y1, hf, hlp1⟩ := lpn_s hlp1
      unfold f_L_holds_L9 at hf
      try dsimp only at hf
      refine G.iload C 4 dL_holds_9 rfl ?_
      refine G.aload_n C 0 dL_holds_11 rfl rfl ?_
      refine G.iconst (v := 0) C dL_holds_12 (by decide) ?_
      obtain ⟨q2, hq2, hf⟩ := bind_some hf
      try dsimp only at hf
      have hq2 := okL9_at hq2
      refine G.callX9 C TT (st := [.int (x4)]) (st2 := [.int (q2), .int (x4)]) (cx_X5_count hq2) rfl (ko_X5_count hq2) rfl m9_66 m9_67 m9_68 m9_2 m9_69 kd_X5_count ⟨Nat.le_of_ble_eq_true rfl, Nat.le_of_ble_eq_true rfl⟩ ⟨Nat.le_of_ble_eq_true rfl, Nat.le_of_ble_eq_true rfl⟩ (Nat.le_of_ble_eq_true rfl) rfl rfl dL_holds_13 ?_
      refine G.icmp_ge (tgt := 56) C dL_holds_16 (by decide) hf (fun c7 hf => ?_) (fun c7 hf => ?_)
      · cases hf
        change some _ = some _ at hlp1
        have hf := hfo1
        try rw [← Option.some.inj hlp1] at hf
        try dsimp only at hf
        refine G.sub C [0, 1, 2, 3] (lv' := [(0, .ref (a0)), (1, .int (x1)), (2, .int (x2)), (3, .int (x3))]) rfl ?_
        exact hj56 _ _ _ _ _ hf
      · refine G.iload_n C 3 dL_holds_19 rfl rfl ?_
        refine G.if_eq (tgt := 56) C dL_holds_20 (by decide) hf (fun c6 hf => ?_) (fun c6 hf => ?_)
        · cases hf
          change some _ = some _ at hlp1
          have hf := hfo1
          try rw [← Option.some.inj hlp1] at hf
          try dsimp only at hf
          refine G.sub C [0, 1, 2, 3] (lv' := [(0, .ref (a0)), (1, .int (x1)), (2, .int (x2)), (3, .int (x3))]) rfl ?_
          exact hj56 _ _ _ _ _ hf
        · refine G.aload_n C 0 dL_holds_23 rfl rfl ?_
          refine G.iload C 4 dL_holds_24 rfl ?_
          obtain ⟨q3, hq3, hf⟩ := bind_some hf
          try dsimp only at hf
          refine G.callL0 C TT (st := []) (st2 := [.int (q3.1)]) (cl_L_isRope hq3) m9_136 m9_137 m9_64 m9_138 kd_L_isRope ⟨Nat.le_of_ble_eq_true rfl, Nat.le_of_ble_eq_true rfl⟩ ⟨Nat.le_of_ble_eq_true rfl, Nat.le_of_ble_eq_true rfl⟩ (Nat.le_of_ble_eq_true rfl) rfl rfl dL_holds_26 ?_
          refine G.istore_n (lv' := [(3, .int (q3.1)), (0, .ref (a0)), (1, .int (x1)), (2, .int (x2)), (4, .int (x4))]) C dL_holds_29 rfl (by decide) rfl ?_
          refine G.iload_n C 2 dL_holds_30 rfl rfl ?_
          refine G.aload_n C 1 dL_holds_31 rfl rfl ?_
          refine G.iload C 4 dL_holds_32 rfl ?_
          refine G.iconst (v := 0) C dL_holds_34 (by decide) ?_
          obtain ⟨q4, hq4, hf⟩ := bind_some hf
          try dsimp only at hf
          have hq4 := okL9_at hq4
          refine G.callX9 C TT (st := [.int (x1)]) (st2 := [.int (q4), .int (x1)]) (cx_X5_ropeOf hq4) rfl (ko_X5_ropeOf hq4) rfl m9_139 m9_140 m9_141 m9_2 m9_142 kd_X5_ropeOf ⟨Nat.le_of_ble_eq_true rfl, Nat.le_of_ble_eq_true rfl⟩ ⟨Nat.le_of_ble_eq_true rfl, Nat.le_of_ble_eq_true rfl⟩ (Nat.le_of_ble_eq_true rfl) rfl rfl dL_holds_35 ?_
          refine G.iadd C dL_holds_38 ?_
          refine G.istore_n (lv' := [(1, .int ((x1 + q4))), (3, .int (q3.1)), (0, .ref (a0)), (2, .int (x2)), (4, .int (x4))]) C dL_holds_39 rfl (by decide) rfl ?_
          refine G.iload_n C 3 dL_holds_40 rfl rfl ?_
          refine G.aload_n C 2 dL_holds_41 rfl rfl ?_
          refine G.iload C 4 dL_holds_42 rfl ?_
          refine G.iconst (v := 2) C dL_holds_44 (by decide) ?_
          obtain ⟨q5, hq5, hf⟩ := bind_some hf
          try dsimp only at hf
          have hq5 := okL9_at hq5
          refine G.callX9 C TT (st := [.int (x2)]) (st2 := [.int (q5), .int (x2)]) (cx_X5_ropeOf hq5) rfl (ko_X5_ropeOf hq5) rfl m9_139 m9_140 m9_141 m9_2 m9_142 kd_X5_ropeOf ⟨Nat.le_of_ble_eq_true rfl, Nat.le_of_ble_eq_true rfl⟩ ⟨Nat.le_of_ble_eq_true rfl, Nat.le_of_ble_eq_true rfl⟩ (Nat.le_of_ble_eq_true rfl) rfl rfl dL_holds_45 ?_
          refine G.iadd C dL_holds_48 ?_
          refine G.istore_n (lv' := [(2, .int ((x2 + q5))), (1, .int ((x1 + q4))), (3, .int (q3.1)), (0, .ref (a0)), (4, .int (x4))]) C dL_holds_49 rfl (by decide) rfl ?_
          refine G.iinc (k := 4) (v := (x4 + 1)) (lv' := [(4, .int ((x4 + 1))), (2, .int ((x2 + q5))), (1, .int ((x1 + q4))), (3, .int (q3.1)), (0, .ref (a0))]) C dL_holds_50 rfl rfl (by decide) rfl ?_
          refine G.goto (tgt := 9) C dL_holds_53 (by decide) ?_
          cases hf
          refine G.sub C [4, 2, 1, 3, 0] (lv' := [(0, .ref (a0)), (1, .int ((x1 + q4))), (2, .int ((x2 + q5))), (3, .int (q3.1)), (4, .int ((x4 + 1)))]) rfl ?_
          exact ih1 _ _ _ _ _ hlp1
  refine G.sub C [4, 3, 2, 1, 0] (lv' := [(0, .ref (a0)), (1, .int ((0 : Int32))), (2, .int ((0 : Int32))), (3, .int ((1 : Int32))), (4, .int ((0 : Int32)))]) rfl ?_
  exact hloop1 LF _ _ _ _ _ hlp1

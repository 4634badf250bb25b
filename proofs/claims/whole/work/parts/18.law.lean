theorem m9_76 : Cond.methodLink RL 99 yL_gap ∈ wsL_law := wc_4 _ (List.mem_of_getElem? (i := 4) rfl)
theorem m9_77 : Cond.static yL_gap ∈ wsL_law := wc_4 _ (List.mem_of_getElem? (i := 5) rfl)
theorem m9_78 : Cond.initialized RL ∈ wsL_law := wc_4 _ (List.mem_of_getElem? (i := 6) rfl)
theorem m9_79 : Cond.codeWith yL_gap cL_gap 5 (some .int) [(0, 10, 13, 13), (0, 10, 17, 15), (0, 10, 21, 17)] ∈ wsL_law := wc_4 _ (List.mem_of_getElem? (i := 7) rfl)
theorem m9_137 : Cond.methodLink RL 104 yX6_gap ∈ wsL_law := wc_6 _ (List.mem_of_getElem? (i := 17) rfl)
theorem m9_138 : Cond.instanceMethod yX6_gap ∈ wsL_law := wc_6 _ (List.mem_of_getElem? (i := 18) rfl)
theorem m9_139 : Cond.selects RX6 yX6_gap yX6_gap ∈ wsL_law := wc_6 _ (List.mem_of_getElem? (i := 19) rfl)
theorem m9_140 : Cond.code yX6_gap cX6_gap 4 (some .int) ∈ wsL_law := wc_6 _ (List.mem_of_getElem? (i := 20) rfl)
theorem m9_172 : Cond.methodLink RL 105 yX6_thrown ∈ wsL_law := wc_8 _ (List.mem_of_getElem? (i := 4) rfl)
theorem m9_173 : Cond.instanceMethod yX6_thrown ∈ wsL_law := wc_8 _ (List.mem_of_getElem? (i := 5) rfl)
theorem m9_174 : Cond.selects RX6 yX6_thrown yX6_thrown ∈ wsL_law := wc_8 _ (List.mem_of_getElem? (i := 6) rfl)
theorem m9_175 : Cond.code yX6_thrown cX6_thrown 1 (some .int) ∈ wsL_law := wc_8 _ (List.mem_of_getElem? (i := 7) rfl)
theorem m9_176 : Cond.methodLink RL 108 yL_rope ∈ wsL_law := wc_8 _ (List.mem_of_getElem? (i := 8) rfl)
theorem m9_177 : Cond.static yL_rope ∈ wsL_law := wc_8 _ (List.mem_of_getElem? (i := 9) rfl)
theorem m9_178 : Cond.codeWith yL_rope cL_rope 4 (some .int) [(0, 9, 12, 15), (0, 9, 15, 17)] ∈ wsL_law := wc_8 _ (List.mem_of_getElem? (i := 10) rfl)
theorem m9_210 : Cond.methodLink RL 111 yX6_rope ∈ wsL_law := wc_9 _ (List.mem_of_getElem? (i := 18) rfl)
theorem m9_211 : Cond.instanceMethod yX6_rope ∈ wsL_law := wc_9 _ (List.mem_of_getElem? (i := 19) rfl)
theorem m9_212 : Cond.selects RX6 yX6_rope yX6_rope ∈ wsL_law := wc_9 _ (List.mem_of_getElem? (i := 20) rfl)
theorem m9_213 : Cond.code yX6_rope cX6_rope 2 (some .int) ∈ wsL_law := wc_9 _ (List.mem_of_getElem? (i := 21) rfl)
theorem m9_222 : Cond.methodLink RL 112 yL_drop ∈ wsL_law := wc_10 _ (List.mem_of_getElem? (i := 6) rfl)
theorem m9_223 : Cond.static yL_drop ∈ wsL_law := wc_10 _ (List.mem_of_getElem? (i := 7) rfl)
theorem m9_224 : Cond.codeWith yL_drop cL_drop 4 (some .int) [(0, 9, 12, 13)] ∈ wsL_law := wc_10 _ (List.mem_of_getElem? (i := 8) rfl)
theorem m9_238 : Cond.methodLink RL 114 yX6_drop ∈ wsL_law := wc_10 _ (List.mem_of_getElem? (i := 22) rfl)
theorem m9_239 : Cond.instanceMethod yX6_drop ∈ wsL_law := wc_10 _ (List.mem_of_getElem? (i := 23) rfl)
theorem m9_240 : Cond.selects RX6 yX6_drop yX6_drop ∈ wsL_law := wc_11 _ (List.mem_of_getElem? (i := 0) rfl)
theorem m9_241 : Cond.code yX6_drop cX6_drop 2 (some .int) ∈ wsL_law := wc_11 _ (List.mem_of_getElem? (i := 1) rfl)
theorem m9_250 : Cond.methodLink RL 115 yL_lay ∈ wsL_law := wc_11 _ (List.mem_of_getElem? (i := 10) rfl)
theorem m9_251 : Cond.static yL_lay ∈ wsL_law := wc_11 _ (List.mem_of_getElem? (i := 11) rfl)
theorem m9_252 : Cond.codeWith yL_lay cL_lay 6 (some .int) [(0, 12, 15, 13), (0, 12, 19, 15), (0, 12, 23, 17)] ∈ wsL_law := wc_11 _ (List.mem_of_getElem? (i := 12) rfl)
theorem m9_283 : Cond.methodLink RL 118 yX6_lay ∈ wsL_law := wc_12 _ (List.mem_of_getElem? (i := 19) rfl)
theorem m9_284 : Cond.instanceMethod yX6_lay ∈ wsL_law := wc_12 _ (List.mem_of_getElem? (i := 20) rfl)
theorem m9_285 : Cond.selects RX6 yX6_lay yX6_lay ∈ wsL_law := wc_12 _ (List.mem_of_getElem? (i := 21) rfl)
theorem m9_286 : Cond.code yX6_lay cX6_lay 4 (some .int) ∈ wsL_law := wc_12 _ (List.mem_of_getElem? (i := 22) rfl)
theorem m9_315 : Cond.methodLink RL 119 yL_take ∈ wsL_law := wc_14 _ (List.mem_of_getElem? (i := 3) rfl)
theorem m9_316 : Cond.static yL_take ∈ wsL_law := wc_14 _ (List.mem_of_getElem? (i := 4) rfl)
theorem m9_317 : Cond.codeWith yL_take cL_take 5 (some .int) [(0, 10, 13, 13), (0, 10, 17, 17)] ∈ wsL_law := wc_14 _ (List.mem_of_getElem? (i := 5) rfl)
theorem m9_331 : Cond.methodLink RL 121 yX6_take ∈ wsL_law := wc_14 _ (List.mem_of_getElem? (i := 19) rfl)
theorem m9_332 : Cond.instanceMethod yX6_take ∈ wsL_law := wc_14 _ (List.mem_of_getElem? (i := 20) rfl)
theorem m9_333 : Cond.selects RX6 yX6_take yX6_take ∈ wsL_law := wc_14 _ (List.mem_of_getElem? (i := 21) rfl)
theorem m9_334 : Cond.code yX6_take cX6_take 4 (some .int) ∈ wsL_law := wc_14 _ (List.mem_of_getElem? (i := 22) rfl)
theorem m9_343 : Cond.methodLink RL 122 yL_stretch ∈ wsL_law := wc_15 _ (List.mem_of_getElem? (i := 7) rfl)
theorem m9_344 : Cond.static yL_stretch ∈ wsL_law := wc_15 _ (List.mem_of_getElem? (i := 8) rfl)
theorem m9_345 : Cond.codeWith yL_stretch cL_stretch 5 (some .int) [(0, 10, 13, 13), (0, 10, 17, 15), (0, 10, 21, 17)] ∈ wsL_law := wc_15 _ (List.mem_of_getElem? (i := 9) rfl)
theorem m9_385 : Cond.methodLink RL 124 yX6_stretch ∈ wsL_law := wc_17 _ (List.mem_of_getElem? (i := 1) rfl)
theorem m9_386 : Cond.instanceMethod yX6_stretch ∈ wsL_law := wc_17 _ (List.mem_of_getElem? (i := 2) rfl)
theorem m9_387 : Cond.selects RX6 yX6_stretch yX6_stretch ∈ wsL_law := wc_17 _ (List.mem_of_getElem? (i := 3) rfl)
theorem m9_388 : Cond.code yX6_stretch cX6_stretch 3 (some .int) ∈ wsL_law := wc_17 _ (List.mem_of_getElem? (i := 4) rfl)
theorem m9_401 : Cond.methodLink RL 125 yL_cut ∈ wsL_law := wc_17 _ (List.mem_of_getElem? (i := 17) rfl)
theorem m9_402 : Cond.static yL_cut ∈ wsL_law := wc_17 _ (List.mem_of_getElem? (i := 18) rfl)
theorem m9_403 : Cond.codeWith yL_cut cL_cut 5 (some .int) [(0, 10, 13, 13), (0, 10, 17, 15), (0, 10, 21, 17)] ∈ wsL_law := wc_17 _ (List.mem_of_getElem? (i := 19) rfl)
theorem m9_416 : Cond.methodLink RL 127 yX6_cut ∈ wsL_law := wc_18 _ (List.mem_of_getElem? (i := 8) rfl)
theorem m9_417 : Cond.instanceMethod yX6_cut ∈ wsL_law := wc_18 _ (List.mem_of_getElem? (i := 9) rfl)
theorem m9_418 : Cond.selects RX6 yX6_cut yX6_cut ∈ wsL_law := wc_18 _ (List.mem_of_getElem? (i := 10) rfl)
theorem m9_419 : Cond.code yX6_cut cX6_cut 4 (some .int) ∈ wsL_law := wc_18 _ (List.mem_of_getElem? (i := 11) rfl)
theorem m9_420 : Cond.methodLink RL 128 yL_turn ∈ wsL_law := wc_18 _ (List.mem_of_getElem? (i := 12) rfl)
theorem m9_421 : Cond.static yL_turn ∈ wsL_law := wc_18 _ (List.mem_of_getElem? (i := 13) rfl)
theorem m9_422 : Cond.codeWith yL_turn cL_turn 4 (some .int) [(0, 9, 12, 13)] ∈ wsL_law := wc_18 _ (List.mem_of_getElem? (i := 14) rfl)
theorem m9_439 : Cond.methodLink RL 130 yX6_turn ∈ wsL_law := wc_19 _ (List.mem_of_getElem? (i := 7) rfl)
theorem m9_440 : Cond.instanceMethod yX6_turn ∈ wsL_law := wc_19 _ (List.mem_of_getElem? (i := 8) rfl)
theorem m9_441 : Cond.selects RX6 yX6_turn yX6_turn ∈ wsL_law := wc_19 _ (List.mem_of_getElem? (i := 9) rfl)
theorem m9_442 : Cond.code yX6_turn cX6_turn 3 (some .int) ∈ wsL_law := wc_19 _ (List.mem_of_getElem? (i := 10) rfl)
theorem m9_455 : Cond.methodLink RL 131 yL_join ∈ wsL_law := wc_19 _ (List.mem_of_getElem? (i := 23) rfl)
theorem m9_456 : Cond.static yL_join ∈ wsL_law := wc_20 _ (List.mem_of_getElem? (i := 0) rfl)
theorem m9_457 : Cond.codeWith yL_join cL_join 5 (some .int) [(0, 10, 13, 13), (0, 10, 17, 17)] ∈ wsL_law := wc_20 _ (List.mem_of_getElem? (i := 1) rfl)
theorem m9_478 : Cond.methodLink RL 133 yX6_join ∈ wsL_law := wc_20 _ (List.mem_of_getElem? (i := 22) rfl)
theorem m9_479 : Cond.instanceMethod yX6_join ∈ wsL_law := wc_20 _ (List.mem_of_getElem? (i := 23) rfl)
theorem m9_480 : Cond.selects RX6 yX6_join yX6_join ∈ wsL_law := wc_21 _ (List.mem_of_getElem? (i := 0) rfl)
theorem m9_481 : Cond.code yX6_join cX6_join 4 (some .int) ∈ wsL_law := wc_21 _ (List.mem_of_getElem? (i := 1) rfl)
theorem m9_502 : Cond.methodLink RL 134 yL_append ∈ wsL_law := wc_21 _ (List.mem_of_getElem? (i := 22) rfl)
theorem m9_503 : Cond.static yL_append ∈ wsL_law := wc_21 _ (List.mem_of_getElem? (i := 23) rfl)
theorem m9_504 : Cond.codeWith yL_append cL_append 4 (some .int) [(0, 9, 12, 15), (0, 9, 15, 17)] ∈ wsL_law := wc_22 _ (List.mem_of_getElem? (i := 0) rfl)
theorem m9_521 : Cond.methodLink RL 136 yX6_append ∈ wsL_law := wc_22 _ (List.mem_of_getElem? (i := 17) rfl)
theorem m9_522 : Cond.instanceMethod yX6_append ∈ wsL_law := wc_22 _ (List.mem_of_getElem? (i := 18) rfl)
theorem m9_523 : Cond.selects RX6 yX6_append yX6_append ∈ wsL_law := wc_22 _ (List.mem_of_getElem? (i := 19) rfl)
theorem m9_524 : Cond.code yX6_append cX6_append 2 (some .int) ∈ wsL_law := wc_22 _ (List.mem_of_getElem? (i := 20) rfl)
theorem m9_526 : Cond.methodLink RL 137 yX5_clearBuffer ∈ wsL_law := wc_22 _ (List.mem_of_getElem? (i := 22) rfl)
theorem m9_527 : Cond.instanceMethod yX5_clearBuffer ∈ wsL_law := wc_22 _ (List.mem_of_getElem? (i := 23) rfl)
theorem m9_528 : Cond.selects RX5 yX5_clearBuffer yX5_clearBuffer ∈ wsL_law := wc_23 _ (List.mem_of_getElem? (i := 0) rfl)
theorem m9_529 : Cond.code yX5_clearBuffer cX5_clearBuffer 2 (some .int) ∈ wsL_law := wc_23 _ (List.mem_of_getElem? (i := 1) rfl)
theorem m9_534 : Cond.methodLink RL 140 yX6_clearBuffer ∈ wsL_law := wc_23 _ (List.mem_of_getElem? (i := 6) rfl)
theorem m9_535 : Cond.instanceMethod yX6_clearBuffer ∈ wsL_law := wc_23 _ (List.mem_of_getElem? (i := 7) rfl)
theorem m9_536 : Cond.selects RX6 yX6_clearBuffer yX6_clearBuffer ∈ wsL_law := wc_23 _ (List.mem_of_getElem? (i := 8) rfl)
theorem m9_537 : Cond.code yX6_clearBuffer cX6_clearBuffer 2 (some .int) ∈ wsL_law := wc_23 _ (List.mem_of_getElem? (i := 9) rfl)
theorem m9_538 : Cond.methodLink RL 141 yX5_firstError ∈ wsL_law := wc_23 _ (List.mem_of_getElem? (i := 10) rfl)
theorem m9_539 : Cond.instanceMethod yX5_firstError ∈ wsL_law := wc_23 _ (List.mem_of_getElem? (i := 11) rfl)
theorem m9_540 : Cond.selects RX5 yX5_firstError yX5_firstError ∈ wsL_law := wc_23 _ (List.mem_of_getElem? (i := 12) rfl)
theorem m9_541 : Cond.code yX5_firstError cX5_firstError 1 (some .int) ∈ wsL_law := wc_23 _ (List.mem_of_getElem? (i := 13) rfl)
theorem m9_571 : Cond.methodLink RL 144 yX6_firstError ∈ wsL_law := wc_24 _ (List.mem_of_getElem? (i := 19) rfl)
theorem m9_572 : Cond.instanceMethod yX6_firstError ∈ wsL_law := wc_24 _ (List.mem_of_getElem? (i := 20) rfl)
theorem m9_573 : Cond.selects RX6 yX6_firstError yX6_firstError ∈ wsL_law := wc_24 _ (List.mem_of_getElem? (i := 21) rfl)
theorem m9_574 : Cond.code yX6_firstError cX6_firstError 2 (some .int) ∈ wsL_law := wc_24 _ (List.mem_of_getElem? (i := 22) rfl)
theorem m9_604 : Cond.methodLink RL 145 yL_play ∈ wsL_law := wc_26 _ (List.mem_of_getElem? (i := 4) rfl)
theorem m9_605 : Cond.static yL_play ∈ wsL_law := wc_26 _ (List.mem_of_getElem? (i := 5) rfl)
theorem m9_606 : Cond.codeWith yL_play cL_play 3 (some .int) [(0, 8, 11, 15)] ∈ wsL_law := wc_26 _ (List.mem_of_getElem? (i := 6) rfl)
theorem m9_632 : Cond.methodLink RL 148 yX6_play ∈ wsL_law := wc_27 _ (List.mem_of_getElem? (i := 8) rfl)
theorem m9_633 : Cond.instanceMethod yX6_play ∈ wsL_law := wc_27 _ (List.mem_of_getElem? (i := 9) rfl)
theorem m9_634 : Cond.selects RX6 yX6_play yX6_play ∈ wsL_law := wc_27 _ (List.mem_of_getElem? (i := 10) rfl)
theorem m9_635 : Cond.code yX6_play cX6_play 3 (some .int) ∈ wsL_law := wc_27 _ (List.mem_of_getElem? (i := 11) rfl)
theorem m9_636 : Cond.methodLink RL 149 yL_undo ∈ wsL_law := wc_27 _ (List.mem_of_getElem? (i := 12) rfl)
theorem m9_637 : Cond.static yL_undo ∈ wsL_law := wc_27 _ (List.mem_of_getElem? (i := 13) rfl)
theorem m9_638 : Cond.codeWith yL_undo cL_undo 3 (some .int) [(0, 8, 11, 17)] ∈ wsL_law := wc_27 _ (List.mem_of_getElem? (i := 14) rfl)
theorem m9_651 : Cond.methodLink RL 151 yX6_undo ∈ wsL_law := wc_28 _ (List.mem_of_getElem? (i := 3) rfl)
theorem m9_652 : Cond.instanceMethod yX6_undo ∈ wsL_law := wc_28 _ (List.mem_of_getElem? (i := 4) rfl)
theorem m9_653 : Cond.selects RX6 yX6_undo yX6_undo ∈ wsL_law := wc_28 _ (List.mem_of_getElem? (i := 5) rfl)
theorem m9_654 : Cond.code yX6_undo cX6_undo 2 (some .int) ∈ wsL_law := wc_28 _ (List.mem_of_getElem? (i := 6) rfl)
theorem m9_655 : Cond.methodLink RL 152 yX5_keep ∈ wsL_law := wc_28 _ (List.mem_of_getElem? (i := 7) rfl)
theorem m9_656 : Cond.instanceMethod yX5_keep ∈ wsL_law := wc_28 _ (List.mem_of_getElem? (i := 8) rfl)
theorem m9_657 : Cond.selects RX5 yX5_keep yX5_keep ∈ wsL_law := wc_28 _ (List.mem_of_getElem? (i := 9) rfl)
theorem m9_658 : Cond.code yX5_keep cX5_keep 1 (some .int) ∈ wsL_law := wc_28 _ (List.mem_of_getElem? (i := 10) rfl)
theorem m9_660 : Cond.methodLink RL 155 yX6_keep ∈ wsL_law := wc_28 _ (List.mem_of_getElem? (i := 12) rfl)
theorem m9_661 : Cond.instanceMethod yX6_keep ∈ wsL_law := wc_28 _ (List.mem_of_getElem? (i := 13) rfl)
theorem m9_662 : Cond.selects RX6 yX6_keep yX6_keep ∈ wsL_law := wc_28 _ (List.mem_of_getElem? (i := 14) rfl)
theorem m9_663 : Cond.code yX6_keep cX6_keep 2 (some .int) ∈ wsL_law := wc_28 _ (List.mem_of_getElem? (i := 15) rfl)
theorem m9_665 : Cond.methodLink RL 156 yL_restore ∈ wsL_law := wc_28 _ (List.mem_of_getElem? (i := 17) rfl)
theorem m9_666 : Cond.static yL_restore ∈ wsL_law := wc_28 _ (List.mem_of_getElem? (i := 18) rfl)
theorem m9_667 : Cond.codeWith yL_restore cL_restore 3 (some .int) [(0, 8, 11, 17)] ∈ wsL_law := wc_28 _ (List.mem_of_getElem? (i := 19) rfl)
theorem m9_672 : Cond.methodLink RL 158 yX6_restore ∈ wsL_law := wc_29 _ (List.mem_of_getElem? (i := 0) rfl)
theorem m9_673 : Cond.instanceMethod yX6_restore ∈ wsL_law := wc_29 _ (List.mem_of_getElem? (i := 1) rfl)
theorem m9_674 : Cond.selects RX6 yX6_restore yX6_restore ∈ wsL_law := wc_29 _ (List.mem_of_getElem? (i := 2) rfl)
theorem m9_675 : Cond.code yX6_restore cX6_restore 2 (some .int) ∈ wsL_law := wc_29 _ (List.mem_of_getElem? (i := 3) rfl)
theorem m9_676 : Cond.methodLink RL 159 yL_place ∈ wsL_law := wc_29 _ (List.mem_of_getElem? (i := 4) rfl)
theorem m9_677 : Cond.static yL_place ∈ wsL_law := wc_29 _ (List.mem_of_getElem? (i := 5) rfl)
theorem m9_678 : Cond.codeWith yL_place cL_place 5 (some .int) [(0, 10, 13, 13)] ∈ wsL_law := wc_29 _ (List.mem_of_getElem? (i := 6) rfl)
theorem m9_684 : Cond.methodLink RL 161 yX6_place ∈ wsL_law := wc_29 _ (List.mem_of_getElem? (i := 12) rfl)
theorem m9_685 : Cond.instanceMethod yX6_place ∈ wsL_law := wc_29 _ (List.mem_of_getElem? (i := 13) rfl)
theorem m9_686 : Cond.selects RX6 yX6_place yX6_place ∈ wsL_law := wc_29 _ (List.mem_of_getElem? (i := 14) rfl)
theorem m9_687 : Cond.code yX6_place cX6_place 3 (some .int) ∈ wsL_law := wc_29 _ (List.mem_of_getElem? (i := 15) rfl)
theorem m9_688 : Cond.methodLink RL 162 yL_ropeOf ∈ wsL_law := wc_29 _ (List.mem_of_getElem? (i := 16) rfl)
theorem m9_689 : Cond.static yL_ropeOf ∈ wsL_law := wc_29 _ (List.mem_of_getElem? (i := 17) rfl)
theorem m9_690 : Cond.codeWith yL_ropeOf cL_ropeOf 5 (some .int) [(0, 10, 13, 13), (0, 10, 17, 15)] ∈ wsL_law := wc_29 _ (List.mem_of_getElem? (i := 18) rfl)
theorem m9_718 : Cond.methodLink RL 164 yX6_ropeOf ∈ wsL_law := wc_30 _ (List.mem_of_getElem? (i := 22) rfl)
theorem m9_719 : Cond.instanceMethod yX6_ropeOf ∈ wsL_law := wc_30 _ (List.mem_of_getElem? (i := 23) rfl)
theorem m9_720 : Cond.selects RX6 yX6_ropeOf yX6_ropeOf ∈ wsL_law := wc_31 _ (List.mem_of_getElem? (i := 0) rfl)
theorem m9_721 : Cond.code yX6_ropeOf cX6_ropeOf 3 (some .int) ∈ wsL_law := wc_31 _ (List.mem_of_getElem? (i := 1) rfl)
theorem m9_745 : Cond.methodLink RL 165 yL_hueOf ∈ wsL_law := wc_32 _ (List.mem_of_getElem? (i := 1) rfl)
theorem m9_746 : Cond.static yL_hueOf ∈ wsL_law := wc_32 _ (List.mem_of_getElem? (i := 2) rfl)
theorem m9_747 : Cond.codeWith yL_hueOf cL_hueOf 6 (some .int) [(0, 12, 15, 13), (0, 12, 19, 15)] ∈ wsL_law := wc_32 _ (List.mem_of_getElem? (i := 3) rfl)
theorem m9_758 : Cond.methodLink RL 167 yX6_hueOf ∈ wsL_law := wc_32 _ (List.mem_of_getElem? (i := 14) rfl)
theorem m9_759 : Cond.instanceMethod yX6_hueOf ∈ wsL_law := wc_32 _ (List.mem_of_getElem? (i := 15) rfl)
theorem m9_760 : Cond.selects RX6 yX6_hueOf yX6_hueOf ∈ wsL_law := wc_32 _ (List.mem_of_getElem? (i := 16) rfl)
theorem m9_761 : Cond.code yX6_hueOf cX6_hueOf 4 (some .int) ∈ wsL_law := wc_32 _ (List.mem_of_getElem? (i := 17) rfl)
theorem m9_770 : Cond.methodLink RL 168 yL_gapOf ∈ wsL_law := wc_33 _ (List.mem_of_getElem? (i := 2) rfl)
theorem m9_771 : Cond.static yL_gapOf ∈ wsL_law := wc_33 _ (List.mem_of_getElem? (i := 3) rfl)
theorem m9_772 : Cond.codeWith yL_gapOf cL_gapOf 4 (some .int) [(0, 9, 12, 13)] ∈ wsL_law := wc_33 _ (List.mem_of_getElem? (i := 4) rfl)
theorem m9_777 : Cond.methodLink RL 170 yX6_gapOf ∈ wsL_law := wc_33 _ (List.mem_of_getElem? (i := 9) rfl)
theorem m9_778 : Cond.instanceMethod yX6_gapOf ∈ wsL_law := wc_33 _ (List.mem_of_getElem? (i := 10) rfl)
theorem m9_779 : Cond.selects RX6 yX6_gapOf yX6_gapOf ∈ wsL_law := wc_33 _ (List.mem_of_getElem? (i := 11) rfl)
theorem m9_780 : Cond.code yX6_gapOf cX6_gapOf 2 (some .int) ∈ wsL_law := wc_33 _ (List.mem_of_getElem? (i := 12) rfl)
theorem m9_781 : Cond.methodLink RL 171 yL_count ∈ wsL_law := wc_33 _ (List.mem_of_getElem? (i := 13) rfl)
theorem m9_782 : Cond.static yL_count ∈ wsL_law := wc_33 _ (List.mem_of_getElem? (i := 14) rfl)
theorem m9_783 : Cond.codeWith yL_count cL_count 4 (some .int) [(0, 9, 12, 15)] ∈ wsL_law := wc_33 _ (List.mem_of_getElem? (i := 15) rfl)
theorem m9_819 : Cond.methodLink RL 173 yX6_count ∈ wsL_law := wc_35 _ (List.mem_of_getElem? (i := 3) rfl)
theorem m9_820 : Cond.instanceMethod yX6_count ∈ wsL_law := wc_35 _ (List.mem_of_getElem? (i := 4) rfl)
theorem m9_821 : Cond.selects RX6 yX6_count yX6_count ∈ wsL_law := wc_35 _ (List.mem_of_getElem? (i := 5) rfl)
theorem m9_822 : Cond.code yX6_count cX6_count 2 (some .int) ∈ wsL_law := wc_35 _ (List.mem_of_getElem? (i := 6) rfl)
theorem m9_835 : Cond.methodLink RL 174 yL_refusal ∈ wsL_law := wc_35 _ (List.mem_of_getElem? (i := 19) rfl)
theorem m9_836 : Cond.static yL_refusal ∈ wsL_law := wc_35 _ (List.mem_of_getElem? (i := 20) rfl)
theorem m9_837 : Cond.codeWith yL_refusal cL_refusal 6 (some .int) [(0, 12, 15, 13), (0, 12, 19, 15)] ∈ wsL_law := wc_35 _ (List.mem_of_getElem? (i := 21) rfl)
theorem m9_842 : Cond.methodLink RL 176 yX6_refusal ∈ wsL_law := wc_36 _ (List.mem_of_getElem? (i := 2) rfl)
theorem m9_843 : Cond.instanceMethod yX6_refusal ∈ wsL_law := wc_36 _ (List.mem_of_getElem? (i := 3) rfl)
theorem m9_844 : Cond.selects RX6 yX6_refusal yX6_refusal ∈ wsL_law := wc_36 _ (List.mem_of_getElem? (i := 4) rfl)
theorem m9_845 : Cond.code yX6_refusal cX6_refusal 4 (some .int) ∈ wsL_law := wc_36 _ (List.mem_of_getElem? (i := 5) rfl)
theorem m9_846 : Cond.methodLink RL 177 yL_meeting ∈ wsL_law := wc_36 _ (List.mem_of_getElem? (i := 6) rfl)
theorem m9_847 : Cond.static yL_meeting ∈ wsL_law := wc_36 _ (List.mem_of_getElem? (i := 7) rfl)
theorem m9_848 : Cond.codeWith yL_meeting cL_meeting 7 (some .int) [(0, 14, 17, 13), (0, 14, 21, 15)] ∈ wsL_law := wc_36 _ (List.mem_of_getElem? (i := 8) rfl)
theorem m9_857 : Cond.methodLink RL 180 yX6_meeting ∈ wsL_law := wc_36 _ (List.mem_of_getElem? (i := 17) rfl)
theorem m9_858 : Cond.instanceMethod yX6_meeting ∈ wsL_law := wc_36 _ (List.mem_of_getElem? (i := 18) rfl)
theorem m9_859 : Cond.selects RX6 yX6_meeting yX6_meeting ∈ wsL_law := wc_36 _ (List.mem_of_getElem? (i := 19) rfl)
theorem m9_860 : Cond.code yX6_meeting cX6_meeting 5 (some .int) ∈ wsL_law := wc_36 _ (List.mem_of_getElem? (i := 20) rfl)
theorem m9_869 : Cond.methodLink RL 181 yL_walked ∈ wsL_law := wc_37 _ (List.mem_of_getElem? (i := 5) rfl)
theorem m9_870 : Cond.static yL_walked ∈ wsL_law := wc_37 _ (List.mem_of_getElem? (i := 6) rfl)
theorem m9_871 : Cond.codeWith yL_walked cL_walked 7 (some .int) [(0, 14, 17, 13), (0, 14, 21, 15)] ∈ wsL_law := wc_37 _ (List.mem_of_getElem? (i := 7) rfl)
theorem m9_879 : Cond.methodLink RL 183 yX6_walked ∈ wsL_law := wc_37 _ (List.mem_of_getElem? (i := 15) rfl)
theorem m9_880 : Cond.instanceMethod yX6_walked ∈ wsL_law := wc_37 _ (List.mem_of_getElem? (i := 16) rfl)
theorem m9_881 : Cond.selects RX6 yX6_walked yX6_walked ∈ wsL_law := wc_37 _ (List.mem_of_getElem? (i := 17) rfl)
theorem m9_882 : Cond.code yX6_walked cX6_walked 5 (some .int) ∈ wsL_law := wc_37 _ (List.mem_of_getElem? (i := 18) rfl)
theorem m9_883 : Cond.methodLink RL 184 yL_phases ∈ wsL_law := wc_37 _ (List.mem_of_getElem? (i := 19) rfl)
theorem m9_884 : Cond.static yL_phases ∈ wsL_law := wc_37 _ (List.mem_of_getElem? (i := 20) rfl)
theorem m9_885 : Cond.codeWith yL_phases cL_phases 6 (some .int) [(0, 12, 15, 13), (0, 12, 19, 15)] ∈ wsL_law := wc_37 _ (List.mem_of_getElem? (i := 21) rfl)
theorem m9_911 : Cond.methodLink RL 186 yX6_phases ∈ wsL_law := wc_38 _ (List.mem_of_getElem? (i := 23) rfl)
theorem m9_912 : Cond.instanceMethod yX6_phases ∈ wsL_law := wc_39 _ (List.mem_of_getElem? (i := 0) rfl)
theorem m9_913 : Cond.selects RX6 yX6_phases yX6_phases ∈ wsL_law := wc_39 _ (List.mem_of_getElem? (i := 1) rfl)
theorem m9_914 : Cond.code yX6_phases cX6_phases 4 (some .int) ∈ wsL_law := wc_39 _ (List.mem_of_getElem? (i := 2) rfl)
theorem m9_923 : Cond.methodLink RL 187 yL_bestHue ∈ wsL_law := wc_39 _ (List.mem_of_getElem? (i := 11) rfl)
theorem m9_924 : Cond.static yL_bestHue ∈ wsL_law := wc_39 _ (List.mem_of_getElem? (i := 12) rfl)
theorem m9_925 : Cond.codeWith yL_bestHue cL_bestHue 4 (some .int) [(0, 9, 12, 13)] ∈ wsL_law := wc_39 _ (List.mem_of_getElem? (i := 13) rfl)
theorem m9_936 : Cond.methodLink RL 189 yX6_bestHue ∈ wsL_law := wc_40 _ (List.mem_of_getElem? (i := 0) rfl)
theorem m9_937 : Cond.instanceMethod yX6_bestHue ∈ wsL_law := wc_40 _ (List.mem_of_getElem? (i := 1) rfl)
theorem m9_938 : Cond.selects RX6 yX6_bestHue yX6_bestHue ∈ wsL_law := wc_40 _ (List.mem_of_getElem? (i := 2) rfl)
theorem m9_939 : Cond.code yX6_bestHue cX6_bestHue 2 (some .int) ∈ wsL_law := wc_40 _ (List.mem_of_getElem? (i := 3) rfl)
theorem m9_944 : Cond.methodLink RL 190 yL_joining ∈ wsL_law := wc_40 _ (List.mem_of_getElem? (i := 8) rfl)
theorem m9_945 : Cond.static yL_joining ∈ wsL_law := wc_40 _ (List.mem_of_getElem? (i := 9) rfl)
theorem m9_946 : Cond.codeWith yL_joining cL_joining 5 (some .int) [(0, 10, 13, 13)] ∈ wsL_law := wc_40 _ (List.mem_of_getElem? (i := 10) rfl)
theorem m9_951 : Cond.methodLink RL 192 yX6_joining ∈ wsL_law := wc_40 _ (List.mem_of_getElem? (i := 15) rfl)
theorem m9_952 : Cond.instanceMethod yX6_joining ∈ wsL_law := wc_40 _ (List.mem_of_getElem? (i := 16) rfl)
theorem m9_953 : Cond.selects RX6 yX6_joining yX6_joining ∈ wsL_law := wc_40 _ (List.mem_of_getElem? (i := 17) rfl)
theorem m9_954 : Cond.code yX6_joining cX6_joining 3 (some .int) ∈ wsL_law := wc_40 _ (List.mem_of_getElem? (i := 18) rfl)
theorem m9_955 : Cond.methodLink RL 193 yL_greatest ∈ wsL_law := wc_40 _ (List.mem_of_getElem? (i := 19) rfl)
theorem m9_956 : Cond.static yL_greatest ∈ wsL_law := wc_40 _ (List.mem_of_getElem? (i := 20) rfl)
theorem m9_957 : Cond.codeWith yL_greatest cL_greatest 4 (some .int) [(0, 9, 12, 13)] ∈ wsL_law := wc_40 _ (List.mem_of_getElem? (i := 21) rfl)
theorem m9_962 : Cond.methodLink RL 195 yX6_greatest ∈ wsL_law := wc_41 _ (List.mem_of_getElem? (i := 2) rfl)
theorem m9_963 : Cond.instanceMethod yX6_greatest ∈ wsL_law := wc_41 _ (List.mem_of_getElem? (i := 3) rfl)
theorem m9_964 : Cond.selects RX6 yX6_greatest yX6_greatest ∈ wsL_law := wc_41 _ (List.mem_of_getElem? (i := 4) rfl)
theorem m9_965 : Cond.code yX6_greatest cX6_greatest 2 (some .int) ∈ wsL_law := wc_41 _ (List.mem_of_getElem? (i := 5) rfl)
theorem m9_966 : Cond.methodLink RL 196 yX5_fullness ∈ wsL_law := wc_41 _ (List.mem_of_getElem? (i := 6) rfl)
theorem m9_970 : Cond.methodLink RL 200 yX6_fullness ∈ wsL_law := wc_41 _ (List.mem_of_getElem? (i := 10) rfl)
theorem m9_971 : Cond.instanceMethod yX6_fullness ∈ wsL_law := wc_41 _ (List.mem_of_getElem? (i := 11) rfl)
theorem m9_972 : Cond.selects RX6 yX6_fullness yX6_fullness ∈ wsL_law := wc_41 _ (List.mem_of_getElem? (i := 12) rfl)
theorem m9_973 : Cond.code yX6_fullness cX6_fullness 1 (some .double) ∈ wsL_law := wc_41 _ (List.mem_of_getElem? (i := 13) rfl)
theorem m9_978 : Cond.methodLink RL 201 yX5_digest ∈ wsL_law := wc_41 _ (List.mem_of_getElem? (i := 18) rfl)
theorem m9_979 : Cond.instanceMethod yX5_digest ∈ wsL_law := wc_41 _ (List.mem_of_getElem? (i := 19) rfl)
theorem m9_980 : Cond.selects RX5 yX5_digest yX5_digest ∈ wsL_law := wc_41 _ (List.mem_of_getElem? (i := 20) rfl)
theorem m9_981 : Cond.code yX5_digest cX5_digest 4 (some .long) ∈ wsL_law := wc_41 _ (List.mem_of_getElem? (i := 21) rfl)
theorem m9_1002 : Cond.methodLink RL 205 yX6_digest ∈ wsL_law := wc_42 _ (List.mem_of_getElem? (i := 18) rfl)
theorem m9_1003 : Cond.instanceMethod yX6_digest ∈ wsL_law := wc_42 _ (List.mem_of_getElem? (i := 19) rfl)
theorem m9_1004 : Cond.selects RX6 yX6_digest yX6_digest ∈ wsL_law := wc_42 _ (List.mem_of_getElem? (i := 20) rfl)
theorem m9_1005 : Cond.code yX6_digest cX6_digest 2 (some .long) ∈ wsL_law := wc_42 _ (List.mem_of_getElem? (i := 21) rfl)
theorem not_AF {g : GC} {o b9 sz : Nat} {f : Nat → Int64} (hbl : b9 < sz) (hbo : b9 ≠ o) : ¬ AF (XO g o f) (fun _ => none) sz b9 := by
  rintro (⟨e, h⟩ | ⟨e, h⟩ | h)
  · rw [XO, List.mem_singleton] at h
    exact hbo (Prod.mk.inj h).1
  · cases h
  · omega
/-! THE LAW'S OWN WALK: a budget cb of cells, the row out beside the pure heap -/
def GL (p : Program) (l : Launch) (e : Env) (s : State) (m : MethodId) (args : Array Value) (below : List Frame) (meth : Method) (c : Code) (g : GC) (o : Nat) (cb : Nat) (Q : State → Prop) (pc : Nat) (lv : List (Nat × Value)) (st : List Value) (x : PH × (Nat → Int64)) : Prop :=
  ∀ (cells slots : Nat), cells ≤ cb → slots ≤ 6 * cb + 10000 → G p l e room_1 s m args below meth c 9 g (XO g o x.2) (fun _ => none) cells slots Q pc lv st x.1
section GL9
variable {p : Program} {l : Launch} {e : Env} {s : State} {m : MethodId} {args : Array Value} {below : List Frame} {meth : Method} {c : Code} {g : GC} {o cb : Nat} {Q : State → Prop} {pc : Nat} {lv : List (Nat × Value)} {st : List Value} {x : PH × (Nat → Int64)}
theorem GL.iconst (C : Cx p s m args meth c cL_law 9 RL ret g) {k : Int} {v : Int32} (d : decode cL_law pc = .ok (.iconst k, 1)) (hv : Int32.ofInt k = v) (kk : GL p l e s m args below meth c g o (cb) Q (pc + 1) lv (.int v :: st) x) : GL p l e s m args below meth c g o (cb) Q (pc) lv (st) x := fun cells slots hc hs => G.iconst C d hv (kk cells slots hc hs)
theorem GL.bipush (C : Cx p s m args meth c cL_law 9 RL ret g) {k : Int} {v : Int32} (d : decode cL_law pc = .ok (.bipush k, 2)) (hv : (Int8.ofInt k).toInt32 = v) (kk : GL p l e s m args below meth c g o (cb) Q (pc + 2) lv (.int v :: st) x) : GL p l e s m args below meth c g o (cb) Q (pc) lv (st) x := fun cells slots hc hs => G.bipush C d hv (kk cells slots hc hs)
theorem GL.aload_n (C : Cx p s m args meth c cL_law 9 RL ret g) {i9 : Fin 4} {i : Nat} {a : Nat} (k : Nat) (d : decode cL_law pc = .ok (.aload_n i9, 1)) (hi : (i9 : Nat) = i) (hk : lv[k]? = some (i, .ref a)) (kk : GL p l e s m args below meth c g o (cb) Q (pc + 1) lv (.ref a :: st) x) : GL p l e s m args below meth c g o (cb) Q (pc) lv (st) x := fun cells slots hc hs => G.aload_n C k d hi hk (kk cells slots hc hs)
theorem GL.iload (C : Cx p s m args meth c cL_law 9 RL ret g) {i : Nat} {a : Int32} (k : Nat) (d : decode cL_law pc = .ok (.iload i, 2)) (hk : lv[k]? = some (i, .int a)) (kk : GL p l e s m args below meth c g o (cb) Q (pc + 2) lv (.int a :: st) x) : GL p l e s m args below meth c g o (cb) Q (pc) lv (st) x := fun cells slots hc hs => G.iload C k d hk (kk cells slots hc hs)
theorem GL.dload (C : Cx p s m args meth c cL_law 9 RL ret g) {i : Nat} {a : UInt64} (k : Nat) (d : decode cL_law pc = .ok (.dload i, 2)) (hk : lv[k]? = some (i, .double a)) (kk : GL p l e s m args below meth c g o (cb) Q (pc + 2) lv (.double a :: st) x) : GL p l e s m args below meth c g o (cb) Q (pc) lv (st) x := fun cells slots hc hs => G.dload C k d hk (kk cells slots hc hs)
theorem GL.iadd (C : Cx p s m args meth c cL_law 9 RL ret g) {a y : Int32} (d : decode cL_law pc = .ok (.iadd, 1)) (kk : GL p l e s m args below meth c g o (cb) Q (pc + 1) lv (.int (a + y) :: st) x) : GL p l e s m args below meth c g o (cb) Q (pc) lv (.int y :: .int a :: st) x := fun cells slots hc hs => G.iadd C d (kk cells slots hc hs)
theorem GL.isub (C : Cx p s m args meth c cL_law 9 RL ret g) {a y : Int32} (d : decode cL_law pc = .ok (.isub, 1)) (kk : GL p l e s m args below meth c g o (cb) Q (pc + 1) lv (.int (a - y) :: st) x) : GL p l e s m args below meth c g o (cb) Q (pc) lv (.int y :: .int a :: st) x := fun cells slots hc hs => G.isub C d (kk cells slots hc hs)
theorem GL.iand (C : Cx p s m args meth c cL_law 9 RL ret g) {a y : Int32} (d : decode cL_law pc = .ok (.iand, 1)) (kk : GL p l e s m args below meth c g o (cb) Q (pc + 1) lv (.int (a &&& y) :: st) x) : GL p l e s m args below meth c g o (cb) Q (pc) lv (.int y :: .int a :: st) x := fun cells slots hc hs => G.iand C d (kk cells slots hc hs)
theorem GL.i2l (C : Cx p s m args meth c cL_law 9 RL ret g) {a : Int32} (d : decode cL_law pc = .ok (.i2l, 1)) (kk : GL p l e s m args below meth c g o (cb) Q (pc + 1) lv (.long a.toInt64 :: st) x) : GL p l e s m args below meth c g o (cb) Q (pc) lv (.int a :: st) x := fun cells slots hc hs => G.i2l C d (kk cells slots hc hs)
theorem GL.lcmp (C : Cx p s m args meth c cL_law 9 RL ret g) {a y : Int64} (d : decode cL_law pc = .ok (.lcmp, 1)) (kk : GL p l e s m args below meth c g o (cb) Q (pc + 1) lv (.int (lg_cmp a y) :: st) x) : GL p l e s m args below meth c g o (cb) Q (pc) lv (.long y :: .long a :: st) x := fun cells slots hc hs => G.lcmp C d (kk cells slots hc hs)
theorem GL.dcmp (C : Cx p s m args meth c cL_law 9 RL ret g) {a y : UInt64} {op : CmpOp} (d : decode cL_law pc = .ok (.dcmp op, 1)) (kk : GL p l e s m args below meth c g o (cb) Q (pc + 1) lv (.int (Op.cmpValue (FP.dcmp a y) op) :: st) x) : GL p l e s m args below meth c g o (cb) Q (pc) lv (.double y :: .double a :: st) x := fun cells slots hc hs => G.dcmp C d (kk cells slots hc hs)
theorem GL.istore (C : Cx p s m args meth c cL_law 9 RL ret g) {i : Nat} {a : Int32} {lv' : List (Nat × Value)} (d : decode cL_law pc = .ok (.istore i, 2)) (hn : i < 9) (hl1 : (i, Value.int a) :: lv.filter (fun q => !(q.1 == i) && !(q.1 + 1 == i && q.2.category == 2)) = lv') (kk : GL p l e s m args below meth c g o (cb) Q (pc + 2) lv' (st) x) : GL p l e s m args below meth c g o (cb) Q (pc) lv (.int a :: st) x := fun cells slots hc hs => G.istore C d hn hl1 (kk cells slots hc hs)
theorem GL.dstore (C : Cx p s m args meth c cL_law 9 RL ret g) {i : Nat} {a : UInt64} {lv' : List (Nat × Value)} (d : decode cL_law pc = .ok (.dstore i, 2)) (hn : i + 1 < 9) (hl1 : (i, Value.double a) :: lv.filter (fun q => !(q.1 == i) && (!(q.1 == i + 1) && !(q.1 + 1 == i && q.2.category == 2))) = lv') (kk : GL p l e s m args below meth c g o (cb) Q (pc + 2) lv' (st) x) : GL p l e s m args below meth c g o (cb) Q (pc) lv (.double a :: st) x := fun cells slots hc hs => G.dstore C d hn hl1 (kk cells slots hc hs)
theorem GL.iinc (C : Cx p s m args meth c cL_law 9 RL ret g) {i k : Nat} {z : Int} {a v : Int32} {lv' : List (Nat × Value)} (d : decode cL_law pc = .ok (.iinc i z, 3)) (hk : lv[k]? = some (i, .int a)) (hv : a + Int32.ofInt z = v) (hn : i < 9) (hl1 : (i, Value.int v) :: lv.filter (fun q => !(q.1 == i) && !(q.1 + 1 == i && q.2.category == 2)) = lv') (kk : GL p l e s m args below meth c g o (cb) Q (pc + 3) lv' (st) x) : GL p l e s m args below meth c g o (cb) Q (pc) lv (st) x := fun cells slots hc hs => G.iinc C d hk hv hn hl1 (kk cells slots hc hs)
theorem GL.if_eq (C : Cx p s m args meth c cL_law 9 RL ret g) {a : Int32} {off : Int} {tgt : Nat} {α : Type} {fa fb : Option α} {r9 : α} (d : decode cL_law pc = .ok (.ifCond .eq off, 3)) (ht : (pc : Int) + off = (tgt : Int)) (hf : (if a = 0 then fa else fb) = some r9) (kt : a = 0 → fa = some r9 → GL p l e s m args below meth c g o (cb) Q (tgt) lv (st) x) (kf : ¬ a = 0 → fb = some r9 → GL p l e s m args below meth c g o (cb) Q (pc + 3) lv (st) x) : GL p l e s m args below meth c g o (cb) Q (pc) lv (.int a :: st) x := fun cells slots hc hs => G.if_eq C d ht hf (fun q w => kt q w cells slots hc hs) (fun q w => kf q w cells slots hc hs)
theorem GL.if_ne (C : Cx p s m args meth c cL_law 9 RL ret g) {a : Int32} {off : Int} {tgt : Nat} {α : Type} {fa fb : Option α} {r9 : α} (d : decode cL_law pc = .ok (.ifCond .ne off, 3)) (ht : (pc : Int) + off = (tgt : Int)) (hf : (if ¬ a = 0 then fa else fb) = some r9) (kt : ¬ a = 0 → fa = some r9 → GL p l e s m args below meth c g o (cb) Q (tgt) lv (st) x) (kf : a = 0 → fb = some r9 → GL p l e s m args below meth c g o (cb) Q (pc + 3) lv (st) x) : GL p l e s m args below meth c g o (cb) Q (pc) lv (.int a :: st) x := fun cells slots hc hs => G.if_ne C d ht hf (fun q w => kt q w cells slots hc hs) (fun q w => kf q w cells slots hc hs)
theorem GL.icmp_eq (C : Cx p s m args meth c cL_law 9 RL ret g) {a y : Int32} {off : Int} {tgt : Nat} {α : Type} {fa fb : Option α} {r9 : α} (d : decode cL_law pc = .ok (.if_icmp .eq off, 3)) (ht : (pc : Int) + off = (tgt : Int)) (hf : (if a = y then fa else fb) = some r9) (kt : a = y → fa = some r9 → GL p l e s m args below meth c g o (cb) Q (tgt) lv (st) x) (kf : ¬ a = y → fb = some r9 → GL p l e s m args below meth c g o (cb) Q (pc + 3) lv (st) x) : GL p l e s m args below meth c g o (cb) Q (pc) lv (.int y :: .int a :: st) x := fun cells slots hc hs => G.icmp_eq C d ht hf (fun q w => kt q w cells slots hc hs) (fun q w => kf q w cells slots hc hs)
theorem GL.icmp_gt (C : Cx p s m args meth c cL_law 9 RL ret g) {a y : Int32} {off : Int} {tgt : Nat} {α : Type} {fa fb : Option α} {r9 : α} (d : decode cL_law pc = .ok (.if_icmp .gt off, 3)) (ht : (pc : Int) + off = (tgt : Int)) (hf : (if y < a then fa else fb) = some r9) (kt : y < a → fa = some r9 → GL p l e s m args below meth c g o (cb) Q (tgt) lv (st) x) (kf : ¬ y < a → fb = some r9 → GL p l e s m args below meth c g o (cb) Q (pc + 3) lv (st) x) : GL p l e s m args below meth c g o (cb) Q (pc) lv (.int y :: .int a :: st) x := fun cells slots hc hs => G.icmp_gt C d ht hf (fun q w => kt q w cells slots hc hs) (fun q w => kf q w cells slots hc hs)
theorem GL.goto (C : Cx p s m args meth c cL_law 9 RL ret g) {off : Int} {tgt : Nat} (d : decode cL_law pc = .ok (.goto off, 3)) (ht : (pc : Int) + off = (tgt : Int)) (kk : GL p l e s m args below meth c g o (cb) Q (tgt) lv (st) x) : GL p l e s m args below meth c g o (cb) Q (pc) lv (st) x := fun cells slots hc hs => G.goto C d ht (kk cells slots hc hs)
theorem GL.tswIn (C : Cx p s m args meth c cL_law 9 RL ret g) {dflt lo hi : Int} {offs : Array Int} {len : Nat} {a k : Int32} {off : Int} {tgt : Nat} (hx : a = k) (d : decode cL_law pc = .ok (.tableswitch dflt lo hi offs, len)) (h1 : ¬ k.toInt < lo) (h2 : ¬ hi < k.toInt) (ho : offs[(k.toInt - lo).toNat]? = some off) (ht : (pc : Int) + off = (tgt : Int)) (kk : GL p l e s m args below meth c g o (cb) Q (tgt) lv (st) x) : GL p l e s m args below meth c g o (cb) Q (pc) lv (.int a :: st) x := fun cells slots hc hs => G.tswIn C hx d h1 h2 ho ht (kk cells slots hc hs)
theorem GL.tswOut (C : Cx p s m args meth c cL_law 9 RL ret g) {dflt lo hi : Int} {offs : Array Int} {len : Nat} {a : Int32} {tgt : Nat} (d : decode cL_law pc = .ok (.tableswitch dflt lo hi offs, len)) (h1 : a.toInt < lo ∨ hi < a.toInt) (ht : (pc : Int) + dflt = (tgt : Int)) (kk : GL p l e s m args below meth c g o (cb) Q (tgt) lv (st) x) : GL p l e s m args below meth c g o (cb) Q (pc) lv (.int a :: st) x := fun cells slots hc hs => G.tswOut C d h1 ht (kk cells slots hc hs)
theorem GL.sub (C : Cx p s m args meth c cL_law 9 RL ret g) (ks : List Nat) {lv' : List (Nat × Value)} (hl1 : lv_pick lv ks = lv') (kk : GL p l e s m args below meth c g o (cb) Q (pc) lv' (st) x) : GL p l e s m args below meth c g o (cb) Q (pc) lv (st) x := fun cells slots hc hs => G.sub C ks hl1 (kk cells slots hc hs)
theorem GL.lld (C : Cx p s m args meth c cL_law 9 RL ret g) (d : decode cL_law pc = .ok (.laload, 1)) (kk : GL p l e s m args below meth c g o (cb) Q (pc + 1) lv (.long (x.2 0) :: st) x) : GL p l e s m args below meth c g o (cb) Q (pc) lv (.int 0 :: .ref o :: st) x := fun cells slots hc hs => G.lldX C d (kk cells slots hc hs)
theorem GL.mono {c2 : Nat} (h : cb ≤ c2) (kk : GL p l e s m args below meth c g o (c2) Q (pc) lv (st) x) : GL p l e s m args below meth c g o (cb) Q (pc) lv (st) x := fun cells slots hc hs => kk cells slots (by omega) (by omega)
theorem GL.slen (C : Cx p s m args meth c cL_law 9 RL ret g) {b9 L : Nat} {xs : Nat → Int32} (hX : va_X b9 L xs s s.heap) (hbl : b9 < s.heap.size) (hbo : b9 ≠ o) (d : decode cL_law pc = .ok (.arraylength, 1)) (kk : GL p l e s m args below meth c g o (cb) Q (pc + 1) lv (.int (Int32.ofNat L) :: st) x) : GL p l e s m args below meth c g o (cb) Q (pc) lv (.ref b9 :: st) x := fun cells slots hc hs H locs ls hW hS hl => va_slen C.1 C.2.1 hX hbl (not_AF hbl hbo) hS d (kk cells slots hc hs H locs ls hW hS hl)
theorem GL.sld (C : Cx p s m args meth c cL_law 9 RL ret g) {b9 L : Nat} {xs : Nat → Int32} (hX : va_X b9 L xs s s.heap) (hbl : b9 < s.heap.size) (hbo : b9 ≠ o) {i : Int32} (hin : ¬ (i < 0 ∨ L ≤ i.toNatClampNeg)) (d : decode cL_law pc = .ok (.iaload, 1)) (kk : GL p l e s m args below meth c g o (cb) Q (pc + 1) lv (.int (xs i.toNatClampNeg) :: st) x) : GL p l e s m args below meth c g o (cb) Q (pc) lv (.int i :: .ref b9 :: st) x := fun cells slots hc hs H locs ls hW hS hl => va_sld C.1 C.2.1 hX hbl (not_AF hbl hbo) hS hin d (kk cells slots hc hs H locs ls hW hS hl)
theorem GL.callV (C : Cx p s m args meth c cL_law 9 RL ret g) {y : MethodName} {b' : ByteArray} {n' : Nat} {ret' : Option FieldType} {fr lo : Nat} {o1 : Option Value} {h' : PH} {st2 : List Value} {a ci : Nat} {As st0 : List Value} {CN : String} {T : u_T} {N idx : Nat} (ct : CT l y b' n' ret' fr lo (.ref a :: As) x.1 o1 h') (hk : kO x.1 a ci) (hc : vwCl[ci]? = some (CN, T, N))
    (w1 : Cond.methodLink RL idx y ∈ wsL_law) (w2 : Cond.instanceMethod y ∈ wsL_law) (w3 : Cond.selects CN y y ∈ wsL_law) (w4 : Cond.initialized CN ∈ wsL_law) (w5 : Cond.code y b' n' ret' ∈ wsL_law)
    (hd : y.cls = CN ∧ y.cls ≠ "java/lang/invoke/MethodHandle" ∧ y.cls ≠ "java/lang/invoke/VarHandle" ∧ (parseMethodDescriptor y.desc).map (fun d => d.parameters.length) = some As.length) (hR : fr + 1 ≤ 11 ∧ 8 + (n' + 11) + lo ≤ 428) (hcb : cb ≤ 1000)
    (h8 : (st.map fun v => v.category).sum ≤ 8) (hst : st0 = As.reverse ++ .ref a :: st) (hst2 : o1.toList ++ st = st2) (d : decode cL_law pc = .ok (.invokevirtual idx, 3)) (kk : GL p l e s m args below meth c g o (cb) Q (pc + 3) lv (st2) (h', x.2)) : GL p l e s m args below meth c g o (cb) Q (pc) lv (st0) x :=
  fun cells slots h9 hs => G.callV C ct hk hc w1 w2 w3 w4 w5 hd hR ⟨show cells ≤ 601024 by omega, show slots ≤ 7293034 by omega⟩ h8 hst hst2 d (kk cells slots h9 hs)
theorem GL.callW (C : Cx p s m args meth c cL_law 9 RL ret g) (TT : ∀ f, TX l (AF (XO g o f) (fun _ => none) s.heap.size) s s.heap) (hN : NC s) {y : MethodName} {b' : ByteArray} {n' : Nat} {hh : List (Nat × Nat × Nat × Nat)} {fr lo idx : Nat} {As st0 : List Value} {k : Int32} {x' : PH × (Nat → Int64)} (cw : CW l y b' n' hh fr lo As o x.1 x.2 k x'.1 x'.2)
    (w1 : Cond.methodLink RL idx y ∈ wsL_law) (w2 : Cond.static y ∈ wsL_law) (w4 : Cond.initialized y.cls ∈ wsL_law) (w5 : Cond.codeWith y b' n' (some .int) hh ∈ wsL_law)
    (hd : y.cls ≠ "java/lang/invoke/MethodHandle" ∧ y.cls ≠ "java/lang/invoke/VarHandle" ∧ (parseMethodDescriptor y.desc).map (fun d => d.parameters.length) = some As.length) (hR : fr + 1 ≤ 11 ∧ 8 + (n' + 11) + lo ≤ 428) (hcb : cb + 1 ≤ 1000)
    (h8 : (st.map fun v => v.category).sum ≤ 8) (hst : st0 = As.reverse ++ st) (d : decode cL_law pc = .ok (.invokestatic idx, 3)) (kk : GL p l e s m args below meth c g o (cb + 1) Q (pc + 3) lv (.int k :: st) x') : GL p l e s m args below meth c g o (cb) Q (pc) lv (st0) x := by
  intro cells slots h9 hs9 H locs ls hW hS hl T9 hT X9
  have hgood : GoodIn wsL_law ([.methodLink RL idx y, .static y, .initialized y.cls] ++ (Cond.codeWith y b' n' (some .int) hh :: wsL_law)) := by
    intro w hw
    have hm : w ∈ wsL_law := by
      rcases List.mem_append.mp hw with h | h
      · simp only [List.mem_cons, List.not_mem_nil, or_false] at h
        rcases h with rfl | rfl | rfl <;> assumption
      · rcases List.mem_cons.mp h with rfl | h
        · exact w5
        · exact h
    exact ⟨hm, good_of_word (List.all_eq_true.mp all_good w hm)⟩
  have hsub := AF.sub hW hS.1
  have hr := vx_runSW (p := p) (l := l) (e := e) (R := room_1) (s := s) (m := m) (args := args) (below := below) (meth := meth) (c := c) (H := H) (locs := locs) (cells := cells) (slots := slots) (g := F0 m pc ls st0) (As := As) (rest := st) (n := As.length) ⟨C.1, C.2.1, C.2.2.1, C.2.2.2.2.1, C.2.2.2.2.2.1⟩ (cw g H.size) (vx_cwSW As.length C.2.2.2.2.2.1 hgood rfl rfl rfl hd hR)
    ⟨WPreW.blind, fun U hU hWU => ⟨rfl, ⟨⟨by rw [hU], by rw [hU]; exact hW.sub (fun _ _ => trivial), va_K.moved hWU.alike C.2.2.2.2.2.2.2⟩, by rw [hU]; exact TX.warm hWU (((TT x.2).kept hS.2.1).narrow hsub)⟩, NC.moved hWU.alike hN⟩⟩ rfl rfl hl.1 hst (lv_room h8) d ⟨show cells + 1 ≤ 601024 by omega, show slots + 6 ≤ 7293034 by omega⟩ T9 hT X9
  obtain ⟨v, st₀, t, T', L, e0, X', hL, e1, e2, ⟨⟨hv, hW1, hK1⟩, hz, hkk⟩, go⟩ := hr
  cases hv
  rw [e0] at hz hkk
  have e9 := AF_XO g o x.2 x'.2 (fun _ => none) s.heap.size
  obtain ⟨t2, a1, b1⟩ := kk (cells + 1) (slots + 6) (by omega) (by omega) T'.heap (locs ++ L) ls (by rw [e1, ← e9]; exact hW1.sub hsub) (by
    rw [← e9]
    exact ⟨Nat.le_trans hS.1 (by rw [e1]; exact hz), fun q h1 h2 => by rw [e1, hkk q (Nat.lt_of_lt_of_le h1 hS.1) (fun z => h2 (hsub q z))]; exact hS.2.1 q h1 h2, fun q hq9 => by
      rcases List.mem_append.mp hq9 with h9 | h9
      · exact hS.2.2 q h9
      · exact hsub _ (hL q h9)⟩) hl T' rfl X'
  exact ⟨t2, go t2 a1, b1⟩
end GL9
def w_gap (x : PH × (Nat → Int64)) (a : Nat) (p0 : Int32) (p1 : Int32) : Option (Int32 × (PH × (Nat → Int64))) := (f_X5_gap x.1 a p0 p1).bind fun r => match r with | .ok v => some (0, (v.2, vp_updL x.2 0 (v.1).toInt64)) | .error E => (if E.1 = eIO then some (1, (E.2, x.2)) else (if E.1 = eIA then some (2, (E.2, x.2)) else (if E.1 = eIS then some (3, (E.2, x.2)) else none)))
theorem kdL_gap : yL_gap.cls ≠ "java/lang/invoke/MethodHandle" ∧ yL_gap.cls ≠ "java/lang/invoke/VarHandle" ∧ (parseMethodDescriptor yL_gap.desc).map (fun d => d.parameters.length) = some 4 := by decide +kernel
theorem cw_gap {l : Launch} {x : PH × (Nat → Int64)} {a o : Nat} {p0 : Int32} {p1 : Int32} {q : Int32 × (PH × (Nat → Int64))} (hf : w_gap x a p0 p1 = some q) : CW l yL_gap cL_gap 5 [(0, 10, 13, 13), (0, 10, 17, 15), (0, 10, 21, 17)] 8 134 [.ref a, .int p0, .int p1, .ref o] o x.1 x.2 q.1 q.2.1 q.2.2 := by
  unfold w_gap at hf
  obtain ⟨r, hr, hf⟩ := bind_some hf
  cases r with
  | ok v =>
    cases hf
    exact cwo_gap hr
  | error E =>
    obtain ⟨E, hx⟩ := E
    dsimp only at hf
    by_cases c0 : E = eIO
    · rw [if_pos c0] at hf
      cases hf
      subst c0
      exact cwe0_gap hr
    · rw [if_neg c0] at hf
      by_cases c1 : E = eIA
      · rw [if_pos c1] at hf
        cases hf
        subst c1
        exact cwe1_gap hr
      · rw [if_neg c1] at hf
        by_cases c2 : E = eIS
        · rw [if_pos c2] at hf
          cases hf
          subst c2
          exact cwe2_gap hr
        · rw [if_neg c2] at hf
          cases hf
def w_rope (x : PH × (Nat → Int64)) (a : Nat) (p0 : Int32) : Option (Int32 × (PH × (Nat → Int64))) := (f_X5_rope x.1 a p0).bind fun r => match r with | .ok v => some (0, (v.2, vp_updL x.2 0 (v.1).toInt64)) | .error E => (if E.1 = eIA then some (1, (E.2, x.2)) else (if E.1 = eIS then some (2, (E.2, x.2)) else none))
theorem kdL_rope : yL_rope.cls ≠ "java/lang/invoke/MethodHandle" ∧ yL_rope.cls ≠ "java/lang/invoke/VarHandle" ∧ (parseMethodDescriptor yL_rope.desc).map (fun d => d.parameters.length) = some 3 := by decide +kernel
theorem cw_rope {l : Launch} {x : PH × (Nat → Int64)} {a o : Nat} {p0 : Int32} {q : Int32 × (PH × (Nat → Int64))} (hf : w_rope x a p0 = some q) : CW l yL_rope cL_rope 4 [(0, 9, 12, 15), (0, 9, 15, 17)] 8 132 [.ref a, .int p0, .ref o] o x.1 x.2 q.1 q.2.1 q.2.2 := by
  unfold w_rope at hf
  obtain ⟨r, hr, hf⟩ := bind_some hf
  cases r with
  | ok v =>
    cases hf
    exact cwo_rope hr
  | error E =>
    obtain ⟨E, hx⟩ := E
    dsimp only at hf
    by_cases c0 : E = eIA
    · rw [if_pos c0] at hf
      cases hf
      subst c0
      exact cwe0_rope hr
    · rw [if_neg c0] at hf
      by_cases c1 : E = eIS
      · rw [if_pos c1] at hf
        cases hf
        subst c1
        exact cwe1_rope hr
      · rw [if_neg c1] at hf
        cases hf
def w_drop (x : PH × (Nat → Int64)) (a : Nat) (p0 : Int32) : Option (Int32 × (PH × (Nat → Int64))) := (f_X5_drop x.1 a p0).bind fun r => match r with | .ok v => some (0, (v.2, vp_updL x.2 0 (v.1).toInt64)) | .error E => (if E.1 = eIO then some (1, (E.2, x.2)) else none)
theorem kdL_drop : yL_drop.cls ≠ "java/lang/invoke/MethodHandle" ∧ yL_drop.cls ≠ "java/lang/invoke/VarHandle" ∧ (parseMethodDescriptor yL_drop.desc).map (fun d => d.parameters.length) = some 3 := by decide +kernel
theorem cw_drop {l : Launch} {x : PH × (Nat → Int64)} {a o : Nat} {p0 : Int32} {q : Int32 × (PH × (Nat → Int64))} (hf : w_drop x a p0 = some q) : CW l yL_drop cL_drop 4 [(0, 9, 12, 13)] 8 133 [.ref a, .int p0, .ref o] o x.1 x.2 q.1 q.2.1 q.2.2 := by
  unfold w_drop at hf
  obtain ⟨r, hr, hf⟩ := bind_some hf
  cases r with
  | ok v =>
    cases hf
    exact cwo_drop hr
  | error E =>
    obtain ⟨E, hx⟩ := E
    dsimp only at hf
    by_cases c0 : E = eIO
    · rw [if_pos c0] at hf
      cases hf
      subst c0
      exact cwe0_drop hr
    · rw [if_neg c0] at hf
      cases hf
def w_lay (x : PH × (Nat → Int64)) (a : Nat) (p0 : Int32) (p1 : Int32) (p2 : Int32) : Option (Int32 × (PH × (Nat → Int64))) := (f_X5_lay x.1 a p0 p1 p2).bind fun r => match r with | .ok v => some (0, (v.2, vp_updL x.2 0 (v.1).toInt64)) | .error E => (if E.1 = eIO then some (1, (E.2, x.2)) else (if E.1 = eIA then some (2, (E.2, x.2)) else (if E.1 = eIS then some (3, (E.2, x.2)) else none)))
theorem kdL_lay : yL_lay.cls ≠ "java/lang/invoke/MethodHandle" ∧ yL_lay.cls ≠ "java/lang/invoke/VarHandle" ∧ (parseMethodDescriptor yL_lay.desc).map (fun d => d.parameters.length) = some 5 := by decide +kernel
theorem cw_lay {l : Launch} {x : PH × (Nat → Int64)} {a o : Nat} {p0 : Int32} {p1 : Int32} {p2 : Int32} {q : Int32 × (PH × (Nat → Int64))} (hf : w_lay x a p0 p1 p2 = some q) : CW l yL_lay cL_lay 6 [(0, 12, 15, 13), (0, 12, 19, 15), (0, 12, 23, 17)] 8 136 [.ref a, .int p0, .int p1, .int p2, .ref o] o x.1 x.2 q.1 q.2.1 q.2.2 := by
  unfold w_lay at hf
  obtain ⟨r, hr, hf⟩ := bind_some hf
  cases r with
  | ok v =>
    cases hf
    exact cwo_lay hr
  | error E =>
    obtain ⟨E, hx⟩ := E
    dsimp only at hf
    by_cases c0 : E = eIO
    · rw [if_pos c0] at hf
      cases hf
      subst c0
      exact cwe0_lay hr
    · rw [if_neg c0] at hf
      by_cases c1 : E = eIA
      · rw [if_pos c1] at hf
        cases hf
        subst c1
        exact cwe1_lay hr
      · rw [if_neg c1] at hf
        by_cases c2 : E = eIS
        · rw [if_pos c2] at hf
          cases hf
          subst c2
          exact cwe2_lay hr
        · rw [if_neg c2] at hf
          cases hf
def w_take (x : PH × (Nat → Int64)) (a : Nat) (p0 : Int32) (p1 : Int32) : Option (Int32 × (PH × (Nat → Int64))) := (f_X5_take x.1 a p0 p1).bind fun r => match r with | .ok v => some (0, (v.2, vp_updL x.2 0 (v.1).toInt64)) | .error E => (if E.1 = eIO then some (1, (E.2, x.2)) else (if E.1 = eIS then some (2, (E.2, x.2)) else none))
theorem kdL_take : yL_take.cls ≠ "java/lang/invoke/MethodHandle" ∧ yL_take.cls ≠ "java/lang/invoke/VarHandle" ∧ (parseMethodDescriptor yL_take.desc).map (fun d => d.parameters.length) = some 4 := by decide +kernel
theorem cw_take {l : Launch} {x : PH × (Nat → Int64)} {a o : Nat} {p0 : Int32} {p1 : Int32} {q : Int32 × (PH × (Nat → Int64))} (hf : w_take x a p0 p1 = some q) : CW l yL_take cL_take 5 [(0, 10, 13, 13), (0, 10, 17, 17)] 8 135 [.ref a, .int p0, .int p1, .ref o] o x.1 x.2 q.1 q.2.1 q.2.2 := by
  unfold w_take at hf
  obtain ⟨r, hr, hf⟩ := bind_some hf
  cases r with
  | ok v =>
    cases hf
    exact cwo_take hr
  | error E =>
    obtain ⟨E, hx⟩ := E
    dsimp only at hf
    by_cases c0 : E = eIO
    · rw [if_pos c0] at hf
      cases hf
      subst c0
      exact cwe0_take hr
    · rw [if_neg c0] at hf
      by_cases c1 : E = eIS
      · rw [if_pos c1] at hf
        cases hf
        subst c1
        exact cwe1_take hr
      · rw [if_neg c1] at hf
        cases hf
def w_stretch (x : PH × (Nat → Int64)) (a : Nat) (p0 : Int32) (p1 : Int32) : Option (Int32 × (PH × (Nat → Int64))) := (f_X5_stretch x.1 a p0 p1).bind fun r => match r with | .ok v => some (0, (v.2, vp_updL x.2 0 (v.1).toInt64)) | .error E => (if E.1 = eIO then some (1, (E.2, x.2)) else (if E.1 = eIA then some (2, (E.2, x.2)) else (if E.1 = eIS then some (3, (E.2, x.2)) else none)))
theorem kdL_stretch : yL_stretch.cls ≠ "java/lang/invoke/MethodHandle" ∧ yL_stretch.cls ≠ "java/lang/invoke/VarHandle" ∧ (parseMethodDescriptor yL_stretch.desc).map (fun d => d.parameters.length) = some 4 := by decide +kernel
theorem cw_stretch {l : Launch} {x : PH × (Nat → Int64)} {a o : Nat} {p0 : Int32} {p1 : Int32} {q : Int32 × (PH × (Nat → Int64))} (hf : w_stretch x a p0 p1 = some q) : CW l yL_stretch cL_stretch 5 [(0, 10, 13, 13), (0, 10, 17, 15), (0, 10, 21, 17)] 8 136 [.ref a, .int p0, .int p1, .ref o] o x.1 x.2 q.1 q.2.1 q.2.2 := by
  unfold w_stretch at hf
  obtain ⟨r, hr, hf⟩ := bind_some hf
  cases r with
  | ok v =>
    cases hf
    exact cwo_stretch hr
  | error E =>
    obtain ⟨E, hx⟩ := E
    dsimp only at hf
    by_cases c0 : E = eIO
    · rw [if_pos c0] at hf
      cases hf
      subst c0
      exact cwe0_stretch hr
    · rw [if_neg c0] at hf
      by_cases c1 : E = eIA
      · rw [if_pos c1] at hf
        cases hf
        subst c1
        exact cwe1_stretch hr
      · rw [if_neg c1] at hf
        by_cases c2 : E = eIS
        · rw [if_pos c2] at hf
          cases hf
          subst c2
          exact cwe2_stretch hr
        · rw [if_neg c2] at hf
          cases hf
def w_cut (x : PH × (Nat → Int64)) (a : Nat) (p0 : Int32) (p1 : Int32) : Option (Int32 × (PH × (Nat → Int64))) := (f_X5_cut x.1 a p0 p1).bind fun r => match r with | .ok v => some (0, (v.2, vp_updL x.2 0 (v.1).toInt64)) | .error E => (if E.1 = eIO then some (1, (E.2, x.2)) else (if E.1 = eIA then some (2, (E.2, x.2)) else (if E.1 = eIS then some (3, (E.2, x.2)) else none)))
theorem kdL_cut : yL_cut.cls ≠ "java/lang/invoke/MethodHandle" ∧ yL_cut.cls ≠ "java/lang/invoke/VarHandle" ∧ (parseMethodDescriptor yL_cut.desc).map (fun d => d.parameters.length) = some 4 := by decide +kernel
theorem cw_cut {l : Launch} {x : PH × (Nat → Int64)} {a o : Nat} {p0 : Int32} {p1 : Int32} {q : Int32 × (PH × (Nat → Int64))} (hf : w_cut x a p0 p1 = some q) : CW l yL_cut cL_cut 5 [(0, 10, 13, 13), (0, 10, 17, 15), (0, 10, 21, 17)] 8 136 [.ref a, .int p0, .int p1, .ref o] o x.1 x.2 q.1 q.2.1 q.2.2 := by
  unfold w_cut at hf
  obtain ⟨r, hr, hf⟩ := bind_some hf
  cases r with
  | ok v =>
    cases hf
    exact cwo_cut hr
  | error E =>
    obtain ⟨E, hx⟩ := E
    dsimp only at hf
    by_cases c0 : E = eIO
    · rw [if_pos c0] at hf
      cases hf
      subst c0
      exact cwe0_cut hr
    · rw [if_neg c0] at hf
      by_cases c1 : E = eIA
      · rw [if_pos c1] at hf
        cases hf
        subst c1
        exact cwe1_cut hr
      · rw [if_neg c1] at hf
        by_cases c2 : E = eIS
        · rw [if_pos c2] at hf
          cases hf
          subst c2
          exact cwe2_cut hr
        · rw [if_neg c2] at hf
          cases hf
def w_turn (x : PH × (Nat → Int64)) (a : Nat) (p0 : Int32) : Option (Int32 × (PH × (Nat → Int64))) := (f_X5_turn x.1 a p0).bind fun r => match r with | .ok v => some (0, (v.2, vp_updL x.2 0 (v.1).toInt64)) | .error E => (if E.1 = eIO then some (1, (E.2, x.2)) else none)
theorem kdL_turn : yL_turn.cls ≠ "java/lang/invoke/MethodHandle" ∧ yL_turn.cls ≠ "java/lang/invoke/VarHandle" ∧ (parseMethodDescriptor yL_turn.desc).map (fun d => d.parameters.length) = some 3 := by decide +kernel
theorem cw_turn {l : Launch} {x : PH × (Nat → Int64)} {a o : Nat} {p0 : Int32} {q : Int32 × (PH × (Nat → Int64))} (hf : w_turn x a p0 = some q) : CW l yL_turn cL_turn 4 [(0, 9, 12, 13)] 8 134 [.ref a, .int p0, .ref o] o x.1 x.2 q.1 q.2.1 q.2.2 := by
  unfold w_turn at hf
  obtain ⟨r, hr, hf⟩ := bind_some hf
  cases r with
  | ok v =>
    cases hf
    exact cwo_turn hr
  | error E =>
    obtain ⟨E, hx⟩ := E
    dsimp only at hf
    by_cases c0 : E = eIO
    · rw [if_pos c0] at hf
      cases hf
      subst c0
      exact cwe0_turn hr
    · rw [if_neg c0] at hf
      cases hf
def w_join (x : PH × (Nat → Int64)) (a : Nat) (p0 : Int32) (p1 : Int32) : Option (Int32 × (PH × (Nat → Int64))) := (f_X5_join x.1 a p0 p1).bind fun r => match r with | .ok v => some (0, (v.2, vp_updL x.2 0 (v.1).toInt64)) | .error E => (if E.1 = eIO then some (1, (E.2, x.2)) else (if E.1 = eIS then some (2, (E.2, x.2)) else none))
theorem kdL_join : yL_join.cls ≠ "java/lang/invoke/MethodHandle" ∧ yL_join.cls ≠ "java/lang/invoke/VarHandle" ∧ (parseMethodDescriptor yL_join.desc).map (fun d => d.parameters.length) = some 4 := by decide +kernel
theorem cw_join {l : Launch} {x : PH × (Nat → Int64)} {a o : Nat} {p0 : Int32} {p1 : Int32} {q : Int32 × (PH × (Nat → Int64))} (hf : w_join x a p0 p1 = some q) : CW l yL_join cL_join 5 [(0, 10, 13, 13), (0, 10, 17, 17)] 8 146 [.ref a, .int p0, .int p1, .ref o] o x.1 x.2 q.1 q.2.1 q.2.2 := by
  unfold w_join at hf
  obtain ⟨r, hr, hf⟩ := bind_some hf
  cases r with
  | ok v =>
    cases hf
    exact cwo_join hr
  | error E =>
    obtain ⟨E, hx⟩ := E
    dsimp only at hf
    by_cases c0 : E = eIO
    · rw [if_pos c0] at hf
      cases hf
      subst c0
      exact cwe0_join hr
    · rw [if_neg c0] at hf
      by_cases c1 : E = eIS
      · rw [if_pos c1] at hf
        cases hf
        subst c1
        exact cwe1_join hr
      · rw [if_neg c1] at hf
        cases hf
def w_append (x : PH × (Nat → Int64)) (a : Nat) (p0 : Int32) : Option (Int32 × (PH × (Nat → Int64))) := (f_X5_append x.1 a p0).bind fun r => match r with | .ok v => some (0, (v.2, vp_updL x.2 0 (v.1).toInt64)) | .error E => (if E.1 = eIA then some (1, (E.2, x.2)) else (if E.1 = eIS then some (2, (E.2, x.2)) else none))
theorem kdL_append : yL_append.cls ≠ "java/lang/invoke/MethodHandle" ∧ yL_append.cls ≠ "java/lang/invoke/VarHandle" ∧ (parseMethodDescriptor yL_append.desc).map (fun d => d.parameters.length) = some 3 := by decide +kernel
theorem cw_append {l : Launch} {x : PH × (Nat → Int64)} {a o : Nat} {p0 : Int32} {q : Int32 × (PH × (Nat → Int64))} (hf : w_append x a p0 = some q) : CW l yL_append cL_append 4 [(0, 9, 12, 15), (0, 9, 15, 17)] 7 111 [.ref a, .int p0, .ref o] o x.1 x.2 q.1 q.2.1 q.2.2 := by
  unfold w_append at hf
  obtain ⟨r, hr, hf⟩ := bind_some hf
  cases r with
  | ok v =>
    cases hf
    exact cwo_append hr
  | error E =>
    obtain ⟨E, hx⟩ := E
    dsimp only at hf
    by_cases c0 : E = eIA
    · rw [if_pos c0] at hf
      cases hf
      subst c0
      exact cwe0_append hr
    · rw [if_neg c0] at hf
      by_cases c1 : E = eIS
      · rw [if_pos c1] at hf
        cases hf
        subst c1
        exact cwe1_append hr
      · rw [if_neg c1] at hf
        cases hf
def w_play (x : PH × (Nat → Int64)) (a : Nat)  : Option (Int32 × (PH × (Nat → Int64))) := (f_X5_play x.1 a ).bind fun r => match r with | .ok v => some (0, (v.2, vp_updL x.2 0 (v.1).toInt64)) | .error E => (if E.1 = eIA then some (1, (E.2, x.2)) else none)
theorem kdL_play : yL_play.cls ≠ "java/lang/invoke/MethodHandle" ∧ yL_play.cls ≠ "java/lang/invoke/VarHandle" ∧ (parseMethodDescriptor yL_play.desc).map (fun d => d.parameters.length) = some 2 := by decide +kernel
theorem cw_play {l : Launch} {x : PH × (Nat → Int64)} {a o : Nat}  {q : Int32 × (PH × (Nat → Int64))} (hf : w_play x a  = some q) : CW l yL_play cL_play 3 [(0, 8, 11, 15)] 7 143 [.ref a, .ref o] o x.1 x.2 q.1 q.2.1 q.2.2 := by
  unfold w_play at hf
  obtain ⟨r, hr, hf⟩ := bind_some hf
  cases r with
  | ok v =>
    cases hf
    exact cwo_play hr
  | error E =>
    obtain ⟨E, hx⟩ := E
    dsimp only at hf
    by_cases c0 : E = eIA
    · rw [if_pos c0] at hf
      cases hf
      subst c0
      exact cwe0_play hr
    · rw [if_neg c0] at hf
      cases hf
def w_undo (x : PH × (Nat → Int64)) (a : Nat)  : Option (Int32 × (PH × (Nat → Int64))) := (f_X5_undo x.1 a ).bind fun r => match r with | .ok v => some (0, (v.2, vp_updL x.2 0 (v.1).toInt64)) | .error E => (if E.1 = eIS then some (1, (E.2, x.2)) else none)
theorem kdL_undo : yL_undo.cls ≠ "java/lang/invoke/MethodHandle" ∧ yL_undo.cls ≠ "java/lang/invoke/VarHandle" ∧ (parseMethodDescriptor yL_undo.desc).map (fun d => d.parameters.length) = some 2 := by decide +kernel
theorem cw_undo {l : Launch} {x : PH × (Nat → Int64)} {a o : Nat}  {q : Int32 × (PH × (Nat → Int64))} (hf : w_undo x a  = some q) : CW l yL_undo cL_undo 3 [(0, 8, 11, 17)] 7 110 [.ref a, .ref o] o x.1 x.2 q.1 q.2.1 q.2.2 := by
  unfold w_undo at hf
  obtain ⟨r, hr, hf⟩ := bind_some hf
  cases r with
  | ok v =>
    cases hf
    exact cwo_undo hr
  | error E =>
    obtain ⟨E, hx⟩ := E
    dsimp only at hf
    by_cases c0 : E = eIS
    · rw [if_pos c0] at hf
      cases hf
      subst c0
      exact cwe0_undo hr
    · rw [if_neg c0] at hf
      cases hf
def w_restore (x : PH × (Nat → Int64)) (a : Nat)  : Option (Int32 × (PH × (Nat → Int64))) := (f_X5_restore x.1 a ).bind fun r => match r with | .ok v => some (0, (v.2, vp_updL x.2 0 (v.1).toInt64)) | .error E => (if E.1 = eIS then some (1, (E.2, x.2)) else none)
theorem kdL_restore : yL_restore.cls ≠ "java/lang/invoke/MethodHandle" ∧ yL_restore.cls ≠ "java/lang/invoke/VarHandle" ∧ (parseMethodDescriptor yL_restore.desc).map (fun d => d.parameters.length) = some 2 := by decide +kernel
theorem cw_restore {l : Launch} {x : PH × (Nat → Int64)} {a o : Nat}  {q : Int32 × (PH × (Nat → Int64))} (hf : w_restore x a  = some q) : CW l yL_restore cL_restore 3 [(0, 8, 11, 17)] 7 110 [.ref a, .ref o] o x.1 x.2 q.1 q.2.1 q.2.2 := by
  unfold w_restore at hf
  obtain ⟨r, hr, hf⟩ := bind_some hf
  cases r with
  | ok v =>
    cases hf
    exact cwo_restore hr
  | error E =>
    obtain ⟨E, hx⟩ := E
    dsimp only at hf
    by_cases c0 : E = eIS
    · rw [if_pos c0] at hf
      cases hf
      subst c0
      exact cwe0_restore hr
    · rw [if_neg c0] at hf
      cases hf
def w_place (x : PH × (Nat → Int64)) (a : Nat) (p0 : Int32) (p1 : Int32) : Option (Int32 × (PH × (Nat → Int64))) := (f_X5_place x.1 a p0 p1).bind fun r => match r with | .ok v => some (0, (x.1, vp_updL x.2 0 (v).toInt64)) | .error E => (if E = eIO then some (1, (x.1, x.2)) else none)
theorem kdL_place : yL_place.cls ≠ "java/lang/invoke/MethodHandle" ∧ yL_place.cls ≠ "java/lang/invoke/VarHandle" ∧ (parseMethodDescriptor yL_place.desc).map (fun d => d.parameters.length) = some 4 := by decide +kernel
theorem cw_place {l : Launch} {x : PH × (Nat → Int64)} {a o : Nat} {p0 : Int32} {p1 : Int32} {q : Int32 × (PH × (Nat → Int64))} (hf : w_place x a p0 p1 = some q) : CW l yL_place cL_place 5 [(0, 10, 13, 13)] 8 135 [.ref a, .int p0, .int p1, .ref o] o x.1 x.2 q.1 q.2.1 q.2.2 := by
  unfold w_place at hf
  obtain ⟨r, hr, hf⟩ := bind_some hf
  cases r with
  | ok v =>
    cases hf
    exact cwo_place hr
  | error E =>
    dsimp only at hf
    by_cases c0 : E = eIO
    · rw [if_pos c0] at hf
      cases hf
      subst c0
      exact cwe0_place hr
    · rw [if_neg c0] at hf
      cases hf
def w_ropeOf (x : PH × (Nat → Int64)) (a : Nat) (p0 : Int32) (p1 : Int32) : Option (Int32 × (PH × (Nat → Int64))) := (f_X5_ropeOf x.1 a p0 p1).bind fun r => match r with | .ok v => some (0, (x.1, vp_updL x.2 0 (v).toInt64)) | .error E => (if E = eIO then some (1, (x.1, x.2)) else (if E = eIA then some (2, (x.1, x.2)) else none))
theorem kdL_ropeOf : yL_ropeOf.cls ≠ "java/lang/invoke/MethodHandle" ∧ yL_ropeOf.cls ≠ "java/lang/invoke/VarHandle" ∧ (parseMethodDescriptor yL_ropeOf.desc).map (fun d => d.parameters.length) = some 4 := by decide +kernel
theorem cw_ropeOf {l : Launch} {x : PH × (Nat → Int64)} {a o : Nat} {p0 : Int32} {p1 : Int32} {q : Int32 × (PH × (Nat → Int64))} (hf : w_ropeOf x a p0 p1 = some q) : CW l yL_ropeOf cL_ropeOf 5 [(0, 10, 13, 13), (0, 10, 17, 15)] 8 135 [.ref a, .int p0, .int p1, .ref o] o x.1 x.2 q.1 q.2.1 q.2.2 := by
  unfold w_ropeOf at hf
  obtain ⟨r, hr, hf⟩ := bind_some hf
  cases r with
  | ok v =>
    cases hf
    exact cwo_ropeOf hr
  | error E =>
    dsimp only at hf
    by_cases c0 : E = eIO
    · rw [if_pos c0] at hf
      cases hf
      subst c0
      exact cwe0_ropeOf hr
    · rw [if_neg c0] at hf
      by_cases c1 : E = eIA
      · rw [if_pos c1] at hf
        cases hf
        subst c1
        exact cwe1_ropeOf hr
      · rw [if_neg c1] at hf
        cases hf
def w_hueOf (x : PH × (Nat → Int64)) (a : Nat) (p0 : Int32) (p1 : Int32) (p2 : Int32) : Option (Int32 × (PH × (Nat → Int64))) := (f_X5_hueOf x.1 a p0 p1 p2).bind fun r => match r with | .ok v => some (0, (x.1, vp_updL x.2 0 (v).toInt64)) | .error E => (if E = eIO then some (1, (x.1, x.2)) else (if E = eIA then some (2, (x.1, x.2)) else none))
theorem kdL_hueOf : yL_hueOf.cls ≠ "java/lang/invoke/MethodHandle" ∧ yL_hueOf.cls ≠ "java/lang/invoke/VarHandle" ∧ (parseMethodDescriptor yL_hueOf.desc).map (fun d => d.parameters.length) = some 5 := by decide +kernel
theorem cw_hueOf {l : Launch} {x : PH × (Nat → Int64)} {a o : Nat} {p0 : Int32} {p1 : Int32} {p2 : Int32} {q : Int32 × (PH × (Nat → Int64))} (hf : w_hueOf x a p0 p1 p2 = some q) : CW l yL_hueOf cL_hueOf 6 [(0, 12, 15, 13), (0, 12, 19, 15)] 8 136 [.ref a, .int p0, .int p1, .int p2, .ref o] o x.1 x.2 q.1 q.2.1 q.2.2 := by
  unfold w_hueOf at hf
  obtain ⟨r, hr, hf⟩ := bind_some hf
  cases r with
  | ok v =>
    cases hf
    exact cwo_hueOf hr
  | error E =>
    dsimp only at hf
    by_cases c0 : E = eIO
    · rw [if_pos c0] at hf
      cases hf
      subst c0
      exact cwe0_hueOf hr
    · rw [if_neg c0] at hf
      by_cases c1 : E = eIA
      · rw [if_pos c1] at hf
        cases hf
        subst c1
        exact cwe1_hueOf hr
      · rw [if_neg c1] at hf
        cases hf
def w_gapOf (x : PH × (Nat → Int64)) (a : Nat) (p0 : Int32) : Option (Int32 × (PH × (Nat → Int64))) := (f_X5_gapOf x.1 a p0).bind fun r => match r with | .ok v => some (0, (x.1, vp_updL x.2 0 (v).toInt64)) | .error E => (if E = eIO then some (1, (x.1, x.2)) else none)
theorem kdL_gapOf : yL_gapOf.cls ≠ "java/lang/invoke/MethodHandle" ∧ yL_gapOf.cls ≠ "java/lang/invoke/VarHandle" ∧ (parseMethodDescriptor yL_gapOf.desc).map (fun d => d.parameters.length) = some 3 := by decide +kernel
theorem cw_gapOf {l : Launch} {x : PH × (Nat → Int64)} {a o : Nat} {p0 : Int32} {q : Int32 × (PH × (Nat → Int64))} (hf : w_gapOf x a p0 = some q) : CW l yL_gapOf cL_gapOf 4 [(0, 9, 12, 13)] 8 132 [.ref a, .int p0, .ref o] o x.1 x.2 q.1 q.2.1 q.2.2 := by
  unfold w_gapOf at hf
  obtain ⟨r, hr, hf⟩ := bind_some hf
  cases r with
  | ok v =>
    cases hf
    exact cwo_gapOf hr
  | error E =>
    dsimp only at hf
    by_cases c0 : E = eIO
    · rw [if_pos c0] at hf
      cases hf
      subst c0
      exact cwe0_gapOf hr
    · rw [if_neg c0] at hf
      cases hf
def w_count (x : PH × (Nat → Int64)) (a : Nat) (p0 : Int32) : Option (Int32 × (PH × (Nat → Int64))) := (f_X5_count x.1 a p0).bind fun r => match r with | .ok v => some (0, (x.1, vp_updL x.2 0 (v).toInt64)) | .error E => (if E = eIA then some (1, (x.1, x.2)) else none)
theorem kdL_count : yL_count.cls ≠ "java/lang/invoke/MethodHandle" ∧ yL_count.cls ≠ "java/lang/invoke/VarHandle" ∧ (parseMethodDescriptor yL_count.desc).map (fun d => d.parameters.length) = some 3 := by decide +kernel
theorem cw_count {l : Launch} {x : PH × (Nat → Int64)} {a o : Nat} {p0 : Int32} {q : Int32 × (PH × (Nat → Int64))} (hf : w_count x a p0 = some q) : CW l yL_count cL_count 4 [(0, 9, 12, 15)] 8 133 [.ref a, .int p0, .ref o] o x.1 x.2 q.1 q.2.1 q.2.2 := by
  unfold w_count at hf
  obtain ⟨r, hr, hf⟩ := bind_some hf
  cases r with
  | ok v =>
    cases hf
    exact cwo_count hr
  | error E =>
    dsimp only at hf
    by_cases c0 : E = eIA
    · rw [if_pos c0] at hf
      cases hf
      subst c0
      exact cwe0_count hr
    · rw [if_neg c0] at hf
      cases hf
def w_refusal (x : PH × (Nat → Int64)) (a : Nat) (p0 : Int32) (p1 : Int32) (p2 : Int32) : Option (Int32 × (PH × (Nat → Int64))) := (f_X5_refusal x.1 a p0 p1 p2).bind fun r => match r with | .ok v => some (0, (x.1, vp_updL x.2 0 (v).toInt64)) | .error E => (if E = eIO then some (1, (x.1, x.2)) else (if E = eIA then some (2, (x.1, x.2)) else none))
theorem kdL_refusal : yL_refusal.cls ≠ "java/lang/invoke/MethodHandle" ∧ yL_refusal.cls ≠ "java/lang/invoke/VarHandle" ∧ (parseMethodDescriptor yL_refusal.desc).map (fun d => d.parameters.length) = some 5 := by decide +kernel
theorem cw_refusal {l : Launch} {x : PH × (Nat → Int64)} {a o : Nat} {p0 : Int32} {p1 : Int32} {p2 : Int32} {q : Int32 × (PH × (Nat → Int64))} (hf : w_refusal x a p0 p1 p2 = some q) : CW l yL_refusal cL_refusal 6 [(0, 12, 15, 13), (0, 12, 19, 15)] 8 136 [.ref a, .int p0, .int p1, .int p2, .ref o] o x.1 x.2 q.1 q.2.1 q.2.2 := by
  unfold w_refusal at hf
  obtain ⟨r, hr, hf⟩ := bind_some hf
  cases r with
  | ok v =>
    cases hf
    exact cwo_refusal hr
  | error E =>
    dsimp only at hf
    by_cases c0 : E = eIO
    · rw [if_pos c0] at hf
      cases hf
      subst c0
      exact cwe0_refusal hr
    · rw [if_neg c0] at hf
      by_cases c1 : E = eIA
      · rw [if_pos c1] at hf
        cases hf
        subst c1
        exact cwe1_refusal hr
      · rw [if_neg c1] at hf
        cases hf
def w_meeting (x : PH × (Nat → Int64)) (a : Nat) (p0 : Int32) (p1 : Int32) (p2 : Int32) (p3 : Int32) : Option (Int32 × (PH × (Nat → Int64))) := (f_X5_meeting x.1 a p0 p1 p2 p3).bind fun r => match r with | .ok v => some (0, (x.1, vp_updL x.2 0 (v).toInt64)) | .error E => (if E = eIO then some (1, (x.1, x.2)) else (if E = eIA then some (2, (x.1, x.2)) else none))
theorem kdL_meeting : yL_meeting.cls ≠ "java/lang/invoke/MethodHandle" ∧ yL_meeting.cls ≠ "java/lang/invoke/VarHandle" ∧ (parseMethodDescriptor yL_meeting.desc).map (fun d => d.parameters.length) = some 6 := by decide +kernel
theorem cw_meeting {l : Launch} {x : PH × (Nat → Int64)} {a o : Nat} {p0 : Int32} {p1 : Int32} {p2 : Int32} {p3 : Int32} {q : Int32 × (PH × (Nat → Int64))} (hf : w_meeting x a p0 p1 p2 p3 = some q) : CW l yL_meeting cL_meeting 7 [(0, 14, 17, 13), (0, 14, 21, 15)] 8 136 [.ref a, .int p0, .int p1, .int p2, .int p3, .ref o] o x.1 x.2 q.1 q.2.1 q.2.2 := by
  unfold w_meeting at hf
  obtain ⟨r, hr, hf⟩ := bind_some hf
  cases r with
  | ok v =>
    cases hf
    exact cwo_meeting hr
  | error E =>
    dsimp only at hf
    by_cases c0 : E = eIO
    · rw [if_pos c0] at hf
      cases hf
      subst c0
      exact cwe0_meeting hr
    · rw [if_neg c0] at hf
      by_cases c1 : E = eIA
      · rw [if_pos c1] at hf
        cases hf
        subst c1
        exact cwe1_meeting hr
      · rw [if_neg c1] at hf
        cases hf
def w_walked (x : PH × (Nat → Int64)) (a : Nat) (p0 : Int32) (p1 : Int32) (p2 : Int32) (p3 : Int32) : Option (Int32 × (PH × (Nat → Int64))) := (f_X5_walked x.1 a p0 p1 p2 p3).bind fun r => match r with | .ok v => some (0, (x.1, vp_updL x.2 0 (v).toInt64)) | .error E => (if E = eIO then some (1, (x.1, x.2)) else (if E = eIA then some (2, (x.1, x.2)) else none))
theorem kdL_walked : yL_walked.cls ≠ "java/lang/invoke/MethodHandle" ∧ yL_walked.cls ≠ "java/lang/invoke/VarHandle" ∧ (parseMethodDescriptor yL_walked.desc).map (fun d => d.parameters.length) = some 6 := by decide +kernel
theorem cw_walked {l : Launch} {x : PH × (Nat → Int64)} {a o : Nat} {p0 : Int32} {p1 : Int32} {p2 : Int32} {p3 : Int32} {q : Int32 × (PH × (Nat → Int64))} (hf : w_walked x a p0 p1 p2 p3 = some q) : CW l yL_walked cL_walked 7 [(0, 14, 17, 13), (0, 14, 21, 15)] 8 136 [.ref a, .int p0, .int p1, .int p2, .int p3, .ref o] o x.1 x.2 q.1 q.2.1 q.2.2 := by
  unfold w_walked at hf
  obtain ⟨r, hr, hf⟩ := bind_some hf
  cases r with
  | ok v =>
    cases hf
    exact cwo_walked hr
  | error E =>
    dsimp only at hf
    by_cases c0 : E = eIO
    · rw [if_pos c0] at hf
      cases hf
      subst c0
      exact cwe0_walked hr
    · rw [if_neg c0] at hf
      by_cases c1 : E = eIA
      · rw [if_pos c1] at hf
        cases hf
        subst c1
        exact cwe1_walked hr
      · rw [if_neg c1] at hf
        cases hf
def w_phases (x : PH × (Nat → Int64)) (a : Nat) (p0 : Int32) (p1 : Int32) (p2 : Int32) : Option (Int32 × (PH × (Nat → Int64))) := (f_X5_phases x.1 a p0 p1 p2).bind fun r => match r with | .ok v => some (0, (x.1, vp_updL x.2 0 (v).toInt64)) | .error E => (if E = eIO then some (1, (x.1, x.2)) else (if E = eIA then some (2, (x.1, x.2)) else none))
theorem kdL_phases : yL_phases.cls ≠ "java/lang/invoke/MethodHandle" ∧ yL_phases.cls ≠ "java/lang/invoke/VarHandle" ∧ (parseMethodDescriptor yL_phases.desc).map (fun d => d.parameters.length) = some 5 := by decide +kernel
theorem cw_phases {l : Launch} {x : PH × (Nat → Int64)} {a o : Nat} {p0 : Int32} {p1 : Int32} {p2 : Int32} {q : Int32 × (PH × (Nat → Int64))} (hf : w_phases x a p0 p1 p2 = some q) : CW l yL_phases cL_phases 6 [(0, 12, 15, 13), (0, 12, 19, 15)] 8 136 [.ref a, .int p0, .int p1, .int p2, .ref o] o x.1 x.2 q.1 q.2.1 q.2.2 := by
  unfold w_phases at hf
  obtain ⟨r, hr, hf⟩ := bind_some hf
  cases r with
  | ok v =>
    cases hf
    exact cwo_phases hr
  | error E =>
    dsimp only at hf
    by_cases c0 : E = eIO
    · rw [if_pos c0] at hf
      cases hf
      subst c0
      exact cwe0_phases hr
    · rw [if_neg c0] at hf
      by_cases c1 : E = eIA
      · rw [if_pos c1] at hf
        cases hf
        subst c1
        exact cwe1_phases hr
      · rw [if_neg c1] at hf
        cases hf
def w_bestHue (x : PH × (Nat → Int64)) (a : Nat) (p0 : Int32) : Option (Int32 × (PH × (Nat → Int64))) := (f_X5_bestHue x.1 a p0).bind fun r => match r with | .ok v => some (0, (x.1, vp_updL x.2 0 (v).toInt64)) | .error E => (if E = eIO then some (1, (x.1, x.2)) else none)
theorem kdL_bestHue : yL_bestHue.cls ≠ "java/lang/invoke/MethodHandle" ∧ yL_bestHue.cls ≠ "java/lang/invoke/VarHandle" ∧ (parseMethodDescriptor yL_bestHue.desc).map (fun d => d.parameters.length) = some 3 := by decide +kernel
theorem cw_bestHue {l : Launch} {x : PH × (Nat → Int64)} {a o : Nat} {p0 : Int32} {q : Int32 × (PH × (Nat → Int64))} (hf : w_bestHue x a p0 = some q) : CW l yL_bestHue cL_bestHue 4 [(0, 9, 12, 13)] 8 133 [.ref a, .int p0, .ref o] o x.1 x.2 q.1 q.2.1 q.2.2 := by
  unfold w_bestHue at hf
  obtain ⟨r, hr, hf⟩ := bind_some hf
  cases r with
  | ok v =>
    cases hf
    exact cwo_bestHue hr
  | error E =>
    dsimp only at hf
    by_cases c0 : E = eIO
    · rw [if_pos c0] at hf
      cases hf
      subst c0
      exact cwe0_bestHue hr
    · rw [if_neg c0] at hf
      cases hf
def w_joining (x : PH × (Nat → Int64)) (a : Nat) (p0 : Int32) (p1 : Int32) : Option (Int32 × (PH × (Nat → Int64))) := (f_X5_joining x.1 a p0 p1).bind fun r => match r with | .ok v => some (0, (v.2, vp_updL x.2 0 (v.1).toInt64)) | .error E => (if E.1 = eIO then some (1, (E.2, x.2)) else none)
theorem kdL_joining : yL_joining.cls ≠ "java/lang/invoke/MethodHandle" ∧ yL_joining.cls ≠ "java/lang/invoke/VarHandle" ∧ (parseMethodDescriptor yL_joining.desc).map (fun d => d.parameters.length) = some 4 := by decide +kernel
theorem cw_joining {l : Launch} {x : PH × (Nat → Int64)} {a o : Nat} {p0 : Int32} {p1 : Int32} {q : Int32 × (PH × (Nat → Int64))} (hf : w_joining x a p0 p1 = some q) : CW l yL_joining cL_joining 5 [(0, 10, 13, 13)] 8 146 [.ref a, .int p0, .int p1, .ref o] o x.1 x.2 q.1 q.2.1 q.2.2 := by
  unfold w_joining at hf
  obtain ⟨r, hr, hf⟩ := bind_some hf
  cases r with
  | ok v =>
    cases hf
    exact cwo_joining hr
  | error E =>
    obtain ⟨E, hx⟩ := E
    dsimp only at hf
    by_cases c0 : E = eIO
    · rw [if_pos c0] at hf
      cases hf
      subst c0
      exact cwe0_joining hr
    · rw [if_neg c0] at hf
      cases hf
def w_greatest (x : PH × (Nat → Int64)) (a : Nat) (p0 : Int32) : Option (Int32 × (PH × (Nat → Int64))) := (f_X5_greatest x.1 a p0).bind fun r => match r with | .ok v => some (0, (x.1, vp_updL x.2 0 (v).toInt64)) | .error E => (if E = eIO then some (1, (x.1, x.2)) else none)
theorem kdL_greatest : yL_greatest.cls ≠ "java/lang/invoke/MethodHandle" ∧ yL_greatest.cls ≠ "java/lang/invoke/VarHandle" ∧ (parseMethodDescriptor yL_greatest.desc).map (fun d => d.parameters.length) = some 3 := by decide +kernel
theorem cw_greatest {l : Launch} {x : PH × (Nat → Int64)} {a o : Nat} {p0 : Int32} {q : Int32 × (PH × (Nat → Int64))} (hf : w_greatest x a p0 = some q) : CW l yL_greatest cL_greatest 4 [(0, 9, 12, 13)] 8 133 [.ref a, .int p0, .ref o] o x.1 x.2 q.1 q.2.1 q.2.2 := by
  unfold w_greatest at hf
  obtain ⟨r, hr, hf⟩ := bind_some hf
  cases r with
  | ok v =>
    cases hf
    exact cwo_greatest hr
  | error E =>
    dsimp only at hf
    by_cases c0 : E = eIO
    · rw [if_pos c0] at hf
      cases hf
      subst c0
      exact cwe0_greatest hr
    · rw [if_neg c0] at hf
      cases hf
def f_L_law_J1894 (xs : Nat → Int32) (lL : Nat) (hh : (PH × (Nat → Int64))) (x1 : Nat) (x2 : Nat) (x4 : Int32)  : Option ((Int32 × (PH × (Nat → Int64))) ⊕ Unit) :=
  some (.inl ((x4 + 5), hh))
def f_L_law_J237 (xs : Nat → Int32) (lL : Nat) (hh : (PH × (Nat → Int64))) (x1 : Nat) (x2 : Nat) (x4 : Int32)  : Option ((Int32 × (PH × (Nat → Int64))) ⊕ Unit) :=
  (f_L_law_J1894 xs lL hh (x1) (x2) (x4))
def f_L_law_J293 (xs : Nat → Int32) (lL : Nat) (hh : (PH × (Nat → Int64))) (x1 : Nat) (x2 : Nat) (x4 : Int32)  : Option ((Int32 × (PH × (Nat → Int64))) ⊕ Unit) :=
  (f_L_law_J1894 xs lL hh (x1) (x2) (x4))
def f_L_law_J349 (xs : Nat → Int32) (lL : Nat) (hh : (PH × (Nat → Int64))) (x1 : Nat) (x2 : Nat) (x4 : Int32)  : Option ((Int32 × (PH × (Nat → Int64))) ⊕ Unit) :=
  (f_L_law_J1894 xs lL hh (x1) (x2) (x4))
def f_L_law_J429 (xs : Nat → Int32) (lL : Nat) (hh : (PH × (Nat → Int64))) (x1 : Nat) (x2 : Nat) (x4 : Int32)  : Option ((Int32 × (PH × (Nat → Int64))) ⊕ Unit) :=
  (f_L_law_J1894 xs lL hh (x1) (x2) (x4))
def f_L_law_J497 (xs : Nat → Int32) (lL : Nat) (hh : (PH × (Nat → Int64))) (x1 : Nat) (x2 : Nat) (x4 : Int32)  : Option ((Int32 × (PH × (Nat → Int64))) ⊕ Unit) :=
  (f_L_law_J1894 xs lL hh (x1) (x2) (x4))
def f_L_law_J565 (xs : Nat → Int32) (lL : Nat) (hh : (PH × (Nat → Int64))) (x1 : Nat) (x2 : Nat) (x4 : Int32)  : Option ((Int32 × (PH × (Nat → Int64))) ⊕ Unit) :=
  (f_L_law_J1894 xs lL hh (x1) (x2) (x4))
def f_L_law_J633 (xs : Nat → Int32) (lL : Nat) (hh : (PH × (Nat → Int64))) (x1 : Nat) (x2 : Nat) (x4 : Int32)  : Option ((Int32 × (PH × (Nat → Int64))) ⊕ Unit) :=
  (f_L_law_J1894 xs lL hh (x1) (x2) (x4))
def f_L_law_J689 (xs : Nat → Int32) (lL : Nat) (hh : (PH × (Nat → Int64))) (x1 : Nat) (x2 : Nat) (x4 : Int32)  : Option ((Int32 × (PH × (Nat → Int64))) ⊕ Unit) :=
  (f_L_law_J1894 xs lL hh (x1) (x2) (x4))
def f_L_law_J757 (xs : Nat → Int32) (lL : Nat) (hh : (PH × (Nat → Int64))) (x1 : Nat) (x2 : Nat) (x4 : Int32)  : Option ((Int32 × (PH × (Nat → Int64))) ⊕ Unit) :=
  (f_L_law_J1894 xs lL hh (x1) (x2) (x4))
def f_L_law_J813 (xs : Nat → Int32) (lL : Nat) (hh : (PH × (Nat → Int64))) (x1 : Nat) (x2 : Nat) (x4 : Int32)  : Option ((Int32 × (PH × (Nat → Int64))) ⊕ Unit) :=
  (f_L_law_J1894 xs lL hh (x1) (x2) (x4))
def f_L_law_J883 (xs : Nat → Int32) (lL : Nat) (hh : (PH × (Nat → Int64))) (x1 : Nat) (x2 : Nat) (x4 : Int32)  : Option ((Int32 × (PH × (Nat → Int64))) ⊕ Unit) :=
  (f_L_law_J1894 xs lL hh (x1) (x2) (x4))
def f_L_law_J927 (xs : Nat → Int32) (lL : Nat) (hh : (PH × (Nat → Int64))) (x1 : Nat) (x2 : Nat) (x4 : Int32)  : Option ((Int32 × (PH × (Nat → Int64))) ⊕ Unit) :=
  (f_L_law_J1894 xs lL hh (x1) (x2) (x4))
def f_L_law_J984 (xs : Nat → Int32) (lL : Nat) (hh : (PH × (Nat → Int64))) (x1 : Nat) (x2 : Nat) (x4 : Int32)  : Option ((Int32 × (PH × (Nat → Int64))) ⊕ Unit) :=
  (f_L_law_J1894 xs lL hh (x1) (x2) (x4))
def f_L_law_J1052 (xs : Nat → Int32) (lL : Nat) (hh : (PH × (Nat → Int64))) (x1 : Nat) (x2 : Nat) (x4 : Int32)  : Option ((Int32 × (PH × (Nat → Int64))) ⊕ Unit) :=
  (f_L_law_J1894 xs lL hh (x1) (x2) (x4))
def f_L_law_J1120 (xs : Nat → Int32) (lL : Nat) (hh : (PH × (Nat → Int64))) (x1 : Nat) (x2 : Nat) (x4 : Int32)  : Option ((Int32 × (PH × (Nat → Int64))) ⊕ Unit) :=
  (f_L_law_J1894 xs lL hh (x1) (x2) (x4))
def f_L_law_J1200 (xs : Nat → Int32) (lL : Nat) (hh : (PH × (Nat → Int64))) (x1 : Nat) (x2 : Nat) (x4 : Int32)  : Option ((Int32 × (PH × (Nat → Int64))) ⊕ Unit) :=
  (f_L_law_J1894 xs lL hh (x1) (x2) (x4))
def f_L_law_J1256 (xs : Nat → Int32) (lL : Nat) (hh : (PH × (Nat → Int64))) (x1 : Nat) (x2 : Nat) (x4 : Int32)  : Option ((Int32 × (PH × (Nat → Int64))) ⊕ Unit) :=
  (f_L_law_J1894 xs lL hh (x1) (x2) (x4))
def f_L_law_J1312 (xs : Nat → Int32) (lL : Nat) (hh : (PH × (Nat → Int64))) (x1 : Nat) (x2 : Nat) (x4 : Int32)  : Option ((Int32 × (PH × (Nat → Int64))) ⊕ Unit) :=
  (f_L_law_J1894 xs lL hh (x1) (x2) (x4))
def f_L_law_J1392 (xs : Nat → Int32) (lL : Nat) (hh : (PH × (Nat → Int64))) (x1 : Nat) (x2 : Nat) (x4 : Int32)  : Option ((Int32 × (PH × (Nat → Int64))) ⊕ Unit) :=
  (f_L_law_J1894 xs lL hh (x1) (x2) (x4))
def f_L_law_J1484 (xs : Nat → Int32) (lL : Nat) (hh : (PH × (Nat → Int64))) (x1 : Nat) (x2 : Nat) (x4 : Int32)  : Option ((Int32 × (PH × (Nat → Int64))) ⊕ Unit) :=
  (f_L_law_J1894 xs lL hh (x1) (x2) (x4))
def f_L_law_J1576 (xs : Nat → Int32) (lL : Nat) (hh : (PH × (Nat → Int64))) (x1 : Nat) (x2 : Nat) (x4 : Int32)  : Option ((Int32 × (PH × (Nat → Int64))) ⊕ Unit) :=
  (f_L_law_J1894 xs lL hh (x1) (x2) (x4))
def f_L_law_J1656 (xs : Nat → Int32) (lL : Nat) (hh : (PH × (Nat → Int64))) (x1 : Nat) (x2 : Nat) (x4 : Int32)  : Option ((Int32 × (PH × (Nat → Int64))) ⊕ Unit) :=
  (f_L_law_J1894 xs lL hh (x1) (x2) (x4))
def f_L_law_J1712 (xs : Nat → Int32) (lL : Nat) (hh : (PH × (Nat → Int64))) (x1 : Nat) (x2 : Nat) (x4 : Int32)  : Option ((Int32 × (PH × (Nat → Int64))) ⊕ Unit) :=
  (f_L_law_J1894 xs lL hh (x1) (x2) (x4))
def f_L_law_J1780 (xs : Nat → Int32) (lL : Nat) (hh : (PH × (Nat → Int64))) (x1 : Nat) (x2 : Nat) (x4 : Int32)  : Option ((Int32 × (PH × (Nat → Int64))) ⊕ Unit) :=
  (f_L_law_J1894 xs lL hh (x1) (x2) (x4))
def f_L_law_J1836 (xs : Nat → Int32) (lL : Nat) (hh : (PH × (Nat → Int64))) (x1 : Nat) (x2 : Nat) (x4 : Int32)  : Option ((Int32 × (PH × (Nat → Int64))) ⊕ Unit) :=
  (f_L_law_J1894 xs lL hh (x1) (x2) (x4))
def f_L_law_J1877 (xs : Nat → Int32) (lL : Nat) (hh : (PH × (Nat → Int64))) (x1 : Nat) (x2 : Nat) (x4 : Int32)  : Option ((Int32 × (PH × (Nat → Int64))) ⊕ Unit) :=
  (f_L_law_J1894 xs lL hh (x1) (x2) (x4))
def f_L_law (xs : Nat → Int32) (lL : Nat) (x1 x2 : Nat) : Int32 × (PH × (Nat → Int64)) → Option ((Int32 × (PH × (Nat → Int64))) ⊕ Unit) := fun z23 =>
  (fun (x4 : Int32) (hh : PH × (Nat → Int64)) => (if ((Int32.ofNat lL) - (5 : Int32)) < x4 then some (.inr ()) else (if ¬ (x4 < 0 ∨ lL ≤ (x4).toNatClampNeg) then (if ((xs (x4).toNatClampNeg) &&& (31 : Int32)) = 0 then (if ¬ ((x4 + (1 : Int32)) < 0 ∨ lL ≤ ((x4 + (1 : Int32))).toNatClampNeg) then (if ¬ ((x4 + (2 : Int32)) < 0 ∨ lL ≤ ((x4 + (2 : Int32))).toNatClampNeg) then ((w_gap hh (x1) ((xs ((x4 + (1 : Int32))).toNatClampNeg)) ((xs ((x4 + (2 : Int32))).toNatClampNeg))).bind fun q4 => (if ¬ ((x4 + (1 : Int32)) < 0 ∨ lL ≤ ((x4 + (1 : Int32))).toNatClampNeg) then (if ¬ ((x4 + (2 : Int32)) < 0 ∨ lL ≤ ((x4 + (2 : Int32))).toNatClampNeg) then ((f_X6_gap (q4.2).1 (x2) ((xs ((x4 + (1 : Int32))).toNatClampNeg)) ((xs ((x4 + (2 : Int32))).toNatClampNeg))).bind fun q7 => ((f_X6_thrown ((q7.2, (q4.2).2)).1 (x2)).bind fun q8 => (if q8 = q4.1 then (if ¬ q4.1 = 0 then (f_L_law_J237 xs lL (q7.2, (q4.2).2) (x1) (x2) (x4)) else (if (lg_cmp (((q7.2, (q4.2).2)).2 0) (q7.1).toInt64) = 0 then (f_L_law_J237 xs lL (q7.2, (q4.2).2) (x1) (x2) (x4)) else none)) else none))) else none) else none)) else none) else none) else (if ((xs (x4).toNatClampNeg) &&& (31 : Int32)) = 1 then (if ¬ ((x4 + (1 : Int32)) < 0 ∨ lL ≤ ((x4 + (1 : Int32))).toNatClampNeg) then ((w_rope hh (x1) ((xs ((x4 + (1 : Int32))).toNatClampNeg))).bind fun q10 => (if ¬ ((x4 + (1 : Int32)) < 0 ∨ lL ≤ ((x4 + (1 : Int32))).toNatClampNeg) then ((f_X6_rope (q10.2).1 (x2) ((xs ((x4 + (1 : Int32))).toNatClampNeg))).bind fun q12 => ((f_X6_thrown ((q12.2, (q10.2).2)).1 (x2)).bind fun q13 => (if q13 = q10.1 then (if ¬ q10.1 = 0 then (f_L_law_J293 xs lL (q12.2, (q10.2).2) (x1) (x2) (x4)) else (if (lg_cmp (((q12.2, (q10.2).2)).2 0) (q12.1).toInt64) = 0 then (f_L_law_J293 xs lL (q12.2, (q10.2).2) (x1) (x2) (x4)) else none)) else none))) else none)) else none) else (if ((xs (x4).toNatClampNeg) &&& (31 : Int32)) = 2 then (if ¬ ((x4 + (1 : Int32)) < 0 ∨ lL ≤ ((x4 + (1 : Int32))).toNatClampNeg) then ((w_drop hh (x1) ((xs ((x4 + (1 : Int32))).toNatClampNeg))).bind fun q15 => (if ¬ ((x4 + (1 : Int32)) < 0 ∨ lL ≤ ((x4 + (1 : Int32))).toNatClampNeg) then ((f_X6_drop (q15.2).1 (x2) ((xs ((x4 + (1 : Int32))).toNatClampNeg))).bind fun q17 => ((f_X6_thrown ((q17.2, (q15.2).2)).1 (x2)).bind fun q18 => (if q18 = q15.1 then (if ¬ q15.1 = 0 then (f_L_law_J349 xs lL (q17.2, (q15.2).2) (x1) (x2) (x4)) else (if (lg_cmp (((q17.2, (q15.2).2)).2 0) (q17.1).toInt64) = 0 then (f_L_law_J349 xs lL (q17.2, (q15.2).2) (x1) (x2) (x4)) else none)) else none))) else none)) else none) else (if ((xs (x4).toNatClampNeg) &&& (31 : Int32)) = 3 then (if ¬ ((x4 + (1 : Int32)) < 0 ∨ lL ≤ ((x4 + (1 : Int32))).toNatClampNeg) then (if ¬ ((x4 + (2 : Int32)) < 0 ∨ lL ≤ ((x4 + (2 : Int32))).toNatClampNeg) then (if ¬ ((x4 + (3 : Int32)) < 0 ∨ lL ≤ ((x4 + (3 : Int32))).toNatClampNeg) then ((w_lay hh (x1) ((xs ((x4 + (1 : Int32))).toNatClampNeg)) ((xs ((x4 + (2 : Int32))).toNatClampNeg)) ((xs ((x4 + (3 : Int32))).toNatClampNeg))).bind fun q22 => (if ¬ ((x4 + (1 : Int32)) < 0 ∨ lL ≤ ((x4 + (1 : Int32))).toNatClampNeg) then (if ¬ ((x4 + (2 : Int32)) < 0 ∨ lL ≤ ((x4 + (2 : Int32))).toNatClampNeg) then (if ¬ ((x4 + (3 : Int32)) < 0 ∨ lL ≤ ((x4 + (3 : Int32))).toNatClampNeg) then ((f_X6_lay (q22.2).1 (x2) ((xs ((x4 + (1 : Int32))).toNatClampNeg)) ((xs ((x4 + (2 : Int32))).toNatClampNeg)) ((xs ((x4 + (3 : Int32))).toNatClampNeg))).bind fun q26 => ((f_X6_thrown ((q26.2, (q22.2).2)).1 (x2)).bind fun q27 => (if q27 = q22.1 then (if ¬ q22.1 = 0 then (f_L_law_J429 xs lL (q26.2, (q22.2).2) (x1) (x2) (x4)) else (if (lg_cmp (((q26.2, (q22.2).2)).2 0) (q26.1).toInt64) = 0 then (f_L_law_J429 xs lL (q26.2, (q22.2).2) (x1) (x2) (x4)) else none)) else none))) else none) else none) else none)) else none) else none) else none) else (if ((xs (x4).toNatClampNeg) &&& (31 : Int32)) = 4 then (if ¬ ((x4 + (1 : Int32)) < 0 ∨ lL ≤ ((x4 + (1 : Int32))).toNatClampNeg) then (if ¬ ((x4 + (2 : Int32)) < 0 ∨ lL ≤ ((x4 + (2 : Int32))).toNatClampNeg) then ((w_take hh (x1) ((xs ((x4 + (1 : Int32))).toNatClampNeg)) ((xs ((x4 + (2 : Int32))).toNatClampNeg))).bind fun q30 => (if ¬ ((x4 + (1 : Int32)) < 0 ∨ lL ≤ ((x4 + (1 : Int32))).toNatClampNeg) then (if ¬ ((x4 + (2 : Int32)) < 0 ∨ lL ≤ ((x4 + (2 : Int32))).toNatClampNeg) then ((f_X6_take (q30.2).1 (x2) ((xs ((x4 + (1 : Int32))).toNatClampNeg)) ((xs ((x4 + (2 : Int32))).toNatClampNeg))).bind fun q33 => ((f_X6_thrown ((q33.2, (q30.2).2)).1 (x2)).bind fun q34 => (if q34 = q30.1 then (if ¬ q30.1 = 0 then (f_L_law_J497 xs lL (q33.2, (q30.2).2) (x1) (x2) (x4)) else (if (lg_cmp (((q33.2, (q30.2).2)).2 0) (q33.1).toInt64) = 0 then (f_L_law_J497 xs lL (q33.2, (q30.2).2) (x1) (x2) (x4)) else none)) else none))) else none) else none)) else none) else none) else (if ((xs (x4).toNatClampNeg) &&& (31 : Int32)) = 5 then (if ¬ ((x4 + (1 : Int32)) < 0 ∨ lL ≤ ((x4 + (1 : Int32))).toNatClampNeg) then (if ¬ ((x4 + (2 : Int32)) < 0 ∨ lL ≤ ((x4 + (2 : Int32))).toNatClampNeg) then ((w_stretch hh (x1) ((xs ((x4 + (1 : Int32))).toNatClampNeg)) ((xs ((x4 + (2 : Int32))).toNatClampNeg))).bind fun q37 => (if ¬ ((x4 + (1 : Int32)) < 0 ∨ lL ≤ ((x4 + (1 : Int32))).toNatClampNeg) then (if ¬ ((x4 + (2 : Int32)) < 0 ∨ lL ≤ ((x4 + (2 : Int32))).toNatClampNeg) then ((f_X6_stretch (q37.2).1 (x2) ((xs ((x4 + (1 : Int32))).toNatClampNeg)) ((xs ((x4 + (2 : Int32))).toNatClampNeg))).bind fun q40 => ((f_X6_thrown ((q40.2, (q37.2).2)).1 (x2)).bind fun q41 => (if q41 = q37.1 then (if ¬ q37.1 = 0 then (f_L_law_J565 xs lL (q40.2, (q37.2).2) (x1) (x2) (x4)) else (if (lg_cmp (((q40.2, (q37.2).2)).2 0) (q40.1).toInt64) = 0 then (f_L_law_J565 xs lL (q40.2, (q37.2).2) (x1) (x2) (x4)) else none)) else none))) else none) else none)) else none) else none) else (if ((xs (x4).toNatClampNeg) &&& (31 : Int32)) = 6 then (if ¬ ((x4 + (1 : Int32)) < 0 ∨ lL ≤ ((x4 + (1 : Int32))).toNatClampNeg) then (if ¬ ((x4 + (2 : Int32)) < 0 ∨ lL ≤ ((x4 + (2 : Int32))).toNatClampNeg) then ((w_cut hh (x1) ((xs ((x4 + (1 : Int32))).toNatClampNeg)) ((xs ((x4 + (2 : Int32))).toNatClampNeg))).bind fun q44 => (if ¬ ((x4 + (1 : Int32)) < 0 ∨ lL ≤ ((x4 + (1 : Int32))).toNatClampNeg) then (if ¬ ((x4 + (2 : Int32)) < 0 ∨ lL ≤ ((x4 + (2 : Int32))).toNatClampNeg) then ((f_X6_cut (q44.2).1 (x2) ((xs ((x4 + (1 : Int32))).toNatClampNeg)) ((xs ((x4 + (2 : Int32))).toNatClampNeg))).bind fun q47 => ((f_X6_thrown ((q47.2, (q44.2).2)).1 (x2)).bind fun q48 => (if q48 = q44.1 then (if ¬ q44.1 = 0 then (f_L_law_J633 xs lL (q47.2, (q44.2).2) (x1) (x2) (x4)) else (if (lg_cmp (((q47.2, (q44.2).2)).2 0) (q47.1).toInt64) = 0 then (f_L_law_J633 xs lL (q47.2, (q44.2).2) (x1) (x2) (x4)) else none)) else none))) else none) else none)) else none) else none) else (if ((xs (x4).toNatClampNeg) &&& (31 : Int32)) = 7 then (if ¬ ((x4 + (1 : Int32)) < 0 ∨ lL ≤ ((x4 + (1 : Int32))).toNatClampNeg) then ((w_turn hh (x1) ((xs ((x4 + (1 : Int32))).toNatClampNeg))).bind fun q50 => (if ¬ ((x4 + (1 : Int32)) < 0 ∨ lL ≤ ((x4 + (1 : Int32))).toNatClampNeg) then ((f_X6_turn (q50.2).1 (x2) ((xs ((x4 + (1 : Int32))).toNatClampNeg))).bind fun q52 => ((f_X6_thrown ((q52.2, (q50.2).2)).1 (x2)).bind fun q53 => (if q53 = q50.1 then (if ¬ q50.1 = 0 then (f_L_law_J689 xs lL (q52.2, (q50.2).2) (x1) (x2) (x4)) else (if (lg_cmp (((q52.2, (q50.2).2)).2 0) (q52.1).toInt64) = 0 then (f_L_law_J689 xs lL (q52.2, (q50.2).2) (x1) (x2) (x4)) else none)) else none))) else none)) else none) else (if ((xs (x4).toNatClampNeg) &&& (31 : Int32)) = 8 then (if ¬ ((x4 + (1 : Int32)) < 0 ∨ lL ≤ ((x4 + (1 : Int32))).toNatClampNeg) then (if ¬ ((x4 + (2 : Int32)) < 0 ∨ lL ≤ ((x4 + (2 : Int32))).toNatClampNeg) then ((w_join hh (x1) ((xs ((x4 + (1 : Int32))).toNatClampNeg)) ((xs ((x4 + (2 : Int32))).toNatClampNeg))).bind fun q56 => (if ¬ ((x4 + (1 : Int32)) < 0 ∨ lL ≤ ((x4 + (1 : Int32))).toNatClampNeg) then (if ¬ ((x4 + (2 : Int32)) < 0 ∨ lL ≤ ((x4 + (2 : Int32))).toNatClampNeg) then ((f_X6_join (q56.2).1 (x2) ((xs ((x4 + (1 : Int32))).toNatClampNeg)) ((xs ((x4 + (2 : Int32))).toNatClampNeg))).bind fun q59 => ((f_X6_thrown ((q59.2, (q56.2).2)).1 (x2)).bind fun q60 => (if q60 = q56.1 then (if ¬ q56.1 = 0 then (f_L_law_J757 xs lL (q59.2, (q56.2).2) (x1) (x2) (x4)) else (if (lg_cmp (((q59.2, (q56.2).2)).2 0) (q59.1).toInt64) = 0 then (f_L_law_J757 xs lL (q59.2, (q56.2).2) (x1) (x2) (x4)) else none)) else none))) else none) else none)) else none) else none) else (if ((xs (x4).toNatClampNeg) &&& (31 : Int32)) = 9 then (if ¬ ((x4 + (1 : Int32)) < 0 ∨ lL ≤ ((x4 + (1 : Int32))).toNatClampNeg) then ((w_append hh (x1) ((xs ((x4 + (1 : Int32))).toNatClampNeg))).bind fun q62 => (if ¬ ((x4 + (1 : Int32)) < 0 ∨ lL ≤ ((x4 + (1 : Int32))).toNatClampNeg) then ((f_X6_append (q62.2).1 (x2) ((xs ((x4 + (1 : Int32))).toNatClampNeg))).bind fun q64 => ((f_X6_thrown ((q64.2, (q62.2).2)).1 (x2)).bind fun q65 => (if q65 = q62.1 then (if ¬ q62.1 = 0 then (f_L_law_J813 xs lL (q64.2, (q62.2).2) (x1) (x2) (x4)) else (if (lg_cmp (((q64.2, (q62.2).2)).2 0) (q64.1).toInt64) = 0 then (f_L_law_J813 xs lL (q64.2, (q62.2).2) (x1) (x2) (x4)) else none)) else none))) else none)) else none) else (if ((xs (x4).toNatClampNeg) &&& (31 : Int32)) = 10 then ((f_X5_clearBuffer (hh).1 (x1)).bind fun q66 => ((f_X6_clearBuffer ((q66.2, (hh).2)).1 (x2)).bind fun q67 => (if q66.1 = q67.1 then (f_L_law_J1894 xs lL (q67.2, ((q66.2, (hh).2)).2) (x1) (x2) (x4)) else none))) else (if ((xs (x4).toNatClampNeg) &&& (31 : Int32)) = 11 then ((f_X5_firstError (hh).1 (x1)).bind fun q68 => ((f_X6_firstError (hh).1 (x2)).bind fun q69 => (if q68 = q69.1 then (f_L_law_J1894 xs lL (q69.2, (hh).2) (x1) (x2) (x4)) else none))) else (if ((xs (x4).toNatClampNeg) &&& (31 : Int32)) = 12 then ((w_play hh (x1)).bind fun q70 => ((f_X6_play (q70.2).1 (x2)).bind fun q71 => ((f_X6_thrown ((q71.2, (q70.2).2)).1 (x2)).bind fun q72 => (if q72 = q70.1 then (if ¬ q70.1 = 0 then (f_L_law_J883 xs lL (q71.2, (q70.2).2) (x1) (x2) (x4)) else (if (lg_cmp (((q71.2, (q70.2).2)).2 0) (q71.1).toInt64) = 0 then (f_L_law_J883 xs lL (q71.2, (q70.2).2) (x1) (x2) (x4)) else none)) else none)))) else (if ((xs (x4).toNatClampNeg) &&& (31 : Int32)) = 13 then ((w_undo hh (x1)).bind fun q73 => ((f_X6_undo (q73.2).1 (x2)).bind fun q74 => ((f_X6_thrown ((q74.2, (q73.2).2)).1 (x2)).bind fun q75 => (if q75 = q73.1 then (if ¬ q73.1 = 0 then (f_L_law_J927 xs lL (q74.2, (q73.2).2) (x1) (x2) (x4)) else (if (lg_cmp (((q74.2, (q73.2).2)).2 0) (q74.1).toInt64) = 0 then (f_L_law_J927 xs lL (q74.2, (q73.2).2) (x1) (x2) (x4)) else none)) else none)))) else (if ((xs (x4).toNatClampNeg) &&& (31 : Int32)) = 14 then ((f_X5_keep (hh).1 (x1)).bind fun q76 => ((f_X6_keep ((q76.2, (hh).2)).1 (x2)).bind fun q77 => (if q76.1 = q77.1 then (f_L_law_J1894 xs lL (q77.2, ((q76.2, (hh).2)).2) (x1) (x2) (x4)) else none))) else (if ((xs (x4).toNatClampNeg) &&& (31 : Int32)) = 15 then ((w_restore hh (x1)).bind fun q78 => ((f_X6_restore (q78.2).1 (x2)).bind fun q79 => ((f_X6_thrown ((q79.2, (q78.2).2)).1 (x2)).bind fun q80 => (if q80 = q78.1 then (if ¬ q78.1 = 0 then (f_L_law_J984 xs lL (q79.2, (q78.2).2) (x1) (x2) (x4)) else (if (lg_cmp (((q79.2, (q78.2).2)).2 0) (q79.1).toInt64) = 0 then (f_L_law_J984 xs lL (q79.2, (q78.2).2) (x1) (x2) (x4)) else none)) else none)))) else (if ((xs (x4).toNatClampNeg) &&& (31 : Int32)) = 16 then (if ¬ ((x4 + (1 : Int32)) < 0 ∨ lL ≤ ((x4 + (1 : Int32))).toNatClampNeg) then (if ¬ ((x4 + (2 : Int32)) < 0 ∨ lL ≤ ((x4 + (2 : Int32))).toNatClampNeg) then ((w_place hh (x1) ((xs ((x4 + (1 : Int32))).toNatClampNeg)) ((xs ((x4 + (2 : Int32))).toNatClampNeg))).bind fun q83 => (if ¬ ((x4 + (1 : Int32)) < 0 ∨ lL ≤ ((x4 + (1 : Int32))).toNatClampNeg) then (if ¬ ((x4 + (2 : Int32)) < 0 ∨ lL ≤ ((x4 + (2 : Int32))).toNatClampNeg) then ((f_X6_place (q83.2).1 (x2) ((xs ((x4 + (1 : Int32))).toNatClampNeg)) ((xs ((x4 + (2 : Int32))).toNatClampNeg))).bind fun q86 => ((f_X6_thrown ((q86.2, (q83.2).2)).1 (x2)).bind fun q87 => (if q87 = q83.1 then (if ¬ q83.1 = 0 then (f_L_law_J1052 xs lL (q86.2, (q83.2).2) (x1) (x2) (x4)) else (if (lg_cmp (((q86.2, (q83.2).2)).2 0) (q86.1).toInt64) = 0 then (f_L_law_J1052 xs lL (q86.2, (q83.2).2) (x1) (x2) (x4)) else none)) else none))) else none) else none)) else none) else none) else (if ((xs (x4).toNatClampNeg) &&& (31 : Int32)) = 17 then (if ¬ ((x4 + (1 : Int32)) < 0 ∨ lL ≤ ((x4 + (1 : Int32))).toNatClampNeg) then (if ¬ ((x4 + (2 : Int32)) < 0 ∨ lL ≤ ((x4 + (2 : Int32))).toNatClampNeg) then ((w_ropeOf hh (x1) ((xs ((x4 + (1 : Int32))).toNatClampNeg)) ((xs ((x4 + (2 : Int32))).toNatClampNeg))).bind fun q90 => (if ¬ ((x4 + (1 : Int32)) < 0 ∨ lL ≤ ((x4 + (1 : Int32))).toNatClampNeg) then (if ¬ ((x4 + (2 : Int32)) < 0 ∨ lL ≤ ((x4 + (2 : Int32))).toNatClampNeg) then ((f_X6_ropeOf (q90.2).1 (x2) ((xs ((x4 + (1 : Int32))).toNatClampNeg)) ((xs ((x4 + (2 : Int32))).toNatClampNeg))).bind fun q93 => ((f_X6_thrown ((q93.2, (q90.2).2)).1 (x2)).bind fun q94 => (if q94 = q90.1 then (if ¬ q90.1 = 0 then (f_L_law_J1120 xs lL (q93.2, (q90.2).2) (x1) (x2) (x4)) else (if (lg_cmp (((q93.2, (q90.2).2)).2 0) (q93.1).toInt64) = 0 then (f_L_law_J1120 xs lL (q93.2, (q90.2).2) (x1) (x2) (x4)) else none)) else none))) else none) else none)) else none) else none) else (if ((xs (x4).toNatClampNeg) &&& (31 : Int32)) = 18 then (if ¬ ((x4 + (1 : Int32)) < 0 ∨ lL ≤ ((x4 + (1 : Int32))).toNatClampNeg) then (if ¬ ((x4 + (2 : Int32)) < 0 ∨ lL ≤ ((x4 + (2 : Int32))).toNatClampNeg) then (if ¬ ((x4 + (3 : Int32)) < 0 ∨ lL ≤ ((x4 + (3 : Int32))).toNatClampNeg) then ((w_hueOf hh (x1) ((xs ((x4 + (1 : Int32))).toNatClampNeg)) ((xs ((x4 + (2 : Int32))).toNatClampNeg)) ((xs ((x4 + (3 : Int32))).toNatClampNeg))).bind fun q98 => (if ¬ ((x4 + (1 : Int32)) < 0 ∨ lL ≤ ((x4 + (1 : Int32))).toNatClampNeg) then (if ¬ ((x4 + (2 : Int32)) < 0 ∨ lL ≤ ((x4 + (2 : Int32))).toNatClampNeg) then (if ¬ ((x4 + (3 : Int32)) < 0 ∨ lL ≤ ((x4 + (3 : Int32))).toNatClampNeg) then ((f_X6_hueOf (q98.2).1 (x2) ((xs ((x4 + (1 : Int32))).toNatClampNeg)) ((xs ((x4 + (2 : Int32))).toNatClampNeg)) ((xs ((x4 + (3 : Int32))).toNatClampNeg))).bind fun q102 => ((f_X6_thrown ((q102.2, (q98.2).2)).1 (x2)).bind fun q103 => (if q103 = q98.1 then (if ¬ q98.1 = 0 then (f_L_law_J1200 xs lL (q102.2, (q98.2).2) (x1) (x2) (x4)) else (if (lg_cmp (((q102.2, (q98.2).2)).2 0) (q102.1).toInt64) = 0 then (f_L_law_J1200 xs lL (q102.2, (q98.2).2) (x1) (x2) (x4)) else none)) else none))) else none) else none) else none)) else none) else none) else none) else (if ((xs (x4).toNatClampNeg) &&& (31 : Int32)) = 19 then (if ¬ ((x4 + (1 : Int32)) < 0 ∨ lL ≤ ((x4 + (1 : Int32))).toNatClampNeg) then ((w_gapOf hh (x1) ((xs ((x4 + (1 : Int32))).toNatClampNeg))).bind fun q105 => (if ¬ ((x4 + (1 : Int32)) < 0 ∨ lL ≤ ((x4 + (1 : Int32))).toNatClampNeg) then ((f_X6_gapOf (q105.2).1 (x2) ((xs ((x4 + (1 : Int32))).toNatClampNeg))).bind fun q107 => ((f_X6_thrown ((q107.2, (q105.2).2)).1 (x2)).bind fun q108 => (if q108 = q105.1 then (if ¬ q105.1 = 0 then (f_L_law_J1256 xs lL (q107.2, (q105.2).2) (x1) (x2) (x4)) else (if (lg_cmp (((q107.2, (q105.2).2)).2 0) (q107.1).toInt64) = 0 then (f_L_law_J1256 xs lL (q107.2, (q105.2).2) (x1) (x2) (x4)) else none)) else none))) else none)) else none) else (if ((xs (x4).toNatClampNeg) &&& (31 : Int32)) = 20 then (if ¬ ((x4 + (1 : Int32)) < 0 ∨ lL ≤ ((x4 + (1 : Int32))).toNatClampNeg) then ((w_count hh (x1) ((xs ((x4 + (1 : Int32))).toNatClampNeg))).bind fun q110 => (if ¬ ((x4 + (1 : Int32)) < 0 ∨ lL ≤ ((x4 + (1 : Int32))).toNatClampNeg) then ((f_X6_count (q110.2).1 (x2) ((xs ((x4 + (1 : Int32))).toNatClampNeg))).bind fun q112 => ((f_X6_thrown ((q112.2, (q110.2).2)).1 (x2)).bind fun q113 => (if q113 = q110.1 then (if ¬ q110.1 = 0 then (f_L_law_J1312 xs lL (q112.2, (q110.2).2) (x1) (x2) (x4)) else (if (lg_cmp (((q112.2, (q110.2).2)).2 0) (q112.1).toInt64) = 0 then (f_L_law_J1312 xs lL (q112.2, (q110.2).2) (x1) (x2) (x4)) else none)) else none))) else none)) else none) else (if ((xs (x4).toNatClampNeg) &&& (31 : Int32)) = 21 then (if ¬ ((x4 + (1 : Int32)) < 0 ∨ lL ≤ ((x4 + (1 : Int32))).toNatClampNeg) then (if ¬ ((x4 + (2 : Int32)) < 0 ∨ lL ≤ ((x4 + (2 : Int32))).toNatClampNeg) then (if ¬ ((x4 + (3 : Int32)) < 0 ∨ lL ≤ ((x4 + (3 : Int32))).toNatClampNeg) then ((w_refusal hh (x1) ((xs ((x4 + (1 : Int32))).toNatClampNeg)) ((xs ((x4 + (2 : Int32))).toNatClampNeg)) ((xs ((x4 + (3 : Int32))).toNatClampNeg))).bind fun q117 => (if ¬ ((x4 + (1 : Int32)) < 0 ∨ lL ≤ ((x4 + (1 : Int32))).toNatClampNeg) then (if ¬ ((x4 + (2 : Int32)) < 0 ∨ lL ≤ ((x4 + (2 : Int32))).toNatClampNeg) then (if ¬ ((x4 + (3 : Int32)) < 0 ∨ lL ≤ ((x4 + (3 : Int32))).toNatClampNeg) then ((f_X6_refusal (q117.2).1 (x2) ((xs ((x4 + (1 : Int32))).toNatClampNeg)) ((xs ((x4 + (2 : Int32))).toNatClampNeg)) ((xs ((x4 + (3 : Int32))).toNatClampNeg))).bind fun q121 => ((f_X6_thrown ((q121.2, (q117.2).2)).1 (x2)).bind fun q122 => (if q122 = q117.1 then (if ¬ q117.1 = 0 then (f_L_law_J1392 xs lL (q121.2, (q117.2).2) (x1) (x2) (x4)) else (if (lg_cmp (((q121.2, (q117.2).2)).2 0) (q121.1).toInt64) = 0 then (f_L_law_J1392 xs lL (q121.2, (q117.2).2) (x1) (x2) (x4)) else none)) else none))) else none) else none) else none)) else none) else none) else none) else (if ((xs (x4).toNatClampNeg) &&& (31 : Int32)) = 22 then (if ¬ ((x4 + (1 : Int32)) < 0 ∨ lL ≤ ((x4 + (1 : Int32))).toNatClampNeg) then (if ¬ ((x4 + (2 : Int32)) < 0 ∨ lL ≤ ((x4 + (2 : Int32))).toNatClampNeg) then (if ¬ ((x4 + (3 : Int32)) < 0 ∨ lL ≤ ((x4 + (3 : Int32))).toNatClampNeg) then (if ¬ ((x4 + (4 : Int32)) < 0 ∨ lL ≤ ((x4 + (4 : Int32))).toNatClampNeg) then ((w_meeting hh (x1) ((xs ((x4 + (1 : Int32))).toNatClampNeg)) ((xs ((x4 + (2 : Int32))).toNatClampNeg)) ((xs ((x4 + (3 : Int32))).toNatClampNeg)) ((xs ((x4 + (4 : Int32))).toNatClampNeg))).bind fun q127 => (if ¬ ((x4 + (1 : Int32)) < 0 ∨ lL ≤ ((x4 + (1 : Int32))).toNatClampNeg) then (if ¬ ((x4 + (2 : Int32)) < 0 ∨ lL ≤ ((x4 + (2 : Int32))).toNatClampNeg) then (if ¬ ((x4 + (3 : Int32)) < 0 ∨ lL ≤ ((x4 + (3 : Int32))).toNatClampNeg) then (if ¬ ((x4 + (4 : Int32)) < 0 ∨ lL ≤ ((x4 + (4 : Int32))).toNatClampNeg) then ((f_X6_meeting (q127.2).1 (x2) ((xs ((x4 + (1 : Int32))).toNatClampNeg)) ((xs ((x4 + (2 : Int32))).toNatClampNeg)) ((xs ((x4 + (3 : Int32))).toNatClampNeg)) ((xs ((x4 + (4 : Int32))).toNatClampNeg))).bind fun q132 => ((f_X6_thrown ((q132.2, (q127.2).2)).1 (x2)).bind fun q133 => (if q133 = q127.1 then (if ¬ q127.1 = 0 then (f_L_law_J1484 xs lL (q132.2, (q127.2).2) (x1) (x2) (x4)) else (if (lg_cmp (((q132.2, (q127.2).2)).2 0) (q132.1).toInt64) = 0 then (f_L_law_J1484 xs lL (q132.2, (q127.2).2) (x1) (x2) (x4)) else none)) else none))) else none) else none) else none) else none)) else none) else none) else none) else none) else (if ((xs (x4).toNatClampNeg) &&& (31 : Int32)) = 23 then (if ¬ ((x4 + (1 : Int32)) < 0 ∨ lL ≤ ((x4 + (1 : Int32))).toNatClampNeg) then (if ¬ ((x4 + (2 : Int32)) < 0 ∨ lL ≤ ((x4 + (2 : Int32))).toNatClampNeg) then (if ¬ ((x4 + (3 : Int32)) < 0 ∨ lL ≤ ((x4 + (3 : Int32))).toNatClampNeg) then (if ¬ ((x4 + (4 : Int32)) < 0 ∨ lL ≤ ((x4 + (4 : Int32))).toNatClampNeg) then ((w_walked hh (x1) ((xs ((x4 + (1 : Int32))).toNatClampNeg)) ((xs ((x4 + (2 : Int32))).toNatClampNeg)) ((xs ((x4 + (3 : Int32))).toNatClampNeg)) ((xs ((x4 + (4 : Int32))).toNatClampNeg))).bind fun q138 => (if ¬ ((x4 + (1 : Int32)) < 0 ∨ lL ≤ ((x4 + (1 : Int32))).toNatClampNeg) then (if ¬ ((x4 + (2 : Int32)) < 0 ∨ lL ≤ ((x4 + (2 : Int32))).toNatClampNeg) then (if ¬ ((x4 + (3 : Int32)) < 0 ∨ lL ≤ ((x4 + (3 : Int32))).toNatClampNeg) then (if ¬ ((x4 + (4 : Int32)) < 0 ∨ lL ≤ ((x4 + (4 : Int32))).toNatClampNeg) then ((f_X6_walked (q138.2).1 (x2) ((xs ((x4 + (1 : Int32))).toNatClampNeg)) ((xs ((x4 + (2 : Int32))).toNatClampNeg)) ((xs ((x4 + (3 : Int32))).toNatClampNeg)) ((xs ((x4 + (4 : Int32))).toNatClampNeg))).bind fun q143 => ((f_X6_thrown ((q143.2, (q138.2).2)).1 (x2)).bind fun q144 => (if q144 = q138.1 then (if ¬ q138.1 = 0 then (f_L_law_J1576 xs lL (q143.2, (q138.2).2) (x1) (x2) (x4)) else (if (lg_cmp (((q143.2, (q138.2).2)).2 0) (q143.1).toInt64) = 0 then (f_L_law_J1576 xs lL (q143.2, (q138.2).2) (x1) (x2) (x4)) else none)) else none))) else none) else none) else none) else none)) else none) else none) else none) else none) else (if ((xs (x4).toNatClampNeg) &&& (31 : Int32)) = 24 then (if ¬ ((x4 + (1 : Int32)) < 0 ∨ lL ≤ ((x4 + (1 : Int32))).toNatClampNeg) then (if ¬ ((x4 + (2 : Int32)) < 0 ∨ lL ≤ ((x4 + (2 : Int32))).toNatClampNeg) then (if ¬ ((x4 + (3 : Int32)) < 0 ∨ lL ≤ ((x4 + (3 : Int32))).toNatClampNeg) then ((w_phases hh (x1) ((xs ((x4 + (1 : Int32))).toNatClampNeg)) ((xs ((x4 + (2 : Int32))).toNatClampNeg)) ((xs ((x4 + (3 : Int32))).toNatClampNeg))).bind fun q148 => (if ¬ ((x4 + (1 : Int32)) < 0 ∨ lL ≤ ((x4 + (1 : Int32))).toNatClampNeg) then (if ¬ ((x4 + (2 : Int32)) < 0 ∨ lL ≤ ((x4 + (2 : Int32))).toNatClampNeg) then (if ¬ ((x4 + (3 : Int32)) < 0 ∨ lL ≤ ((x4 + (3 : Int32))).toNatClampNeg) then ((f_X6_phases (q148.2).1 (x2) ((xs ((x4 + (1 : Int32))).toNatClampNeg)) ((xs ((x4 + (2 : Int32))).toNatClampNeg)) ((xs ((x4 + (3 : Int32))).toNatClampNeg))).bind fun q152 => ((f_X6_thrown ((q152.2, (q148.2).2)).1 (x2)).bind fun q153 => (if q153 = q148.1 then (if ¬ q148.1 = 0 then (f_L_law_J1656 xs lL (q152.2, (q148.2).2) (x1) (x2) (x4)) else (if (lg_cmp (((q152.2, (q148.2).2)).2 0) (q152.1).toInt64) = 0 then (f_L_law_J1656 xs lL (q152.2, (q148.2).2) (x1) (x2) (x4)) else none)) else none))) else none) else none) else none)) else none) else none) else none) else (if ((xs (x4).toNatClampNeg) &&& (31 : Int32)) = 25 then (if ¬ ((x4 + (1 : Int32)) < 0 ∨ lL ≤ ((x4 + (1 : Int32))).toNatClampNeg) then ((w_bestHue hh (x1) ((xs ((x4 + (1 : Int32))).toNatClampNeg))).bind fun q155 => (if ¬ ((x4 + (1 : Int32)) < 0 ∨ lL ≤ ((x4 + (1 : Int32))).toNatClampNeg) then ((f_X6_bestHue (q155.2).1 (x2) ((xs ((x4 + (1 : Int32))).toNatClampNeg))).bind fun q157 => ((f_X6_thrown ((q157.2, (q155.2).2)).1 (x2)).bind fun q158 => (if q158 = q155.1 then (if ¬ q155.1 = 0 then (f_L_law_J1712 xs lL (q157.2, (q155.2).2) (x1) (x2) (x4)) else (if (lg_cmp (((q157.2, (q155.2).2)).2 0) (q157.1).toInt64) = 0 then (f_L_law_J1712 xs lL (q157.2, (q155.2).2) (x1) (x2) (x4)) else none)) else none))) else none)) else none) else (if ((xs (x4).toNatClampNeg) &&& (31 : Int32)) = 26 then (if ¬ ((x4 + (1 : Int32)) < 0 ∨ lL ≤ ((x4 + (1 : Int32))).toNatClampNeg) then (if ¬ ((x4 + (2 : Int32)) < 0 ∨ lL ≤ ((x4 + (2 : Int32))).toNatClampNeg) then ((w_joining hh (x1) ((xs ((x4 + (1 : Int32))).toNatClampNeg)) ((xs ((x4 + (2 : Int32))).toNatClampNeg))).bind fun q161 => (if ¬ ((x4 + (1 : Int32)) < 0 ∨ lL ≤ ((x4 + (1 : Int32))).toNatClampNeg) then (if ¬ ((x4 + (2 : Int32)) < 0 ∨ lL ≤ ((x4 + (2 : Int32))).toNatClampNeg) then ((f_X6_joining (q161.2).1 (x2) ((xs ((x4 + (1 : Int32))).toNatClampNeg)) ((xs ((x4 + (2 : Int32))).toNatClampNeg))).bind fun q164 => ((f_X6_thrown ((q164.2, (q161.2).2)).1 (x2)).bind fun q165 => (if q165 = q161.1 then (if ¬ q161.1 = 0 then (f_L_law_J1780 xs lL (q164.2, (q161.2).2) (x1) (x2) (x4)) else (if (lg_cmp (((q164.2, (q161.2).2)).2 0) (q164.1).toInt64) = 0 then (f_L_law_J1780 xs lL (q164.2, (q161.2).2) (x1) (x2) (x4)) else none)) else none))) else none) else none)) else none) else none) else (if ((xs (x4).toNatClampNeg) &&& (31 : Int32)) = 27 then (if ¬ ((x4 + (1 : Int32)) < 0 ∨ lL ≤ ((x4 + (1 : Int32))).toNatClampNeg) then ((w_greatest hh (x1) ((xs ((x4 + (1 : Int32))).toNatClampNeg))).bind fun q167 => (if ¬ ((x4 + (1 : Int32)) < 0 ∨ lL ≤ ((x4 + (1 : Int32))).toNatClampNeg) then ((f_X6_greatest (q167.2).1 (x2) ((xs ((x4 + (1 : Int32))).toNatClampNeg))).bind fun q169 => ((f_X6_thrown ((q169.2, (q167.2).2)).1 (x2)).bind fun q170 => (if q170 = q167.1 then (if ¬ q167.1 = 0 then (f_L_law_J1836 xs lL (q169.2, (q167.2).2) (x1) (x2) (x4)) else (if (lg_cmp (((q169.2, (q167.2).2)).2 0) (q169.1).toInt64) = 0 then (f_L_law_J1836 xs lL (q169.2, (q167.2).2) (x1) (x2) (x4)) else none)) else none))) else none)) else none) else (if ((xs (x4).toNatClampNeg) &&& (31 : Int32)) = 28 then ((f_X5_fullness (hh).1 (x1)).bind fun q171 => ((f_X6_fullness (hh).1 (x2)).bind fun q172 => (if (Op.cmpValue (FP.dcmp q171 q172.1) .l) = 0 then (f_L_law_J1877 xs lL (q172.2, (hh).2) (x1) (x2) (x4)) else (if (Op.cmpValue (FP.dcmp q171 q171) .l) = 0 then none else (if ¬ (Op.cmpValue (FP.dcmp q172.1 q172.1) .l) = 0 then (f_L_law_J1877 xs lL (q172.2, (hh).2) (x1) (x2) (x4)) else none))))) else (if ((xs (x4).toNatClampNeg) &&& (31 : Int32)) = 29 then ((f_X5_digest (hh).1 (x1)).bind fun q173 => ((f_X6_digest ((q173.2, (hh).2)).1 (x2)).bind fun q174 => (if (lg_cmp q173.1 q174.1) = 0 then (f_L_law_J1894 xs lL (q174.2, ((q173.2, (hh).2)).2) (x1) (x2) (x4)) else none))) else (f_L_law_J1894 xs lL hh (x1) (x2) (x4)))))))))))))))))))))))))))))))) else none))) z23.1 z23.2
set_option maxRecDepth 20000 in
set_option maxHeartbeats 8000000 in
theorem law_loop {p : Program} {l : Launch} {e : Env} {s : State} {m : MethodId} {args : Array Value} {below : List Frame} {meth : Method} {c : Code} {g : GC} {o9 b9 x1 x2 lL : Nat} {xs : Nat → Int32} {Q : State → Prop} (C : Cx p s m args meth c cL_law 9 RL ret g) (hX : va_X b9 lL xs s s.heap) (hbl : b9 < s.heap.size) (hbo : b9 ≠ o9) (TT : ∀ f, TX l (AF (XO g o9 f) (fun _ => none) s.heap.size) s s.heap) (hN : NC s)
    (hend : ∀ (x4 : Int32) (hh : PH × (Nat → Int64)), GL p l e s m args below meth c g o9 1000 Q 1900 [(0, .ref b9), (1, .ref x1), (2, .ref x2), (3, .ref o9), (4, .int x4)] [] hh) :
    ∀ (k cb : Nat), cb + k ≤ 999 → ∀ (x4 : Int32) (hh : PH × (Nat → Int64)) (z : Unit), lpn (f_L_law xs lL x1 x2) k (x4, hh) = some z → GL p l e s m args below meth c g o9 cb Q 23 [(0, .ref b9), (1, .ref x1), (2, .ref x2), (3, .ref o9), (4, .int x4)] [] hh := by
  intro k
  induction k with
  | zero => intro cb hcb x4 hh z hlp; exact (lpn_0 hlp).elim
  | succ k ih0 =>
    intro cb hcb x4 hh z hlp
    have ih : ∀ (cb2 : Nat), cb2 + k ≤ 999 → ∀ (x4 : Int32) (hh : PH × (Nat → Int64)), lpn (f_L_law xs lL x1 x2) k (x4, hh) = some z → GL p l e s m args below meth c g o9 cb2 Q 23 [(0, .ref b9), (1, .ref x1), (2, .ref x2), (3, .ref o9), (4, .int x4)] [] hh := fun cb2 h2 x4 hh h3 => ih0 cb2 h2 x4 hh z h3
    obtain ⟨y, hf, hlp⟩ := lpn_s hlp
    unfold f_L_law at hf
    try dsimp only at hf
    have hj1894 : ∀ (hh : (PH × (Nat → Int64))) (x4 : Int32), f_L_law_J1894 xs lL hh (x1) (x2) (x4) = some y → GL p l e s m args below meth c g o9 (cb + 1) Q 1894 [(0, .ref (b9)), (3, .ref (o9)), (1, .ref (x1)), (2, .ref (x2)), (4, .int (x4))] [] hh := by
      intro hh x4 hf
      unfold f_L_law_J1894 at hf
      refine GL.iinc (k := 4) (v := (x4 + 5)) (lv' := [(4, .int ((x4 + 5))), (0, .ref (b9)), (3, .ref (o9)), (1, .ref (x1)), (2, .ref (x2))]) C dL_law_1894 rfl rfl (by decide) rfl ?_
      refine GL.goto (tgt := 23) C dL_law_1897 (by decide) ?_
      cases hf
      refine GL.sub C [1, 3, 4, 2, 0] (lv' := [(0, .ref (b9)), (1, .ref (x1)), (2, .ref (x2)), (3, .ref (o9)), (4, .int ((x4 + 5)))]) rfl ?_
      exact ih (cb + 1) (by omega) _ _ hlp
    have hj237 : ∀ (hh : (PH × (Nat → Int64))) (x4 : Int32), f_L_law_J237 xs lL hh (x1) (x2) (x4) = some y → GL p l e s m args below meth c g o9 (cb + 1) Q 237 [(0, .ref (b9)), (3, .ref (o9)), (1, .ref (x1)), (2, .ref (x2)), (4, .int (x4))] [] hh := by
      intro hh x4 hf
      unfold f_L_law_J237 at hf
      refine GL.goto (tgt := 1894) C dL_law_237 (by decide) ?_
      refine GL.mono (c2 := cb + 1) (by omega) ?_
      refine GL.sub C [0, 1, 2, 3, 4] (lv' := [(0, .ref (b9)), (3, .ref (o9)), (1, .ref (x1)), (2, .ref (x2)), (4, .int (x4))]) rfl ?_
      exact hj1894 _ _ hf
    have hj293 : ∀ (hh : (PH × (Nat → Int64))) (x4 : Int32), f_L_law_J293 xs lL hh (x1) (x2) (x4) = some y → GL p l e s m args below meth c g o9 (cb + 1) Q 293 [(0, .ref (b9)), (3, .ref (o9)), (1, .ref (x1)), (2, .ref (x2)), (4, .int (x4))] [] hh := by
      intro hh x4 hf
      unfold f_L_law_J293 at hf
      refine GL.goto (tgt := 1894) C dL_law_293 (by decide) ?_
      refine GL.mono (c2 := cb + 1) (by omega) ?_
      refine GL.sub C [0, 1, 2, 3, 4] (lv' := [(0, .ref (b9)), (3, .ref (o9)), (1, .ref (x1)), (2, .ref (x2)), (4, .int (x4))]) rfl ?_
      exact hj1894 _ _ hf
    have hj349 : ∀ (hh : (PH × (Nat → Int64))) (x4 : Int32), f_L_law_J349 xs lL hh (x1) (x2) (x4) = some y → GL p l e s m args below meth c g o9 (cb + 1) Q 349 [(0, .ref (b9)), (3, .ref (o9)), (1, .ref (x1)), (2, .ref (x2)), (4, .int (x4))] [] hh := by
      intro hh x4 hf
      unfold f_L_law_J349 at hf
      refine GL.goto (tgt := 1894) C dL_law_349 (by decide) ?_
      refine GL.mono (c2 := cb + 1) (by omega) ?_
      refine GL.sub C [0, 1, 2, 3, 4] (lv' := [(0, .ref (b9)), (3, .ref (o9)), (1, .ref (x1)), (2, .ref (x2)), (4, .int (x4))]) rfl ?_
      exact hj1894 _ _ hf
    have hj429 : ∀ (hh : (PH × (Nat → Int64))) (x4 : Int32), f_L_law_J429 xs lL hh (x1) (x2) (x4) = some y → GL p l e s m args below meth c g o9 (cb + 1) Q 429 [(0, .ref (b9)), (3, .ref (o9)), (1, .ref (x1)), (2, .ref (x2)), (4, .int (x4))] [] hh := by
      intro hh x4 hf
      unfold f_L_law_J429 at hf
      refine GL.goto (tgt := 1894) C dL_law_429 (by decide) ?_
      refine GL.mono (c2 := cb + 1) (by omega) ?_
      refine GL.sub C [0, 1, 2, 3, 4] (lv' := [(0, .ref (b9)), (3, .ref (o9)), (1, .ref (x1)), (2, .ref (x2)), (4, .int (x4))]) rfl ?_
      exact hj1894 _ _ hf
    have hj497 : ∀ (hh : (PH × (Nat → Int64))) (x4 : Int32), f_L_law_J497 xs lL hh (x1) (x2) (x4) = some y → GL p l e s m args below meth c g o9 (cb + 1) Q 497 [(0, .ref (b9)), (3, .ref (o9)), (1, .ref (x1)), (2, .ref (x2)), (4, .int (x4))] [] hh := by
      intro hh x4 hf
      unfold f_L_law_J497 at hf
      refine GL.goto (tgt := 1894) C dL_law_497 (by decide) ?_
      refine GL.mono (c2 := cb + 1) (by omega) ?_
      refine GL.sub C [0, 1, 2, 3, 4] (lv' := [(0, .ref (b9)), (3, .ref (o9)), (1, .ref (x1)), (2, .ref (x2)), (4, .int (x4))]) rfl ?_
      exact hj1894 _ _ hf
    have hj565 : ∀ (hh : (PH × (Nat → Int64))) (x4 : Int32), f_L_law_J565 xs lL hh (x1) (x2) (x4) = some y → GL p l e s m args below meth c g o9 (cb + 1) Q 565 [(0, .ref (b9)), (3, .ref (o9)), (1, .ref (x1)), (2, .ref (x2)), (4, .int (x4))] [] hh := by
      intro hh x4 hf
      unfold f_L_law_J565 at hf
      refine GL.goto (tgt := 1894) C dL_law_565 (by decide) ?_
      refine GL.mono (c2 := cb + 1) (by omega) ?_
      refine GL.sub C [0, 1, 2, 3, 4] (lv' := [(0, .ref (b9)), (3, .ref (o9)), (1, .ref (x1)), (2, .ref (x2)), (4, .int (x4))]) rfl ?_
      exact hj1894 _ _ hf
    have hj633 : ∀ (hh : (PH × (Nat → Int64))) (x4 : Int32), f_L_law_J633 xs lL hh (x1) (x2) (x4) = some y → GL p l e s m args below meth c g o9 (cb + 1) Q 633 [(0, .ref (b9)), (3, .ref (o9)), (1, .ref (x1)), (2, .ref (x2)), (4, .int (x4))] [] hh := by
      intro hh x4 hf
      unfold f_L_law_J633 at hf
      refine GL.goto (tgt := 1894) C dL_law_633 (by decide) ?_
      refine GL.mono (c2 := cb + 1) (by omega) ?_
      refine GL.sub C [0, 1, 2, 3, 4] (lv' := [(0, .ref (b9)), (3, .ref (o9)), (1, .ref (x1)), (2, .ref (x2)), (4, .int (x4))]) rfl ?_
      exact hj1894 _ _ hf
    have hj689 : ∀ (hh : (PH × (Nat → Int64))) (x4 : Int32), f_L_law_J689 xs lL hh (x1) (x2) (x4) = some y → GL p l e s m args below meth c g o9 (cb + 1) Q 689 [(0, .ref (b9)), (3, .ref (o9)), (1, .ref (x1)), (2, .ref (x2)), (4, .int (x4))] [] hh := by
      intro hh x4 hf
      unfold f_L_law_J689 at hf
      refine GL.goto (tgt := 1894) C dL_law_689 (by decide) ?_
      refine GL.mono (c2 := cb + 1) (by omega) ?_
      refine GL.sub C [0, 1, 2, 3, 4] (lv' := [(0, .ref (b9)), (3, .ref (o9)), (1, .ref (x1)), (2, .ref (x2)), (4, .int (x4))]) rfl ?_
      exact hj1894 _ _ hf
    have hj757 : ∀ (hh : (PH × (Nat → Int64))) (x4 : Int32), f_L_law_J757 xs lL hh (x1) (x2) (x4) = some y → GL p l e s m args below meth c g o9 (cb + 1) Q 757 [(0, .ref (b9)), (3, .ref (o9)), (1, .ref (x1)), (2, .ref (x2)), (4, .int (x4))] [] hh := by
      intro hh x4 hf
      unfold f_L_law_J757 at hf
      refine GL.goto (tgt := 1894) C dL_law_757 (by decide) ?_
      refine GL.mono (c2 := cb + 1) (by omega) ?_
      refine GL.sub C [0, 1, 2, 3, 4] (lv' := [(0, .ref (b9)), (3, .ref (o9)), (1, .ref (x1)), (2, .ref (x2)), (4, .int (x4))]) rfl ?_
      exact hj1894 _ _ hf
    have hj813 : ∀ (hh : (PH × (Nat → Int64))) (x4 : Int32), f_L_law_J813 xs lL hh (x1) (x2) (x4) = some y → GL p l e s m args below meth c g o9 (cb + 1) Q 813 [(0, .ref (b9)), (3, .ref (o9)), (1, .ref (x1)), (2, .ref (x2)), (4, .int (x4))] [] hh := by
      intro hh x4 hf
      unfold f_L_law_J813 at hf
      refine GL.goto (tgt := 1894) C dL_law_813 (by decide) ?_
      refine GL.mono (c2 := cb + 1) (by omega) ?_
      refine GL.sub C [0, 1, 2, 3, 4] (lv' := [(0, .ref (b9)), (3, .ref (o9)), (1, .ref (x1)), (2, .ref (x2)), (4, .int (x4))]) rfl ?_
      exact hj1894 _ _ hf
    have hj883 : ∀ (hh : (PH × (Nat → Int64))) (x4 : Int32), f_L_law_J883 xs lL hh (x1) (x2) (x4) = some y → GL p l e s m args below meth c g o9 (cb + 1) Q 883 [(0, .ref (b9)), (3, .ref (o9)), (1, .ref (x1)), (2, .ref (x2)), (4, .int (x4))] [] hh := by
      intro hh x4 hf
      unfold f_L_law_J883 at hf
      refine GL.goto (tgt := 1894) C dL_law_883 (by decide) ?_
      refine GL.mono (c2 := cb + 1) (by omega) ?_
      refine GL.sub C [0, 1, 2, 3, 4] (lv' := [(0, .ref (b9)), (3, .ref (o9)), (1, .ref (x1)), (2, .ref (x2)), (4, .int (x4))]) rfl ?_
      exact hj1894 _ _ hf
    have hj927 : ∀ (hh : (PH × (Nat → Int64))) (x4 : Int32), f_L_law_J927 xs lL hh (x1) (x2) (x4) = some y → GL p l e s m args below meth c g o9 (cb + 1) Q 927 [(0, .ref (b9)), (3, .ref (o9)), (1, .ref (x1)), (2, .ref (x2)), (4, .int (x4))] [] hh := by
      intro hh x4 hf
      unfold f_L_law_J927 at hf
      refine GL.goto (tgt := 1894) C dL_law_927 (by decide) ?_
      refine GL.mono (c2 := cb + 1) (by omega) ?_
      refine GL.sub C [0, 1, 2, 3, 4] (lv' := [(0, .ref (b9)), (3, .ref (o9)), (1, .ref (x1)), (2, .ref (x2)), (4, .int (x4))]) rfl ?_
      exact hj1894 _ _ hf
    have hj984 : ∀ (hh : (PH × (Nat → Int64))) (x4 : Int32), f_L_law_J984 xs lL hh (x1) (x2) (x4) = some y → GL p l e s m args below meth c g o9 (cb + 1) Q 984 [(0, .ref (b9)), (3, .ref (o9)), (1, .ref (x1)), (2, .ref (x2)), (4, .int (x4))] [] hh := by
      intro hh x4 hf
      unfold f_L_law_J984 at hf
      refine GL.goto (tgt := 1894) C dL_law_984 (by decide) ?_
      refine GL.mono (c2 := cb + 1) (by omega) ?_
      refine GL.sub C [0, 1, 2, 3, 4] (lv' := [(0, .ref (b9)), (3, .ref (o9)), (1, .ref (x1)), (2, .ref (x2)), (4, .int (x4))]) rfl ?_
      exact hj1894 _ _ hf
    have hj1052 : ∀ (hh : (PH × (Nat → Int64))) (x4 : Int32), f_L_law_J1052 xs lL hh (x1) (x2) (x4) = some y → GL p l e s m args below meth c g o9 (cb + 1) Q 1052 [(0, .ref (b9)), (3, .ref (o9)), (1, .ref (x1)), (2, .ref (x2)), (4, .int (x4))] [] hh := by
      intro hh x4 hf
      unfold f_L_law_J1052 at hf
      refine GL.goto (tgt := 1894) C dL_law_1052 (by decide) ?_
      refine GL.mono (c2 := cb + 1) (by omega) ?_
      refine GL.sub C [0, 1, 2, 3, 4] (lv' := [(0, .ref (b9)), (3, .ref (o9)), (1, .ref (x1)), (2, .ref (x2)), (4, .int (x4))]) rfl ?_
      exact hj1894 _ _ hf
    have hj1120 : ∀ (hh : (PH × (Nat → Int64))) (x4 : Int32), f_L_law_J1120 xs lL hh (x1) (x2) (x4) = some y → GL p l e s m args below meth c g o9 (cb + 1) Q 1120 [(0, .ref (b9)), (3, .ref (o9)), (1, .ref (x1)), (2, .ref (x2)), (4, .int (x4))] [] hh := by
      intro hh x4 hf
      unfold f_L_law_J1120 at hf
      refine GL.goto (tgt := 1894) C dL_law_1120 (by decide) ?_
      refine GL.mono (c2 := cb + 1) (by omega) ?_
      refine GL.sub C [0, 1, 2, 3, 4] (lv' := [(0, .ref (b9)), (3, .ref (o9)), (1, .ref (x1)), (2, .ref (x2)), (4, .int (x4))]) rfl ?_
      exact hj1894 _ _ hf
    have hj1200 : ∀ (hh : (PH × (Nat → Int64))) (x4 : Int32), f_L_law_J1200 xs lL hh (x1) (x2) (x4) = some y → GL p l e s m args below meth c g o9 (cb + 1) Q 1200 [(0, .ref (b9)), (3, .ref (o9)), (1, .ref (x1)), (2, .ref (x2)), (4, .int (x4))] [] hh := by
      intro hh x4 hf
      unfold f_L_law_J1200 at hf
      refine GL.goto (tgt := 1894) C dL_law_1200 (by decide) ?_
      refine GL.mono (c2 := cb + 1) (by omega) ?_
      refine GL.sub C [0, 1, 2, 3, 4] (lv' := [(0, .ref (b9)), (3, .ref (o9)), (1, .ref (x1)), (2, .ref (x2)), (4, .int (x4))]) rfl ?_
      exact hj1894 _ _ hf
    have hj1256 : ∀ (hh : (PH × (Nat → Int64))) (x4 : Int32), f_L_law_J1256 xs lL hh (x1) (x2) (x4) = some y → GL p l e s m args below meth c g o9 (cb + 1) Q 1256 [(0, .ref (b9)), (3, .ref (o9)), (1, .ref (x1)), (2, .ref (x2)), (4, .int (x4))] [] hh := by
      intro hh x4 hf
      unfold f_L_law_J1256 at hf
      refine GL.goto (tgt := 1894) C dL_law_1256 (by decide) ?_
      refine GL.mono (c2 := cb + 1) (by omega) ?_
      refine GL.sub C [0, 1, 2, 3, 4] (lv' := [(0, .ref (b9)), (3, .ref (o9)), (1, .ref (x1)), (2, .ref (x2)), (4, .int (x4))]) rfl ?_
      exact hj1894 _ _ hf
    have hj1312 : ∀ (hh : (PH × (Nat → Int64))) (x4 : Int32), f_L_law_J1312 xs lL hh (x1) (x2) (x4) = some y → GL p l e s m args below meth c g o9 (cb + 1) Q 1312 [(0, .ref (b9)), (3, .ref (o9)), (1, .ref (x1)), (2, .ref (x2)), (4, .int (x4))] [] hh := by
      intro hh x4 hf
      unfold f_L_law_J1312 at hf
      refine GL.goto (tgt := 1894) C dL_law_1312 (by decide) ?_
      refine GL.mono (c2 := cb + 1) (by omega) ?_
      refine GL.sub C [0, 1, 2, 3, 4] (lv' := [(0, .ref (b9)), (3, .ref (o9)), (1, .ref (x1)), (2, .ref (x2)), (4, .int (x4))]) rfl ?_
      exact hj1894 _ _ hf
    have hj1392 : ∀ (hh : (PH × (Nat → Int64))) (x4 : Int32), f_L_law_J1392 xs lL hh (x1) (x2) (x4) = some y → GL p l e s m args below meth c g o9 (cb + 1) Q 1392 [(0, .ref (b9)), (3, .ref (o9)), (1, .ref (x1)), (2, .ref (x2)), (4, .int (x4))] [] hh := by
      intro hh x4 hf
      unfold f_L_law_J1392 at hf
      refine GL.goto (tgt := 1894) C dL_law_1392 (by decide) ?_
      refine GL.mono (c2 := cb + 1) (by omega) ?_
      refine GL.sub C [0, 1, 2, 3, 4] (lv' := [(0, .ref (b9)), (3, .ref (o9)), (1, .ref (x1)), (2, .ref (x2)), (4, .int (x4))]) rfl ?_
      exact hj1894 _ _ hf
    have hj1484 : ∀ (hh : (PH × (Nat → Int64))) (x4 : Int32), f_L_law_J1484 xs lL hh (x1) (x2) (x4) = some y → GL p l e s m args below meth c g o9 (cb + 1) Q 1484 [(0, .ref (b9)), (3, .ref (o9)), (1, .ref (x1)), (2, .ref (x2)), (4, .int (x4))] [] hh := by
      intro hh x4 hf
      unfold f_L_law_J1484 at hf
      refine GL.goto (tgt := 1894) C dL_law_1484 (by decide) ?_
      refine GL.mono (c2 := cb + 1) (by omega) ?_
      refine GL.sub C [0, 1, 2, 3, 4] (lv' := [(0, .ref (b9)), (3, .ref (o9)), (1, .ref (x1)), (2, .ref (x2)), (4, .int (x4))]) rfl ?_
      exact hj1894 _ _ hf
    have hj1576 : ∀ (hh : (PH × (Nat → Int64))) (x4 : Int32), f_L_law_J1576 xs lL hh (x1) (x2) (x4) = some y → GL p l e s m args below meth c g o9 (cb + 1) Q 1576 [(0, .ref (b9)), (3, .ref (o9)), (1, .ref (x1)), (2, .ref (x2)), (4, .int (x4))] [] hh := by
      intro hh x4 hf
      unfold f_L_law_J1576 at hf
      refine GL.goto (tgt := 1894) C dL_law_1576 (by decide) ?_
      refine GL.mono (c2 := cb + 1) (by omega) ?_
      refine GL.sub C [0, 1, 2, 3, 4] (lv' := [(0, .ref (b9)), (3, .ref (o9)), (1, .ref (x1)), (2, .ref (x2)), (4, .int (x4))]) rfl ?_
      exact hj1894 _ _ hf
    have hj1656 : ∀ (hh : (PH × (Nat → Int64))) (x4 : Int32), f_L_law_J1656 xs lL hh (x1) (x2) (x4) = some y → GL p l e s m args below meth c g o9 (cb + 1) Q 1656 [(0, .ref (b9)), (3, .ref (o9)), (1, .ref (x1)), (2, .ref (x2)), (4, .int (x4))] [] hh := by
      intro hh x4 hf
      unfold f_L_law_J1656 at hf
      refine GL.goto (tgt := 1894) C dL_law_1656 (by decide) ?_
      refine GL.mono (c2 := cb + 1) (by omega) ?_
      refine GL.sub C [0, 1, 2, 3, 4] (lv' := [(0, .ref (b9)), (3, .ref (o9)), (1, .ref (x1)), (2, .ref (x2)), (4, .int (x4))]) rfl ?_
      exact hj1894 _ _ hf
    have hj1712 : ∀ (hh : (PH × (Nat → Int64))) (x4 : Int32), f_L_law_J1712 xs lL hh (x1) (x2) (x4) = some y → GL p l e s m args below meth c g o9 (cb + 1) Q 1712 [(0, .ref (b9)), (3, .ref (o9)), (1, .ref (x1)), (2, .ref (x2)), (4, .int (x4))] [] hh := by
      intro hh x4 hf
      unfold f_L_law_J1712 at hf
      refine GL.goto (tgt := 1894) C dL_law_1712 (by decide) ?_
      refine GL.mono (c2 := cb + 1) (by omega) ?_
      refine GL.sub C [0, 1, 2, 3, 4] (lv' := [(0, .ref (b9)), (3, .ref (o9)), (1, .ref (x1)), (2, .ref (x2)), (4, .int (x4))]) rfl ?_
      exact hj1894 _ _ hf
    have hj1780 : ∀ (hh : (PH × (Nat → Int64))) (x4 : Int32), f_L_law_J1780 xs lL hh (x1) (x2) (x4) = some y → GL p l e s m args below meth c g o9 (cb + 1) Q 1780 [(0, .ref (b9)), (3, .ref (o9)), (1, .ref (x1)), (2, .ref (x2)), (4, .int (x4))] [] hh := by
      intro hh x4 hf
      unfold f_L_law_J1780 at hf
      refine GL.goto (tgt := 1894) C dL_law_1780 (by decide) ?_
      refine GL.mono (c2 := cb + 1) (by omega) ?_
      refine GL.sub C [0, 1, 2, 3, 4] (lv' := [(0, .ref (b9)), (3, .ref (o9)), (1, .ref (x1)), (2, .ref (x2)), (4, .int (x4))]) rfl ?_
      exact hj1894 _ _ hf
    have hj1836 : ∀ (hh : (PH × (Nat → Int64))) (x4 : Int32), f_L_law_J1836 xs lL hh (x1) (x2) (x4) = some y → GL p l e s m args below meth c g o9 (cb + 1) Q 1836 [(0, .ref (b9)), (3, .ref (o9)), (1, .ref (x1)), (2, .ref (x2)), (4, .int (x4))] [] hh := by
      intro hh x4 hf
      unfold f_L_law_J1836 at hf
      refine GL.goto (tgt := 1894) C dL_law_1836 (by decide) ?_
      refine GL.mono (c2 := cb + 1) (by omega) ?_
      refine GL.sub C [0, 1, 2, 3, 4] (lv' := [(0, .ref (b9)), (3, .ref (o9)), (1, .ref (x1)), (2, .ref (x2)), (4, .int (x4))]) rfl ?_
      exact hj1894 _ _ hf
    have hj1877 : ∀ (hh : (PH × (Nat → Int64))) (x4 : Int32), f_L_law_J1877 xs lL hh (x1) (x2) (x4) = some y → GL p l e s m args below meth c g o9 (cb + 1) Q 1877 [(0, .ref (b9)), (3, .ref (o9)), (1, .ref (x1)), (2, .ref (x2)), (4, .int (x4))] [] hh := by
      intro hh x4 hf
      unfold f_L_law_J1877 at hf
      refine GL.goto (tgt := 1894) C dL_law_1877 (by decide) ?_
      refine GL.mono (c2 := cb + 1) (by omega) ?_
      refine GL.sub C [0, 1, 2, 3, 4] (lv' := [(0, .ref (b9)), (3, .ref (o9)), (1, .ref (x1)), (2, .ref (x2)), (4, .int (x4))]) rfl ?_
      exact hj1894 _ _ hf
    refine GL.iload C 4 dL_law_23 rfl ?_
    refine GL.aload_n C 0 dL_law_25 rfl rfl ?_
    refine GL.slen C hX hbl hbo dL_law_26 ?_
    refine GL.iconst (v := 5) C dL_law_27 (by decide) ?_
    refine GL.isub C dL_law_28 ?_
    refine GL.icmp_gt (tgt := 1900) C dL_law_29 (by decide) hf (fun c287 hf => ?_) (fun c287 hf => ?_)
    · refine GL.sub C [0, 1, 2, 3, 4] (lv' := [(0, .ref (b9)), (1, .ref (x1)), (2, .ref (x2)), (3, .ref (o9)), (4, .int (x4))]) rfl ?_
      exact GL.mono (by omega) (hend _ _)
    · refine GL.aload_n C 0 dL_law_32 rfl rfl ?_
      refine GL.iload C 4 dL_law_33 rfl ?_
      obtain ⟨c1, hf⟩ := gd_ok hf
      refine GL.sld C hX hbl hbo c1 dL_law_35 ?_
      refine GL.bipush (v := 31) C dL_law_36 (by decide) ?_
      refine GL.iand C dL_law_38 ?_
      by_cases c2 : ((xs (x4).toNatClampNeg) &&& (31 : Int32)) = 0
      · rw [if_pos c2] at hf
        refine GL.tswIn (tgt := 172) (off := 133) C c2 dL_law_39 (by decide) (by decide) rfl (by decide) ?_
        refine GL.aload_n C 1 dL_law_172 rfl rfl ?_
        refine GL.aload_n C 0 dL_law_173 rfl rfl ?_
        refine GL.iload C 4 dL_law_174 rfl ?_
        refine GL.iconst (v := 1) C dL_law_176 (by decide) ?_
        refine GL.iadd C dL_law_177 ?_
        obtain ⟨c3, hf⟩ := gd_ok hf
        refine GL.sld C hX hbl hbo c3 dL_law_178 ?_
        refine GL.aload_n C 0 dL_law_179 rfl rfl ?_
        refine GL.iload C 4 dL_law_180 rfl ?_
        refine GL.iconst (v := 2) C dL_law_182 (by decide) ?_
        refine GL.iadd C dL_law_183 ?_
        obtain ⟨c4, hf⟩ := gd_ok hf
        refine GL.sld C hX hbl hbo c4 dL_law_184 ?_
        refine GL.aload_n C 3 dL_law_185 rfl rfl ?_
        obtain ⟨q5, hq5, hf⟩ := bind_some hf
        try dsimp only at hf
        refine GL.callW C TT hN (st := []) (cw_gap hq5) m9_76 m9_77 m9_78 m9_79 kdL_gap ⟨Nat.le_of_ble_eq_true rfl, Nat.le_of_ble_eq_true rfl⟩ (by omega) (Nat.le_of_ble_eq_true rfl) rfl dL_law_186 ?_
        refine GL.istore (lv' := [(5, .int (q5.1)), (0, .ref (b9)), (1, .ref (x1)), (2, .ref (x2)), (3, .ref (o9)), (4, .int (x4))]) C dL_law_189 (by decide) rfl ?_
        refine GL.aload_n C 3 dL_law_191 rfl rfl ?_
        refine GL.aload_n C 1 dL_law_192 rfl rfl ?_
        refine GL.iload C 5 dL_law_193 rfl ?_
        refine GL.iconst (v := 1) C dL_law_195 (by decide) ?_
        refine GL.iadd C dL_law_196 ?_
        obtain ⟨c6, hf⟩ := gd_ok hf
        refine GL.sld C hX hbl hbo c6 dL_law_197 ?_
        refine GL.aload_n C 1 dL_law_198 rfl rfl ?_
        refine GL.iload C 5 dL_law_199 rfl ?_
        refine GL.iconst (v := 2) C dL_law_201 (by decide) ?_
        refine GL.iadd C dL_law_202 ?_
        obtain ⟨c7, hf⟩ := gd_ok hf
        refine GL.sld C hX hbl hbo c7 dL_law_203 ?_
        obtain ⟨q8, hq8, hf⟩ := bind_some hf
        try dsimp only at hf
        refine GL.callV C (st := []) (st2 := [.int (q8.1)]) (ct_X6_gap hq8) (ko_X6_gap hq8) rfl m9_137 m9_138 m9_139 m9_5 m9_140 kd_X6_gap ⟨Nat.le_of_ble_eq_true rfl, Nat.le_of_ble_eq_true rfl⟩ (by omega) (Nat.le_of_ble_eq_true rfl) rfl rfl dL_law_204 ?_
        refine GL.istore (lv' := [(6, .int (q8.1)), (5, .int (q5.1)), (0, .ref (b9)), (1, .ref (x1)), (2, .ref (x2)), (3, .ref (o9)), (4, .int (x4))]) C dL_law_207 (by decide) rfl ?_
        refine GL.aload_n C 4 dL_law_209 rfl rfl ?_
        obtain ⟨q9, hq9, hf⟩ := bind_some hf
        try dsimp only at hf
        refine GL.callV C (st := []) (st2 := [.int (q9)]) (ct_X6_thrown hq9) (ko_X6_thrown hq9) rfl m9_172 m9_173 m9_174 m9_5 m9_175 kd_X6_thrown ⟨Nat.le_of_ble_eq_true rfl, Nat.le_of_ble_eq_true rfl⟩ (by omega) (Nat.le_of_ble_eq_true rfl) rfl rfl dL_law_210 ?_
        refine GL.iload C 1 dL_law_213 rfl ?_
        refine GL.icmp_eq (tgt := 220) C dL_law_215 (by decide) hf (fun c12 hf => ?_) (fun c12 hf => ?_)
        · refine GL.iload C 1 dL_law_220 rfl ?_
          refine GL.if_ne (tgt := 237) C dL_law_222 (by decide) hf (fun c11 hf => ?_) (fun c11 hf => ?_)
          · refine GL.mono (c2 := cb + 1) (by omega) ?_
            refine GL.sub C [2, 5, 3, 4, 6] (lv' := [(0, .ref (b9)), (3, .ref (o9)), (1, .ref (x1)), (2, .ref (x2)), (4, .int (x4))]) rfl ?_
            exact hj237 _ _ hf
          · refine GL.aload_n C 5 dL_law_225 rfl rfl ?_
            refine GL.iconst (v := 0) C dL_law_226 (by decide) ?_
            refine GL.lld C dL_law_227 ?_
            refine GL.iload C 0 dL_law_228 rfl ?_
            refine GL.i2l C dL_law_230 ?_
            refine GL.lcmp C dL_law_231 ?_
            refine GL.if_eq (tgt := 237) C dL_law_232 (by decide) hf (fun c10 hf => ?_) (fun c10 hf => ?_)
            · refine GL.mono (c2 := cb + 1) (by omega) ?_
              refine GL.sub C [2, 5, 3, 4, 6] (lv' := [(0, .ref (b9)), (3, .ref (o9)), (1, .ref (x1)), (2, .ref (x2)), (4, .int (x4))]) rfl ?_
              exact hj237 _ _ hf
            · cases hf
        · cases hf
      · rw [if_neg c2] at hf
        by_cases c13 : ((xs (x4).toNatClampNeg) &&& (31 : Int32)) = 1
        · rw [if_pos c13] at hf
          refine GL.tswIn (tgt := 240) (off := 201) C c13 dL_law_39 (by decide) (by decide) rfl (by decide) ?_
          refine GL.aload_n C 1 dL_law_240 rfl rfl ?_
          refine GL.aload_n C 0 dL_law_241 rfl rfl ?_
          refine GL.iload C 4 dL_law_242 rfl ?_
          refine GL.iconst (v := 1) C dL_law_244 (by decide) ?_
          refine GL.iadd C dL_law_245 ?_
          obtain ⟨c14, hf⟩ := gd_ok hf
          refine GL.sld C hX hbl hbo c14 dL_law_246 ?_
          refine GL.aload_n C 3 dL_law_247 rfl rfl ?_
          obtain ⟨q15, hq15, hf⟩ := bind_some hf
          try dsimp only at hf
          refine GL.callW C TT hN (st := []) (cw_rope hq15) m9_176 m9_177 m9_78 m9_178 kdL_rope ⟨Nat.le_of_ble_eq_true rfl, Nat.le_of_ble_eq_true rfl⟩ (by omega) (Nat.le_of_ble_eq_true rfl) rfl dL_law_248 ?_
          refine GL.istore (lv' := [(5, .int (q15.1)), (0, .ref (b9)), (1, .ref (x1)), (2, .ref (x2)), (3, .ref (o9)), (4, .int (x4))]) C dL_law_251 (by decide) rfl ?_
          refine GL.aload_n C 3 dL_law_253 rfl rfl ?_
          refine GL.aload_n C 1 dL_law_254 rfl rfl ?_
          refine GL.iload C 5 dL_law_255 rfl ?_
          refine GL.iconst (v := 1) C dL_law_257 (by decide) ?_
          refine GL.iadd C dL_law_258 ?_
          obtain ⟨c16, hf⟩ := gd_ok hf
          refine GL.sld C hX hbl hbo c16 dL_law_259 ?_
          obtain ⟨q17, hq17, hf⟩ := bind_some hf
          try dsimp only at hf
          refine GL.callV C (st := []) (st2 := [.int (q17.1)]) (ct_X6_rope hq17) (ko_X6_rope hq17) rfl m9_210 m9_211 m9_212 m9_5 m9_213 kd_X6_rope ⟨Nat.le_of_ble_eq_true rfl, Nat.le_of_ble_eq_true rfl⟩ (by omega) (Nat.le_of_ble_eq_true rfl) rfl rfl dL_law_260 ?_
          refine GL.istore (lv' := [(6, .int (q17.1)), (5, .int (q15.1)), (0, .ref (b9)), (1, .ref (x1)), (2, .ref (x2)), (3, .ref (o9)), (4, .int (x4))]) C dL_law_263 (by decide) rfl ?_
          refine GL.aload_n C 4 dL_law_265 rfl rfl ?_
          obtain ⟨q18, hq18, hf⟩ := bind_some hf
          try dsimp only at hf
          refine GL.callV C (st := []) (st2 := [.int (q18)]) (ct_X6_thrown hq18) (ko_X6_thrown hq18) rfl m9_172 m9_173 m9_174 m9_5 m9_175 kd_X6_thrown ⟨Nat.le_of_ble_eq_true rfl, Nat.le_of_ble_eq_true rfl⟩ (by omega) (Nat.le_of_ble_eq_true rfl) rfl rfl dL_law_266 ?_
          refine GL.iload C 1 dL_law_269 rfl ?_
          refine GL.icmp_eq (tgt := 276) C dL_law_271 (by decide) hf (fun c21 hf => ?_) (fun c21 hf => ?_)
          · refine GL.iload C 1 dL_law_276 rfl ?_
            refine GL.if_ne (tgt := 293) C dL_law_278 (by decide) hf (fun c20 hf => ?_) (fun c20 hf => ?_)
            · refine GL.mono (c2 := cb + 1) (by omega) ?_
              refine GL.sub C [2, 5, 3, 4, 6] (lv' := [(0, .ref (b9)), (3, .ref (o9)), (1, .ref (x1)), (2, .ref (x2)), (4, .int (x4))]) rfl ?_
              exact hj293 _ _ hf
            · refine GL.aload_n C 5 dL_law_281 rfl rfl ?_
              refine GL.iconst (v := 0) C dL_law_282 (by decide) ?_
              refine GL.lld C dL_law_283 ?_
              refine GL.iload C 0 dL_law_284 rfl ?_
              refine GL.i2l C dL_law_286 ?_
              refine GL.lcmp C dL_law_287 ?_
              refine GL.if_eq (tgt := 293) C dL_law_288 (by decide) hf (fun c19 hf => ?_) (fun c19 hf => ?_)
              · refine GL.mono (c2 := cb + 1) (by omega) ?_
                refine GL.sub C [2, 5, 3, 4, 6] (lv' := [(0, .ref (b9)), (3, .ref (o9)), (1, .ref (x1)), (2, .ref (x2)), (4, .int (x4))]) rfl ?_
                exact hj293 _ _ hf
              · cases hf
          · cases hf
        · rw [if_neg c13] at hf
          by_cases c22 : ((xs (x4).toNatClampNeg) &&& (31 : Int32)) = 2
          · rw [if_pos c22] at hf
            refine GL.tswIn (tgt := 296) (off := 257) C c22 dL_law_39 (by decide) (by decide) rfl (by decide) ?_
            refine GL.aload_n C 1 dL_law_296 rfl rfl ?_
            refine GL.aload_n C 0 dL_law_297 rfl rfl ?_
            refine GL.iload C 4 dL_law_298 rfl ?_
            refine GL.iconst (v := 1) C dL_law_300 (by decide) ?_
            refine GL.iadd C dL_law_301 ?_
            obtain ⟨c23, hf⟩ := gd_ok hf
            refine GL.sld C hX hbl hbo c23 dL_law_302 ?_
            refine GL.aload_n C 3 dL_law_303 rfl rfl ?_
            obtain ⟨q24, hq24, hf⟩ := bind_some hf
            try dsimp only at hf
            refine GL.callW C TT hN (st := []) (cw_drop hq24) m9_222 m9_223 m9_78 m9_224 kdL_drop ⟨Nat.le_of_ble_eq_true rfl, Nat.le_of_ble_eq_true rfl⟩ (by omega) (Nat.le_of_ble_eq_true rfl) rfl dL_law_304 ?_
            refine GL.istore (lv' := [(5, .int (q24.1)), (0, .ref (b9)), (1, .ref (x1)), (2, .ref (x2)), (3, .ref (o9)), (4, .int (x4))]) C dL_law_307 (by decide) rfl ?_
            refine GL.aload_n C 3 dL_law_309 rfl rfl ?_
            refine GL.aload_n C 1 dL_law_310 rfl rfl ?_
            refine GL.iload C 5 dL_law_311 rfl ?_
            refine GL.iconst (v := 1) C dL_law_313 (by decide) ?_
            refine GL.iadd C dL_law_314 ?_
            obtain ⟨c25, hf⟩ := gd_ok hf
            refine GL.sld C hX hbl hbo c25 dL_law_315 ?_
            obtain ⟨q26, hq26, hf⟩ := bind_some hf
            try dsimp only at hf
            refine GL.callV C (st := []) (st2 := [.int (q26.1)]) (ct_X6_drop hq26) (ko_X6_drop hq26) rfl m9_238 m9_239 m9_240 m9_5 m9_241 kd_X6_drop ⟨Nat.le_of_ble_eq_true rfl, Nat.le_of_ble_eq_true rfl⟩ (by omega) (Nat.le_of_ble_eq_true rfl) rfl rfl dL_law_316 ?_
            refine GL.istore (lv' := [(6, .int (q26.1)), (5, .int (q24.1)), (0, .ref (b9)), (1, .ref (x1)), (2, .ref (x2)), (3, .ref (o9)), (4, .int (x4))]) C dL_law_319 (by decide) rfl ?_
            refine GL.aload_n C 4 dL_law_321 rfl rfl ?_
            obtain ⟨q27, hq27, hf⟩ := bind_some hf
            try dsimp only at hf
            refine GL.callV C (st := []) (st2 := [.int (q27)]) (ct_X6_thrown hq27) (ko_X6_thrown hq27) rfl m9_172 m9_173 m9_174 m9_5 m9_175 kd_X6_thrown ⟨Nat.le_of_ble_eq_true rfl, Nat.le_of_ble_eq_true rfl⟩ (by omega) (Nat.le_of_ble_eq_true rfl) rfl rfl dL_law_322 ?_
            refine GL.iload C 1 dL_law_325 rfl ?_
            refine GL.icmp_eq (tgt := 332) C dL_law_327 (by decide) hf (fun c30 hf => ?_) (fun c30 hf => ?_)
            · refine GL.iload C 1 dL_law_332 rfl ?_
              refine GL.if_ne (tgt := 349) C dL_law_334 (by decide) hf (fun c29 hf => ?_) (fun c29 hf => ?_)
              · refine GL.mono (c2 := cb + 1) (by omega) ?_
                refine GL.sub C [2, 5, 3, 4, 6] (lv' := [(0, .ref (b9)), (3, .ref (o9)), (1, .ref (x1)), (2, .ref (x2)), (4, .int (x4))]) rfl ?_
                exact hj349 _ _ hf
              · refine GL.aload_n C 5 dL_law_337 rfl rfl ?_
                refine GL.iconst (v := 0) C dL_law_338 (by decide) ?_
                refine GL.lld C dL_law_339 ?_
                refine GL.iload C 0 dL_law_340 rfl ?_
                refine GL.i2l C dL_law_342 ?_
                refine GL.lcmp C dL_law_343 ?_
                refine GL.if_eq (tgt := 349) C dL_law_344 (by decide) hf (fun c28 hf => ?_) (fun c28 hf => ?_)
                · refine GL.mono (c2 := cb + 1) (by omega) ?_
                  refine GL.sub C [2, 5, 3, 4, 6] (lv' := [(0, .ref (b9)), (3, .ref (o9)), (1, .ref (x1)), (2, .ref (x2)), (4, .int (x4))]) rfl ?_
                  exact hj349 _ _ hf
                · cases hf
            · cases hf
          · rw [if_neg c22] at hf
            by_cases c31 : ((xs (x4).toNatClampNeg) &&& (31 : Int32)) = 3
            · rw [if_pos c31] at hf
              refine GL.tswIn (tgt := 352) (off := 313) C c31 dL_law_39 (by decide) (by decide) rfl (by decide) ?_
              refine GL.aload_n C 1 dL_law_352 rfl rfl ?_
              refine GL.aload_n C 0 dL_law_353 rfl rfl ?_
              refine GL.iload C 4 dL_law_354 rfl ?_
              refine GL.iconst (v := 1) C dL_law_356 (by decide) ?_
              refine GL.iadd C dL_law_357 ?_
              obtain ⟨c32, hf⟩ := gd_ok hf
              refine GL.sld C hX hbl hbo c32 dL_law_358 ?_
              refine GL.aload_n C 0 dL_law_359 rfl rfl ?_
              refine GL.iload C 4 dL_law_360 rfl ?_
              refine GL.iconst (v := 2) C dL_law_362 (by decide) ?_
              refine GL.iadd C dL_law_363 ?_
              obtain ⟨c33, hf⟩ := gd_ok hf
              refine GL.sld C hX hbl hbo c33 dL_law_364 ?_
              refine GL.aload_n C 0 dL_law_365 rfl rfl ?_
              refine GL.iload C 4 dL_law_366 rfl ?_
              refine GL.iconst (v := 3) C dL_law_368 (by decide) ?_
              refine GL.iadd C dL_law_369 ?_
              obtain ⟨c34, hf⟩ := gd_ok hf
              refine GL.sld C hX hbl hbo c34 dL_law_370 ?_
              refine GL.aload_n C 3 dL_law_371 rfl rfl ?_
              obtain ⟨q35, hq35, hf⟩ := bind_some hf
              try dsimp only at hf
              refine GL.callW C TT hN (st := []) (cw_lay hq35) m9_250 m9_251 m9_78 m9_252 kdL_lay ⟨Nat.le_of_ble_eq_true rfl, Nat.le_of_ble_eq_true rfl⟩ (by omega) (Nat.le_of_ble_eq_true rfl) rfl dL_law_372 ?_
              refine GL.istore (lv' := [(5, .int (q35.1)), (0, .ref (b9)), (1, .ref (x1)), (2, .ref (x2)), (3, .ref (o9)), (4, .int (x4))]) C dL_law_375 (by decide) rfl ?_
              refine GL.aload_n C 3 dL_law_377 rfl rfl ?_
              refine GL.aload_n C 1 dL_law_378 rfl rfl ?_
              refine GL.iload C 5 dL_law_379 rfl ?_
              refine GL.iconst (v := 1) C dL_law_381 (by decide) ?_
              refine GL.iadd C dL_law_382 ?_
              obtain ⟨c36, hf⟩ := gd_ok hf
              refine GL.sld C hX hbl hbo c36 dL_law_383 ?_
              refine GL.aload_n C 1 dL_law_384 rfl rfl ?_
              refine GL.iload C 5 dL_law_385 rfl ?_
              refine GL.iconst (v := 2) C dL_law_387 (by decide) ?_
              refine GL.iadd C dL_law_388 ?_
              obtain ⟨c37, hf⟩ := gd_ok hf
              refine GL.sld C hX hbl hbo c37 dL_law_389 ?_
              refine GL.aload_n C 1 dL_law_390 rfl rfl ?_
              refine GL.iload C 5 dL_law_391 rfl ?_
              refine GL.iconst (v := 3) C dL_law_393 (by decide) ?_
              refine GL.iadd C dL_law_394 ?_
              obtain ⟨c38, hf⟩ := gd_ok hf
              refine GL.sld C hX hbl hbo c38 dL_law_395 ?_
              obtain ⟨q39, hq39, hf⟩ := bind_some hf
              try dsimp only at hf
              refine GL.callV C (st := []) (st2 := [.int (q39.1)]) (ct_X6_lay hq39) (ko_X6_lay hq39) rfl m9_283 m9_284 m9_285 m9_5 m9_286 kd_X6_lay ⟨Nat.le_of_ble_eq_true rfl, Nat.le_of_ble_eq_true rfl⟩ (by omega) (Nat.le_of_ble_eq_true rfl) rfl rfl dL_law_396 ?_
              refine GL.istore (lv' := [(6, .int (q39.1)), (5, .int (q35.1)), (0, .ref (b9)), (1, .ref (x1)), (2, .ref (x2)), (3, .ref (o9)), (4, .int (x4))]) C dL_law_399 (by decide) rfl ?_
              refine GL.aload_n C 4 dL_law_401 rfl rfl ?_
              obtain ⟨q40, hq40, hf⟩ := bind_some hf
              try dsimp only at hf
              refine GL.callV C (st := []) (st2 := [.int (q40)]) (ct_X6_thrown hq40) (ko_X6_thrown hq40) rfl m9_172 m9_173 m9_174 m9_5 m9_175 kd_X6_thrown ⟨Nat.le_of_ble_eq_true rfl, Nat.le_of_ble_eq_true rfl⟩ (by omega) (Nat.le_of_ble_eq_true rfl) rfl rfl dL_law_402 ?_
              refine GL.iload C 1 dL_law_405 rfl ?_
              refine GL.icmp_eq (tgt := 412) C dL_law_407 (by decide) hf (fun c43 hf => ?_) (fun c43 hf => ?_)
              · refine GL.iload C 1 dL_law_412 rfl ?_
                refine GL.if_ne (tgt := 429) C dL_law_414 (by decide) hf (fun c42 hf => ?_) (fun c42 hf => ?_)
                · refine GL.mono (c2 := cb + 1) (by omega) ?_
                  refine GL.sub C [2, 5, 3, 4, 6] (lv' := [(0, .ref (b9)), (3, .ref (o9)), (1, .ref (x1)), (2, .ref (x2)), (4, .int (x4))]) rfl ?_
                  exact hj429 _ _ hf
                · refine GL.aload_n C 5 dL_law_417 rfl rfl ?_
                  refine GL.iconst (v := 0) C dL_law_418 (by decide) ?_
                  refine GL.lld C dL_law_419 ?_
                  refine GL.iload C 0 dL_law_420 rfl ?_
                  refine GL.i2l C dL_law_422 ?_
                  refine GL.lcmp C dL_law_423 ?_
                  refine GL.if_eq (tgt := 429) C dL_law_424 (by decide) hf (fun c41 hf => ?_) (fun c41 hf => ?_)
                  · refine GL.mono (c2 := cb + 1) (by omega) ?_
                    refine GL.sub C [2, 5, 3, 4, 6] (lv' := [(0, .ref (b9)), (3, .ref (o9)), (1, .ref (x1)), (2, .ref (x2)), (4, .int (x4))]) rfl ?_
                    exact hj429 _ _ hf
                  · cases hf
              · cases hf
            · rw [if_neg c31] at hf
              by_cases c44 : ((xs (x4).toNatClampNeg) &&& (31 : Int32)) = 4
              · rw [if_pos c44] at hf
                refine GL.tswIn (tgt := 432) (off := 393) C c44 dL_law_39 (by decide) (by decide) rfl (by decide) ?_
                refine GL.aload_n C 1 dL_law_432 rfl rfl ?_
                refine GL.aload_n C 0 dL_law_433 rfl rfl ?_
                refine GL.iload C 4 dL_law_434 rfl ?_
                refine GL.iconst (v := 1) C dL_law_436 (by decide) ?_
                refine GL.iadd C dL_law_437 ?_
                obtain ⟨c45, hf⟩ := gd_ok hf
                refine GL.sld C hX hbl hbo c45 dL_law_438 ?_
                refine GL.aload_n C 0 dL_law_439 rfl rfl ?_
                refine GL.iload C 4 dL_law_440 rfl ?_
                refine GL.iconst (v := 2) C dL_law_442 (by decide) ?_
                refine GL.iadd C dL_law_443 ?_
                obtain ⟨c46, hf⟩ := gd_ok hf
                refine GL.sld C hX hbl hbo c46 dL_law_444 ?_
                refine GL.aload_n C 3 dL_law_445 rfl rfl ?_
                obtain ⟨q47, hq47, hf⟩ := bind_some hf
                try dsimp only at hf
                refine GL.callW C TT hN (st := []) (cw_take hq47) m9_315 m9_316 m9_78 m9_317 kdL_take ⟨Nat.le_of_ble_eq_true rfl, Nat.le_of_ble_eq_true rfl⟩ (by omega) (Nat.le_of_ble_eq_true rfl) rfl dL_law_446 ?_
                refine GL.istore (lv' := [(5, .int (q47.1)), (0, .ref (b9)), (1, .ref (x1)), (2, .ref (x2)), (3, .ref (o9)), (4, .int (x4))]) C dL_law_449 (by decide) rfl ?_
                refine GL.aload_n C 3 dL_law_451 rfl rfl ?_
                refine GL.aload_n C 1 dL_law_452 rfl rfl ?_
                refine GL.iload C 5 dL_law_453 rfl ?_
                refine GL.iconst (v := 1) C dL_law_455 (by decide) ?_
                refine GL.iadd C dL_law_456 ?_
                obtain ⟨c48, hf⟩ := gd_ok hf
                refine GL.sld C hX hbl hbo c48 dL_law_457 ?_
                refine GL.aload_n C 1 dL_law_458 rfl rfl ?_
                refine GL.iload C 5 dL_law_459 rfl ?_
                refine GL.iconst (v := 2) C dL_law_461 (by decide) ?_
                refine GL.iadd C dL_law_462 ?_
                obtain ⟨c49, hf⟩ := gd_ok hf
                refine GL.sld C hX hbl hbo c49 dL_law_463 ?_
                obtain ⟨q50, hq50, hf⟩ := bind_some hf
                try dsimp only at hf
                refine GL.callV C (st := []) (st2 := [.int (q50.1)]) (ct_X6_take hq50) (ko_X6_take hq50) rfl m9_331 m9_332 m9_333 m9_5 m9_334 kd_X6_take ⟨Nat.le_of_ble_eq_true rfl, Nat.le_of_ble_eq_true rfl⟩ (by omega) (Nat.le_of_ble_eq_true rfl) rfl rfl dL_law_464 ?_
                refine GL.istore (lv' := [(6, .int (q50.1)), (5, .int (q47.1)), (0, .ref (b9)), (1, .ref (x1)), (2, .ref (x2)), (3, .ref (o9)), (4, .int (x4))]) C dL_law_467 (by decide) rfl ?_
                refine GL.aload_n C 4 dL_law_469 rfl rfl ?_
                obtain ⟨q51, hq51, hf⟩ := bind_some hf
                try dsimp only at hf
                refine GL.callV C (st := []) (st2 := [.int (q51)]) (ct_X6_thrown hq51) (ko_X6_thrown hq51) rfl m9_172 m9_173 m9_174 m9_5 m9_175 kd_X6_thrown ⟨Nat.le_of_ble_eq_true rfl, Nat.le_of_ble_eq_true rfl⟩ (by omega) (Nat.le_of_ble_eq_true rfl) rfl rfl dL_law_470 ?_
                refine GL.iload C 1 dL_law_473 rfl ?_
                refine GL.icmp_eq (tgt := 480) C dL_law_475 (by decide) hf (fun c54 hf => ?_) (fun c54 hf => ?_)
                · refine GL.iload C 1 dL_law_480 rfl ?_
                  refine GL.if_ne (tgt := 497) C dL_law_482 (by decide) hf (fun c53 hf => ?_) (fun c53 hf => ?_)
                  · refine GL.mono (c2 := cb + 1) (by omega) ?_
                    refine GL.sub C [2, 5, 3, 4, 6] (lv' := [(0, .ref (b9)), (3, .ref (o9)), (1, .ref (x1)), (2, .ref (x2)), (4, .int (x4))]) rfl ?_
                    exact hj497 _ _ hf
                  · refine GL.aload_n C 5 dL_law_485 rfl rfl ?_
                    refine GL.iconst (v := 0) C dL_law_486 (by decide) ?_
                    refine GL.lld C dL_law_487 ?_
                    refine GL.iload C 0 dL_law_488 rfl ?_
                    refine GL.i2l C dL_law_490 ?_
                    refine GL.lcmp C dL_law_491 ?_
                    refine GL.if_eq (tgt := 497) C dL_law_492 (by decide) hf (fun c52 hf => ?_) (fun c52 hf => ?_)
                    · refine GL.mono (c2 := cb + 1) (by omega) ?_
                      refine GL.sub C [2, 5, 3, 4, 6] (lv' := [(0, .ref (b9)), (3, .ref (o9)), (1, .ref (x1)), (2, .ref (x2)), (4, .int (x4))]) rfl ?_
                      exact hj497 _ _ hf
                    · cases hf
                · cases hf
              · rw [if_neg c44] at hf
                by_cases c55 : ((xs (x4).toNatClampNeg) &&& (31 : Int32)) = 5
                · rw [if_pos c55] at hf
                  refine GL.tswIn (tgt := 500) (off := 461) C c55 dL_law_39 (by decide) (by decide) rfl (by decide) ?_
                  refine GL.aload_n C 1 dL_law_500 rfl rfl ?_
                  refine GL.aload_n C 0 dL_law_501 rfl rfl ?_
                  refine GL.iload C 4 dL_law_502 rfl ?_
                  refine GL.iconst (v := 1) C dL_law_504 (by decide) ?_
                  refine GL.iadd C dL_law_505 ?_
                  obtain ⟨c56, hf⟩ := gd_ok hf
                  refine GL.sld C hX hbl hbo c56 dL_law_506 ?_
                  refine GL.aload_n C 0 dL_law_507 rfl rfl ?_
                  refine GL.iload C 4 dL_law_508 rfl ?_
                  refine GL.iconst (v := 2) C dL_law_510 (by decide) ?_
                  refine GL.iadd C dL_law_511 ?_
                  obtain ⟨c57, hf⟩ := gd_ok hf
                  refine GL.sld C hX hbl hbo c57 dL_law_512 ?_
                  refine GL.aload_n C 3 dL_law_513 rfl rfl ?_
                  obtain ⟨q58, hq58, hf⟩ := bind_some hf
                  try dsimp only at hf
                  refine GL.callW C TT hN (st := []) (cw_stretch hq58) m9_343 m9_344 m9_78 m9_345 kdL_stretch ⟨Nat.le_of_ble_eq_true rfl, Nat.le_of_ble_eq_true rfl⟩ (by omega) (Nat.le_of_ble_eq_true rfl) rfl dL_law_514 ?_
                  refine GL.istore (lv' := [(5, .int (q58.1)), (0, .ref (b9)), (1, .ref (x1)), (2, .ref (x2)), (3, .ref (o9)), (4, .int (x4))]) C dL_law_517 (by decide) rfl ?_
                  refine GL.aload_n C 3 dL_law_519 rfl rfl ?_
                  refine GL.aload_n C 1 dL_law_520 rfl rfl ?_
                  refine GL.iload C 5 dL_law_521 rfl ?_
                  refine GL.iconst (v := 1) C dL_law_523 (by decide) ?_
                  refine GL.iadd C dL_law_524 ?_
                  obtain ⟨c59, hf⟩ := gd_ok hf
                  refine GL.sld C hX hbl hbo c59 dL_law_525 ?_
                  refine GL.aload_n C 1 dL_law_526 rfl rfl ?_
                  refine GL.iload C 5 dL_law_527 rfl ?_
                  refine GL.iconst (v := 2) C dL_law_529 (by decide) ?_
                  refine GL.iadd C dL_law_530 ?_
                  obtain ⟨c60, hf⟩ := gd_ok hf
                  refine GL.sld C hX hbl hbo c60 dL_law_531 ?_
                  obtain ⟨q61, hq61, hf⟩ := bind_some hf
                  try dsimp only at hf
                  refine GL.callV C (st := []) (st2 := [.int (q61.1)]) (ct_X6_stretch hq61) (ko_X6_stretch hq61) rfl m9_385 m9_386 m9_387 m9_5 m9_388 kd_X6_stretch ⟨Nat.le_of_ble_eq_true rfl, Nat.le_of_ble_eq_true rfl⟩ (by omega) (Nat.le_of_ble_eq_true rfl) rfl rfl dL_law_532 ?_
                  refine GL.istore (lv' := [(6, .int (q61.1)), (5, .int (q58.1)), (0, .ref (b9)), (1, .ref (x1)), (2, .ref (x2)), (3, .ref (o9)), (4, .int (x4))]) C dL_law_535 (by decide) rfl ?_
                  refine GL.aload_n C 4 dL_law_537 rfl rfl ?_
                  obtain ⟨q62, hq62, hf⟩ := bind_some hf
                  try dsimp only at hf
                  refine GL.callV C (st := []) (st2 := [.int (q62)]) (ct_X6_thrown hq62) (ko_X6_thrown hq62) rfl m9_172 m9_173 m9_174 m9_5 m9_175 kd_X6_thrown ⟨Nat.le_of_ble_eq_true rfl, Nat.le_of_ble_eq_true rfl⟩ (by omega) (Nat.le_of_ble_eq_true rfl) rfl rfl dL_law_538 ?_
                  refine GL.iload C 1 dL_law_541 rfl ?_
                  refine GL.icmp_eq (tgt := 548) C dL_law_543 (by decide) hf (fun c65 hf => ?_) (fun c65 hf => ?_)
                  · refine GL.iload C 1 dL_law_548 rfl ?_
                    refine GL.if_ne (tgt := 565) C dL_law_550 (by decide) hf (fun c64 hf => ?_) (fun c64 hf => ?_)
                    · refine GL.mono (c2 := cb + 1) (by omega) ?_
                      refine GL.sub C [2, 5, 3, 4, 6] (lv' := [(0, .ref (b9)), (3, .ref (o9)), (1, .ref (x1)), (2, .ref (x2)), (4, .int (x4))]) rfl ?_
                      exact hj565 _ _ hf
                    · refine GL.aload_n C 5 dL_law_553 rfl rfl ?_
                      refine GL.iconst (v := 0) C dL_law_554 (by decide) ?_
                      refine GL.lld C dL_law_555 ?_
                      refine GL.iload C 0 dL_law_556 rfl ?_
                      refine GL.i2l C dL_law_558 ?_
                      refine GL.lcmp C dL_law_559 ?_
                      refine GL.if_eq (tgt := 565) C dL_law_560 (by decide) hf (fun c63 hf => ?_) (fun c63 hf => ?_)
                      · refine GL.mono (c2 := cb + 1) (by omega) ?_
                        refine GL.sub C [2, 5, 3, 4, 6] (lv' := [(0, .ref (b9)), (3, .ref (o9)), (1, .ref (x1)), (2, .ref (x2)), (4, .int (x4))]) rfl ?_
                        exact hj565 _ _ hf
                      · cases hf
                  · cases hf
                · rw [if_neg c55] at hf
                  by_cases c66 : ((xs (x4).toNatClampNeg) &&& (31 : Int32)) = 6
                  · rw [if_pos c66] at hf
                    refine GL.tswIn (tgt := 568) (off := 529) C c66 dL_law_39 (by decide) (by decide) rfl (by decide) ?_
                    refine GL.aload_n C 1 dL_law_568 rfl rfl ?_
                    refine GL.aload_n C 0 dL_law_569 rfl rfl ?_
                    refine GL.iload C 4 dL_law_570 rfl ?_
                    refine GL.iconst (v := 1) C dL_law_572 (by decide) ?_
                    refine GL.iadd C dL_law_573 ?_
                    obtain ⟨c67, hf⟩ := gd_ok hf
                    refine GL.sld C hX hbl hbo c67 dL_law_574 ?_
                    refine GL.aload_n C 0 dL_law_575 rfl rfl ?_
                    refine GL.iload C 4 dL_law_576 rfl ?_
                    refine GL.iconst (v := 2) C dL_law_578 (by decide) ?_
                    refine GL.iadd C dL_law_579 ?_
                    obtain ⟨c68, hf⟩ := gd_ok hf
                    refine GL.sld C hX hbl hbo c68 dL_law_580 ?_
                    refine GL.aload_n C 3 dL_law_581 rfl rfl ?_
                    obtain ⟨q69, hq69, hf⟩ := bind_some hf
                    try dsimp only at hf
                    refine GL.callW C TT hN (st := []) (cw_cut hq69) m9_401 m9_402 m9_78 m9_403 kdL_cut ⟨Nat.le_of_ble_eq_true rfl, Nat.le_of_ble_eq_true rfl⟩ (by omega) (Nat.le_of_ble_eq_true rfl) rfl dL_law_582 ?_
                    refine GL.istore (lv' := [(5, .int (q69.1)), (0, .ref (b9)), (1, .ref (x1)), (2, .ref (x2)), (3, .ref (o9)), (4, .int (x4))]) C dL_law_585 (by decide) rfl ?_
                    refine GL.aload_n C 3 dL_law_587 rfl rfl ?_
                    refine GL.aload_n C 1 dL_law_588 rfl rfl ?_
                    refine GL.iload C 5 dL_law_589 rfl ?_
                    refine GL.iconst (v := 1) C dL_law_591 (by decide) ?_
                    refine GL.iadd C dL_law_592 ?_
                    obtain ⟨c70, hf⟩ := gd_ok hf
                    refine GL.sld C hX hbl hbo c70 dL_law_593 ?_
                    refine GL.aload_n C 1 dL_law_594 rfl rfl ?_
                    refine GL.iload C 5 dL_law_595 rfl ?_
                    refine GL.iconst (v := 2) C dL_law_597 (by decide) ?_
                    refine GL.iadd C dL_law_598 ?_
                    obtain ⟨c71, hf⟩ := gd_ok hf
                    refine GL.sld C hX hbl hbo c71 dL_law_599 ?_
                    obtain ⟨q72, hq72, hf⟩ := bind_some hf
                    try dsimp only at hf
                    refine GL.callV C (st := []) (st2 := [.int (q72.1)]) (ct_X6_cut hq72) (ko_X6_cut hq72) rfl m9_416 m9_417 m9_418 m9_5 m9_419 kd_X6_cut ⟨Nat.le_of_ble_eq_true rfl, Nat.le_of_ble_eq_true rfl⟩ (by omega) (Nat.le_of_ble_eq_true rfl) rfl rfl dL_law_600 ?_
                    refine GL.istore (lv' := [(6, .int (q72.1)), (5, .int (q69.1)), (0, .ref (b9)), (1, .ref (x1)), (2, .ref (x2)), (3, .ref (o9)), (4, .int (x4))]) C dL_law_603 (by decide) rfl ?_
                    refine GL.aload_n C 4 dL_law_605 rfl rfl ?_
                    obtain ⟨q73, hq73, hf⟩ := bind_some hf
                    try dsimp only at hf
                    refine GL.callV C (st := []) (st2 := [.int (q73)]) (ct_X6_thrown hq73) (ko_X6_thrown hq73) rfl m9_172 m9_173 m9_174 m9_5 m9_175 kd_X6_thrown ⟨Nat.le_of_ble_eq_true rfl, Nat.le_of_ble_eq_true rfl⟩ (by omega) (Nat.le_of_ble_eq_true rfl) rfl rfl dL_law_606 ?_
                    refine GL.iload C 1 dL_law_609 rfl ?_
                    refine GL.icmp_eq (tgt := 616) C dL_law_611 (by decide) hf (fun c76 hf => ?_) (fun c76 hf => ?_)
                    · refine GL.iload C 1 dL_law_616 rfl ?_
                      refine GL.if_ne (tgt := 633) C dL_law_618 (by decide) hf (fun c75 hf => ?_) (fun c75 hf => ?_)
                      · refine GL.mono (c2 := cb + 1) (by omega) ?_
                        refine GL.sub C [2, 5, 3, 4, 6] (lv' := [(0, .ref (b9)), (3, .ref (o9)), (1, .ref (x1)), (2, .ref (x2)), (4, .int (x4))]) rfl ?_
                        exact hj633 _ _ hf
                      · refine GL.aload_n C 5 dL_law_621 rfl rfl ?_
                        refine GL.iconst (v := 0) C dL_law_622 (by decide) ?_
                        refine GL.lld C dL_law_623 ?_
                        refine GL.iload C 0 dL_law_624 rfl ?_
                        refine GL.i2l C dL_law_626 ?_
                        refine GL.lcmp C dL_law_627 ?_
                        refine GL.if_eq (tgt := 633) C dL_law_628 (by decide) hf (fun c74 hf => ?_) (fun c74 hf => ?_)
                        · refine GL.mono (c2 := cb + 1) (by omega) ?_
                          refine GL.sub C [2, 5, 3, 4, 6] (lv' := [(0, .ref (b9)), (3, .ref (o9)), (1, .ref (x1)), (2, .ref (x2)), (4, .int (x4))]) rfl ?_
                          exact hj633 _ _ hf
                        · cases hf
                    · cases hf
                  · rw [if_neg c66] at hf
                    by_cases c77 : ((xs (x4).toNatClampNeg) &&& (31 : Int32)) = 7
                    · rw [if_pos c77] at hf
                      refine GL.tswIn (tgt := 636) (off := 597) C c77 dL_law_39 (by decide) (by decide) rfl (by decide) ?_
                      refine GL.aload_n C 1 dL_law_636 rfl rfl ?_
                      refine GL.aload_n C 0 dL_law_637 rfl rfl ?_
                      refine GL.iload C 4 dL_law_638 rfl ?_
                      refine GL.iconst (v := 1) C dL_law_640 (by decide) ?_
                      refine GL.iadd C dL_law_641 ?_
                      obtain ⟨c78, hf⟩ := gd_ok hf
                      refine GL.sld C hX hbl hbo c78 dL_law_642 ?_
                      refine GL.aload_n C 3 dL_law_643 rfl rfl ?_
                      obtain ⟨q79, hq79, hf⟩ := bind_some hf
                      try dsimp only at hf
                      refine GL.callW C TT hN (st := []) (cw_turn hq79) m9_420 m9_421 m9_78 m9_422 kdL_turn ⟨Nat.le_of_ble_eq_true rfl, Nat.le_of_ble_eq_true rfl⟩ (by omega) (Nat.le_of_ble_eq_true rfl) rfl dL_law_644 ?_
                      refine GL.istore (lv' := [(5, .int (q79.1)), (0, .ref (b9)), (1, .ref (x1)), (2, .ref (x2)), (3, .ref (o9)), (4, .int (x4))]) C dL_law_647 (by decide) rfl ?_
                      refine GL.aload_n C 3 dL_law_649 rfl rfl ?_
                      refine GL.aload_n C 1 dL_law_650 rfl rfl ?_
                      refine GL.iload C 5 dL_law_651 rfl ?_
                      refine GL.iconst (v := 1) C dL_law_653 (by decide) ?_
                      refine GL.iadd C dL_law_654 ?_
                      obtain ⟨c80, hf⟩ := gd_ok hf
                      refine GL.sld C hX hbl hbo c80 dL_law_655 ?_
                      obtain ⟨q81, hq81, hf⟩ := bind_some hf
                      try dsimp only at hf
                      refine GL.callV C (st := []) (st2 := [.int (q81.1)]) (ct_X6_turn hq81) (ko_X6_turn hq81) rfl m9_439 m9_440 m9_441 m9_5 m9_442 kd_X6_turn ⟨Nat.le_of_ble_eq_true rfl, Nat.le_of_ble_eq_true rfl⟩ (by omega) (Nat.le_of_ble_eq_true rfl) rfl rfl dL_law_656 ?_
                      refine GL.istore (lv' := [(6, .int (q81.1)), (5, .int (q79.1)), (0, .ref (b9)), (1, .ref (x1)), (2, .ref (x2)), (3, .ref (o9)), (4, .int (x4))]) C dL_law_659 (by decide) rfl ?_
                      refine GL.aload_n C 4 dL_law_661 rfl rfl ?_
                      obtain ⟨q82, hq82, hf⟩ := bind_some hf
                      try dsimp only at hf
                      refine GL.callV C (st := []) (st2 := [.int (q82)]) (ct_X6_thrown hq82) (ko_X6_thrown hq82) rfl m9_172 m9_173 m9_174 m9_5 m9_175 kd_X6_thrown ⟨Nat.le_of_ble_eq_true rfl, Nat.le_of_ble_eq_true rfl⟩ (by omega) (Nat.le_of_ble_eq_true rfl) rfl rfl dL_law_662 ?_
                      refine GL.iload C 1 dL_law_665 rfl ?_
                      refine GL.icmp_eq (tgt := 672) C dL_law_667 (by decide) hf (fun c85 hf => ?_) (fun c85 hf => ?_)
                      · refine GL.iload C 1 dL_law_672 rfl ?_
                        refine GL.if_ne (tgt := 689) C dL_law_674 (by decide) hf (fun c84 hf => ?_) (fun c84 hf => ?_)
                        · refine GL.mono (c2 := cb + 1) (by omega) ?_
                          refine GL.sub C [2, 5, 3, 4, 6] (lv' := [(0, .ref (b9)), (3, .ref (o9)), (1, .ref (x1)), (2, .ref (x2)), (4, .int (x4))]) rfl ?_
                          exact hj689 _ _ hf
                        · refine GL.aload_n C 5 dL_law_677 rfl rfl ?_
                          refine GL.iconst (v := 0) C dL_law_678 (by decide) ?_
                          refine GL.lld C dL_law_679 ?_
                          refine GL.iload C 0 dL_law_680 rfl ?_
                          refine GL.i2l C dL_law_682 ?_
                          refine GL.lcmp C dL_law_683 ?_
                          refine GL.if_eq (tgt := 689) C dL_law_684 (by decide) hf (fun c83 hf => ?_) (fun c83 hf => ?_)
                          · refine GL.mono (c2 := cb + 1) (by omega) ?_
                            refine GL.sub C [2, 5, 3, 4, 6] (lv' := [(0, .ref (b9)), (3, .ref (o9)), (1, .ref (x1)), (2, .ref (x2)), (4, .int (x4))]) rfl ?_
                            exact hj689 _ _ hf
                          · cases hf
                      · cases hf
                    · rw [if_neg c77] at hf
                      by_cases c86 : ((xs (x4).toNatClampNeg) &&& (31 : Int32)) = 8
                      · rw [if_pos c86] at hf
                        refine GL.tswIn (tgt := 692) (off := 653) C c86 dL_law_39 (by decide) (by decide) rfl (by decide) ?_
                        refine GL.aload_n C 1 dL_law_692 rfl rfl ?_
                        refine GL.aload_n C 0 dL_law_693 rfl rfl ?_
                        refine GL.iload C 4 dL_law_694 rfl ?_
                        refine GL.iconst (v := 1) C dL_law_696 (by decide) ?_
                        refine GL.iadd C dL_law_697 ?_
                        obtain ⟨c87, hf⟩ := gd_ok hf
                        refine GL.sld C hX hbl hbo c87 dL_law_698 ?_
                        refine GL.aload_n C 0 dL_law_699 rfl rfl ?_
                        refine GL.iload C 4 dL_law_700 rfl ?_
                        refine GL.iconst (v := 2) C dL_law_702 (by decide) ?_
                        refine GL.iadd C dL_law_703 ?_
                        obtain ⟨c88, hf⟩ := gd_ok hf
                        refine GL.sld C hX hbl hbo c88 dL_law_704 ?_
                        refine GL.aload_n C 3 dL_law_705 rfl rfl ?_
                        obtain ⟨q89, hq89, hf⟩ := bind_some hf
                        try dsimp only at hf
                        refine GL.callW C TT hN (st := []) (cw_join hq89) m9_455 m9_456 m9_78 m9_457 kdL_join ⟨Nat.le_of_ble_eq_true rfl, Nat.le_of_ble_eq_true rfl⟩ (by omega) (Nat.le_of_ble_eq_true rfl) rfl dL_law_706 ?_
                        refine GL.istore (lv' := [(5, .int (q89.1)), (0, .ref (b9)), (1, .ref (x1)), (2, .ref (x2)), (3, .ref (o9)), (4, .int (x4))]) C dL_law_709 (by decide) rfl ?_
                        refine GL.aload_n C 3 dL_law_711 rfl rfl ?_
                        refine GL.aload_n C 1 dL_law_712 rfl rfl ?_
                        refine GL.iload C 5 dL_law_713 rfl ?_
                        refine GL.iconst (v := 1) C dL_law_715 (by decide) ?_
                        refine GL.iadd C dL_law_716 ?_
                        obtain ⟨c90, hf⟩ := gd_ok hf
                        refine GL.sld C hX hbl hbo c90 dL_law_717 ?_
                        refine GL.aload_n C 1 dL_law_718 rfl rfl ?_
                        refine GL.iload C 5 dL_law_719 rfl ?_
                        refine GL.iconst (v := 2) C dL_law_721 (by decide) ?_
                        refine GL.iadd C dL_law_722 ?_
                        obtain ⟨c91, hf⟩ := gd_ok hf
                        refine GL.sld C hX hbl hbo c91 dL_law_723 ?_
                        obtain ⟨q92, hq92, hf⟩ := bind_some hf
                        try dsimp only at hf
                        refine GL.callV C (st := []) (st2 := [.int (q92.1)]) (ct_X6_join hq92) (ko_X6_join hq92) rfl m9_478 m9_479 m9_480 m9_5 m9_481 kd_X6_join ⟨Nat.le_of_ble_eq_true rfl, Nat.le_of_ble_eq_true rfl⟩ (by omega) (Nat.le_of_ble_eq_true rfl) rfl rfl dL_law_724 ?_
                        refine GL.istore (lv' := [(6, .int (q92.1)), (5, .int (q89.1)), (0, .ref (b9)), (1, .ref (x1)), (2, .ref (x2)), (3, .ref (o9)), (4, .int (x4))]) C dL_law_727 (by decide) rfl ?_
                        refine GL.aload_n C 4 dL_law_729 rfl rfl ?_
                        obtain ⟨q93, hq93, hf⟩ := bind_some hf
                        try dsimp only at hf
                        refine GL.callV C (st := []) (st2 := [.int (q93)]) (ct_X6_thrown hq93) (ko_X6_thrown hq93) rfl m9_172 m9_173 m9_174 m9_5 m9_175 kd_X6_thrown ⟨Nat.le_of_ble_eq_true rfl, Nat.le_of_ble_eq_true rfl⟩ (by omega) (Nat.le_of_ble_eq_true rfl) rfl rfl dL_law_730 ?_
                        refine GL.iload C 1 dL_law_733 rfl ?_
                        refine GL.icmp_eq (tgt := 740) C dL_law_735 (by decide) hf (fun c96 hf => ?_) (fun c96 hf => ?_)
                        · refine GL.iload C 1 dL_law_740 rfl ?_
                          refine GL.if_ne (tgt := 757) C dL_law_742 (by decide) hf (fun c95 hf => ?_) (fun c95 hf => ?_)
                          · refine GL.mono (c2 := cb + 1) (by omega) ?_
                            refine GL.sub C [2, 5, 3, 4, 6] (lv' := [(0, .ref (b9)), (3, .ref (o9)), (1, .ref (x1)), (2, .ref (x2)), (4, .int (x4))]) rfl ?_
                            exact hj757 _ _ hf
                          · refine GL.aload_n C 5 dL_law_745 rfl rfl ?_
                            refine GL.iconst (v := 0) C dL_law_746 (by decide) ?_
                            refine GL.lld C dL_law_747 ?_
                            refine GL.iload C 0 dL_law_748 rfl ?_
                            refine GL.i2l C dL_law_750 ?_
                            refine GL.lcmp C dL_law_751 ?_
                            refine GL.if_eq (tgt := 757) C dL_law_752 (by decide) hf (fun c94 hf => ?_) (fun c94 hf => ?_)
                            · refine GL.mono (c2 := cb + 1) (by omega) ?_
                              refine GL.sub C [2, 5, 3, 4, 6] (lv' := [(0, .ref (b9)), (3, .ref (o9)), (1, .ref (x1)), (2, .ref (x2)), (4, .int (x4))]) rfl ?_
                              exact hj757 _ _ hf
                            · cases hf
                        · cases hf
                      · rw [if_neg c86] at hf
                        by_cases c97 : ((xs (x4).toNatClampNeg) &&& (31 : Int32)) = 9
                        · rw [if_pos c97] at hf
                          refine GL.tswIn (tgt := 760) (off := 721) C c97 dL_law_39 (by decide) (by decide) rfl (by decide) ?_
                          refine GL.aload_n C 1 dL_law_760 rfl rfl ?_
                          refine GL.aload_n C 0 dL_law_761 rfl rfl ?_
                          refine GL.iload C 4 dL_law_762 rfl ?_
                          refine GL.iconst (v := 1) C dL_law_764 (by decide) ?_
                          refine GL.iadd C dL_law_765 ?_
                          obtain ⟨c98, hf⟩ := gd_ok hf
                          refine GL.sld C hX hbl hbo c98 dL_law_766 ?_
                          refine GL.aload_n C 3 dL_law_767 rfl rfl ?_
                          obtain ⟨q99, hq99, hf⟩ := bind_some hf
                          try dsimp only at hf
                          refine GL.callW C TT hN (st := []) (cw_append hq99) m9_502 m9_503 m9_78 m9_504 kdL_append ⟨Nat.le_of_ble_eq_true rfl, Nat.le_of_ble_eq_true rfl⟩ (by omega) (Nat.le_of_ble_eq_true rfl) rfl dL_law_768 ?_
                          refine GL.istore (lv' := [(5, .int (q99.1)), (0, .ref (b9)), (1, .ref (x1)), (2, .ref (x2)), (3, .ref (o9)), (4, .int (x4))]) C dL_law_771 (by decide) rfl ?_
                          refine GL.aload_n C 3 dL_law_773 rfl rfl ?_
                          refine GL.aload_n C 1 dL_law_774 rfl rfl ?_
                          refine GL.iload C 5 dL_law_775 rfl ?_
                          refine GL.iconst (v := 1) C dL_law_777 (by decide) ?_
                          refine GL.iadd C dL_law_778 ?_
                          obtain ⟨c100, hf⟩ := gd_ok hf
                          refine GL.sld C hX hbl hbo c100 dL_law_779 ?_
                          obtain ⟨q101, hq101, hf⟩ := bind_some hf
                          try dsimp only at hf
                          refine GL.callV C (st := []) (st2 := [.int (q101.1)]) (ct_X6_append hq101) (ko_X6_append hq101) rfl m9_521 m9_522 m9_523 m9_5 m9_524 kd_X6_append ⟨Nat.le_of_ble_eq_true rfl, Nat.le_of_ble_eq_true rfl⟩ (by omega) (Nat.le_of_ble_eq_true rfl) rfl rfl dL_law_780 ?_
                          refine GL.istore (lv' := [(6, .int (q101.1)), (5, .int (q99.1)), (0, .ref (b9)), (1, .ref (x1)), (2, .ref (x2)), (3, .ref (o9)), (4, .int (x4))]) C dL_law_783 (by decide) rfl ?_
                          refine GL.aload_n C 4 dL_law_785 rfl rfl ?_
                          obtain ⟨q102, hq102, hf⟩ := bind_some hf
                          try dsimp only at hf
                          refine GL.callV C (st := []) (st2 := [.int (q102)]) (ct_X6_thrown hq102) (ko_X6_thrown hq102) rfl m9_172 m9_173 m9_174 m9_5 m9_175 kd_X6_thrown ⟨Nat.le_of_ble_eq_true rfl, Nat.le_of_ble_eq_true rfl⟩ (by omega) (Nat.le_of_ble_eq_true rfl) rfl rfl dL_law_786 ?_
                          refine GL.iload C 1 dL_law_789 rfl ?_
                          refine GL.icmp_eq (tgt := 796) C dL_law_791 (by decide) hf (fun c105 hf => ?_) (fun c105 hf => ?_)
                          · refine GL.iload C 1 dL_law_796 rfl ?_
                            refine GL.if_ne (tgt := 813) C dL_law_798 (by decide) hf (fun c104 hf => ?_) (fun c104 hf => ?_)
                            · refine GL.mono (c2 := cb + 1) (by omega) ?_
                              refine GL.sub C [2, 5, 3, 4, 6] (lv' := [(0, .ref (b9)), (3, .ref (o9)), (1, .ref (x1)), (2, .ref (x2)), (4, .int (x4))]) rfl ?_
                              exact hj813 _ _ hf
                            · refine GL.aload_n C 5 dL_law_801 rfl rfl ?_
                              refine GL.iconst (v := 0) C dL_law_802 (by decide) ?_
                              refine GL.lld C dL_law_803 ?_
                              refine GL.iload C 0 dL_law_804 rfl ?_
                              refine GL.i2l C dL_law_806 ?_
                              refine GL.lcmp C dL_law_807 ?_
                              refine GL.if_eq (tgt := 813) C dL_law_808 (by decide) hf (fun c103 hf => ?_) (fun c103 hf => ?_)
                              · refine GL.mono (c2 := cb + 1) (by omega) ?_
                                refine GL.sub C [2, 5, 3, 4, 6] (lv' := [(0, .ref (b9)), (3, .ref (o9)), (1, .ref (x1)), (2, .ref (x2)), (4, .int (x4))]) rfl ?_
                                exact hj813 _ _ hf
                              · cases hf
                          · cases hf
                        · rw [if_neg c97] at hf
                          by_cases c106 : ((xs (x4).toNatClampNeg) &&& (31 : Int32)) = 10
                          · rw [if_pos c106] at hf
                            refine GL.tswIn (tgt := 816) (off := 777) C c106 dL_law_39 (by decide) (by decide) rfl (by decide) ?_
                            refine GL.aload_n C 1 dL_law_816 rfl rfl ?_
                            obtain ⟨q107, hq107, hf⟩ := bind_some hf
                            try dsimp only at hf
                            refine GL.callV C (st := []) (st2 := [.int (q107.1)]) (ct_X5_clearBuffer hq107) (ko_X5_clearBuffer hq107) rfl m9_526 m9_527 m9_528 m9_2 m9_529 kd_X5_clearBuffer ⟨Nat.le_of_ble_eq_true rfl, Nat.le_of_ble_eq_true rfl⟩ (by omega) (Nat.le_of_ble_eq_true rfl) rfl rfl dL_law_817 ?_
                            refine GL.aload_n C 2 dL_law_820 rfl rfl ?_
                            obtain ⟨q108, hq108, hf⟩ := bind_some hf
                            try dsimp only at hf
                            refine GL.callV C (st := [.int (q107.1)]) (st2 := [.int (q108.1), .int (q107.1)]) (ct_X6_clearBuffer hq108) (ko_X6_clearBuffer hq108) rfl m9_534 m9_535 m9_536 m9_5 m9_537 kd_X6_clearBuffer ⟨Nat.le_of_ble_eq_true rfl, Nat.le_of_ble_eq_true rfl⟩ (by omega) (Nat.le_of_ble_eq_true rfl) rfl rfl dL_law_821 ?_
                            refine GL.icmp_eq (tgt := 1894) C dL_law_824 (by decide) hf (fun c109 hf => ?_) (fun c109 hf => ?_)
                            · refine GL.mono (c2 := cb + 1) (by omega) ?_
                              refine GL.sub C [0, 3, 1, 2, 4] (lv' := [(0, .ref (b9)), (3, .ref (o9)), (1, .ref (x1)), (2, .ref (x2)), (4, .int (x4))]) rfl ?_
                              exact hj1894 _ _ hf
                            · cases hf
                          · rw [if_neg c106] at hf
                            by_cases c110 : ((xs (x4).toNatClampNeg) &&& (31 : Int32)) = 11
                            · rw [if_pos c110] at hf
                              refine GL.tswIn (tgt := 829) (off := 790) C c110 dL_law_39 (by decide) (by decide) rfl (by decide) ?_
                              refine GL.aload_n C 1 dL_law_829 rfl rfl ?_
                              obtain ⟨q111, hq111, hf⟩ := bind_some hf
                              try dsimp only at hf
                              refine GL.callV C (st := []) (st2 := [.int (q111)]) (ct_X5_firstError hq111) (ko_X5_firstError hq111) rfl m9_538 m9_539 m9_540 m9_2 m9_541 kd_X5_firstError ⟨Nat.le_of_ble_eq_true rfl, Nat.le_of_ble_eq_true rfl⟩ (by omega) (Nat.le_of_ble_eq_true rfl) rfl rfl dL_law_830 ?_
                              refine GL.aload_n C 2 dL_law_833 rfl rfl ?_
                              obtain ⟨q112, hq112, hf⟩ := bind_some hf
                              try dsimp only at hf
                              refine GL.callV C (st := [.int (q111)]) (st2 := [.int (q112.1), .int (q111)]) (ct_X6_firstError hq112) (ko_X6_firstError hq112) rfl m9_571 m9_572 m9_573 m9_5 m9_574 kd_X6_firstError ⟨Nat.le_of_ble_eq_true rfl, Nat.le_of_ble_eq_true rfl⟩ (by omega) (Nat.le_of_ble_eq_true rfl) rfl rfl dL_law_834 ?_
                              refine GL.icmp_eq (tgt := 1894) C dL_law_837 (by decide) hf (fun c113 hf => ?_) (fun c113 hf => ?_)
                              · refine GL.mono (c2 := cb + 1) (by omega) ?_
                                refine GL.sub C [0, 3, 1, 2, 4] (lv' := [(0, .ref (b9)), (3, .ref (o9)), (1, .ref (x1)), (2, .ref (x2)), (4, .int (x4))]) rfl ?_
                                exact hj1894 _ _ hf
                              · cases hf
                            · rw [if_neg c110] at hf
                              by_cases c114 : ((xs (x4).toNatClampNeg) &&& (31 : Int32)) = 12
                              · rw [if_pos c114] at hf
                                refine GL.tswIn (tgt := 842) (off := 803) C c114 dL_law_39 (by decide) (by decide) rfl (by decide) ?_
                                refine GL.aload_n C 1 dL_law_842 rfl rfl ?_
                                refine GL.aload_n C 3 dL_law_843 rfl rfl ?_
                                obtain ⟨q115, hq115, hf⟩ := bind_some hf
                                try dsimp only at hf
                                refine GL.callW C TT hN (st := []) (cw_play hq115) m9_604 m9_605 m9_78 m9_606 kdL_play ⟨Nat.le_of_ble_eq_true rfl, Nat.le_of_ble_eq_true rfl⟩ (by omega) (Nat.le_of_ble_eq_true rfl) rfl dL_law_844 ?_
                                refine GL.istore (lv' := [(5, .int (q115.1)), (0, .ref (b9)), (1, .ref (x1)), (2, .ref (x2)), (3, .ref (o9)), (4, .int (x4))]) C dL_law_847 (by decide) rfl ?_
                                refine GL.aload_n C 3 dL_law_849 rfl rfl ?_
                                obtain ⟨q116, hq116, hf⟩ := bind_some hf
                                try dsimp only at hf
                                refine GL.callV C (st := []) (st2 := [.int (q116.1)]) (ct_X6_play hq116) (ko_X6_play hq116) rfl m9_632 m9_633 m9_634 m9_5 m9_635 kd_X6_play ⟨Nat.le_of_ble_eq_true rfl, Nat.le_of_ble_eq_true rfl⟩ (by omega) (Nat.le_of_ble_eq_true rfl) rfl rfl dL_law_850 ?_
                                refine GL.istore (lv' := [(6, .int (q116.1)), (5, .int (q115.1)), (0, .ref (b9)), (1, .ref (x1)), (2, .ref (x2)), (3, .ref (o9)), (4, .int (x4))]) C dL_law_853 (by decide) rfl ?_
                                refine GL.aload_n C 4 dL_law_855 rfl rfl ?_
                                obtain ⟨q117, hq117, hf⟩ := bind_some hf
                                try dsimp only at hf
                                refine GL.callV C (st := []) (st2 := [.int (q117)]) (ct_X6_thrown hq117) (ko_X6_thrown hq117) rfl m9_172 m9_173 m9_174 m9_5 m9_175 kd_X6_thrown ⟨Nat.le_of_ble_eq_true rfl, Nat.le_of_ble_eq_true rfl⟩ (by omega) (Nat.le_of_ble_eq_true rfl) rfl rfl dL_law_856 ?_
                                refine GL.iload C 1 dL_law_859 rfl ?_
                                refine GL.icmp_eq (tgt := 866) C dL_law_861 (by decide) hf (fun c120 hf => ?_) (fun c120 hf => ?_)
                                · refine GL.iload C 1 dL_law_866 rfl ?_
                                  refine GL.if_ne (tgt := 883) C dL_law_868 (by decide) hf (fun c119 hf => ?_) (fun c119 hf => ?_)
                                  · refine GL.mono (c2 := cb + 1) (by omega) ?_
                                    refine GL.sub C [2, 5, 3, 4, 6] (lv' := [(0, .ref (b9)), (3, .ref (o9)), (1, .ref (x1)), (2, .ref (x2)), (4, .int (x4))]) rfl ?_
                                    exact hj883 _ _ hf
                                  · refine GL.aload_n C 5 dL_law_871 rfl rfl ?_
                                    refine GL.iconst (v := 0) C dL_law_872 (by decide) ?_
                                    refine GL.lld C dL_law_873 ?_
                                    refine GL.iload C 0 dL_law_874 rfl ?_
                                    refine GL.i2l C dL_law_876 ?_
                                    refine GL.lcmp C dL_law_877 ?_
                                    refine GL.if_eq (tgt := 883) C dL_law_878 (by decide) hf (fun c118 hf => ?_) (fun c118 hf => ?_)
                                    · refine GL.mono (c2 := cb + 1) (by omega) ?_
                                      refine GL.sub C [2, 5, 3, 4, 6] (lv' := [(0, .ref (b9)), (3, .ref (o9)), (1, .ref (x1)), (2, .ref (x2)), (4, .int (x4))]) rfl ?_
                                      exact hj883 _ _ hf
                                    · cases hf
                                · cases hf
                              · rw [if_neg c114] at hf
                                by_cases c121 : ((xs (x4).toNatClampNeg) &&& (31 : Int32)) = 13
                                · rw [if_pos c121] at hf
                                  refine GL.tswIn (tgt := 886) (off := 847) C c121 dL_law_39 (by decide) (by decide) rfl (by decide) ?_
                                  refine GL.aload_n C 1 dL_law_886 rfl rfl ?_
                                  refine GL.aload_n C 3 dL_law_887 rfl rfl ?_
                                  obtain ⟨q122, hq122, hf⟩ := bind_some hf
                                  try dsimp only at hf
                                  refine GL.callW C TT hN (st := []) (cw_undo hq122) m9_636 m9_637 m9_78 m9_638 kdL_undo ⟨Nat.le_of_ble_eq_true rfl, Nat.le_of_ble_eq_true rfl⟩ (by omega) (Nat.le_of_ble_eq_true rfl) rfl dL_law_888 ?_
                                  refine GL.istore (lv' := [(5, .int (q122.1)), (0, .ref (b9)), (1, .ref (x1)), (2, .ref (x2)), (3, .ref (o9)), (4, .int (x4))]) C dL_law_891 (by decide) rfl ?_
                                  refine GL.aload_n C 3 dL_law_893 rfl rfl ?_
                                  obtain ⟨q123, hq123, hf⟩ := bind_some hf
                                  try dsimp only at hf
                                  refine GL.callV C (st := []) (st2 := [.int (q123.1)]) (ct_X6_undo hq123) (ko_X6_undo hq123) rfl m9_651 m9_652 m9_653 m9_5 m9_654 kd_X6_undo ⟨Nat.le_of_ble_eq_true rfl, Nat.le_of_ble_eq_true rfl⟩ (by omega) (Nat.le_of_ble_eq_true rfl) rfl rfl dL_law_894 ?_
                                  refine GL.istore (lv' := [(6, .int (q123.1)), (5, .int (q122.1)), (0, .ref (b9)), (1, .ref (x1)), (2, .ref (x2)), (3, .ref (o9)), (4, .int (x4))]) C dL_law_897 (by decide) rfl ?_
                                  refine GL.aload_n C 4 dL_law_899 rfl rfl ?_
                                  obtain ⟨q124, hq124, hf⟩ := bind_some hf
                                  try dsimp only at hf
                                  refine GL.callV C (st := []) (st2 := [.int (q124)]) (ct_X6_thrown hq124) (ko_X6_thrown hq124) rfl m9_172 m9_173 m9_174 m9_5 m9_175 kd_X6_thrown ⟨Nat.le_of_ble_eq_true rfl, Nat.le_of_ble_eq_true rfl⟩ (by omega) (Nat.le_of_ble_eq_true rfl) rfl rfl dL_law_900 ?_
                                  refine GL.iload C 1 dL_law_903 rfl ?_
                                  refine GL.icmp_eq (tgt := 910) C dL_law_905 (by decide) hf (fun c127 hf => ?_) (fun c127 hf => ?_)
                                  · refine GL.iload C 1 dL_law_910 rfl ?_
                                    refine GL.if_ne (tgt := 927) C dL_law_912 (by decide) hf (fun c126 hf => ?_) (fun c126 hf => ?_)
                                    · refine GL.mono (c2 := cb + 1) (by omega) ?_
                                      refine GL.sub C [2, 5, 3, 4, 6] (lv' := [(0, .ref (b9)), (3, .ref (o9)), (1, .ref (x1)), (2, .ref (x2)), (4, .int (x4))]) rfl ?_
                                      exact hj927 _ _ hf
                                    · refine GL.aload_n C 5 dL_law_915 rfl rfl ?_
                                      refine GL.iconst (v := 0) C dL_law_916 (by decide) ?_
                                      refine GL.lld C dL_law_917 ?_
                                      refine GL.iload C 0 dL_law_918 rfl ?_
                                      refine GL.i2l C dL_law_920 ?_
                                      refine GL.lcmp C dL_law_921 ?_
                                      refine GL.if_eq (tgt := 927) C dL_law_922 (by decide) hf (fun c125 hf => ?_) (fun c125 hf => ?_)
                                      · refine GL.mono (c2 := cb + 1) (by omega) ?_
                                        refine GL.sub C [2, 5, 3, 4, 6] (lv' := [(0, .ref (b9)), (3, .ref (o9)), (1, .ref (x1)), (2, .ref (x2)), (4, .int (x4))]) rfl ?_
                                        exact hj927 _ _ hf
                                      · cases hf
                                  · cases hf
                                · rw [if_neg c121] at hf
                                  by_cases c128 : ((xs (x4).toNatClampNeg) &&& (31 : Int32)) = 14
                                  · rw [if_pos c128] at hf
                                    refine GL.tswIn (tgt := 930) (off := 891) C c128 dL_law_39 (by decide) (by decide) rfl (by decide) ?_
                                    refine GL.aload_n C 1 dL_law_930 rfl rfl ?_
                                    obtain ⟨q129, hq129, hf⟩ := bind_some hf
                                    try dsimp only at hf
                                    refine GL.callV C (st := []) (st2 := [.int (q129.1)]) (ct_X5_keep hq129) (ko_X5_keep hq129) rfl m9_655 m9_656 m9_657 m9_2 m9_658 kd_X5_keep ⟨Nat.le_of_ble_eq_true rfl, Nat.le_of_ble_eq_true rfl⟩ (by omega) (Nat.le_of_ble_eq_true rfl) rfl rfl dL_law_931 ?_
                                    refine GL.aload_n C 2 dL_law_934 rfl rfl ?_
                                    obtain ⟨q130, hq130, hf⟩ := bind_some hf
                                    try dsimp only at hf
                                    refine GL.callV C (st := [.int (q129.1)]) (st2 := [.int (q130.1), .int (q129.1)]) (ct_X6_keep hq130) (ko_X6_keep hq130) rfl m9_660 m9_661 m9_662 m9_5 m9_663 kd_X6_keep ⟨Nat.le_of_ble_eq_true rfl, Nat.le_of_ble_eq_true rfl⟩ (by omega) (Nat.le_of_ble_eq_true rfl) rfl rfl dL_law_935 ?_
                                    refine GL.icmp_eq (tgt := 1894) C dL_law_938 (by decide) hf (fun c131 hf => ?_) (fun c131 hf => ?_)
                                    · refine GL.mono (c2 := cb + 1) (by omega) ?_
                                      refine GL.sub C [0, 3, 1, 2, 4] (lv' := [(0, .ref (b9)), (3, .ref (o9)), (1, .ref (x1)), (2, .ref (x2)), (4, .int (x4))]) rfl ?_
                                      exact hj1894 _ _ hf
                                    · cases hf
                                  · rw [if_neg c128] at hf
                                    by_cases c132 : ((xs (x4).toNatClampNeg) &&& (31 : Int32)) = 15
                                    · rw [if_pos c132] at hf
                                      refine GL.tswIn (tgt := 943) (off := 904) C c132 dL_law_39 (by decide) (by decide) rfl (by decide) ?_
                                      refine GL.aload_n C 1 dL_law_943 rfl rfl ?_
                                      refine GL.aload_n C 3 dL_law_944 rfl rfl ?_
                                      obtain ⟨q133, hq133, hf⟩ := bind_some hf
                                      try dsimp only at hf
                                      refine GL.callW C TT hN (st := []) (cw_restore hq133) m9_665 m9_666 m9_78 m9_667 kdL_restore ⟨Nat.le_of_ble_eq_true rfl, Nat.le_of_ble_eq_true rfl⟩ (by omega) (Nat.le_of_ble_eq_true rfl) rfl dL_law_945 ?_
                                      refine GL.istore (lv' := [(5, .int (q133.1)), (0, .ref (b9)), (1, .ref (x1)), (2, .ref (x2)), (3, .ref (o9)), (4, .int (x4))]) C dL_law_948 (by decide) rfl ?_
                                      refine GL.aload_n C 3 dL_law_950 rfl rfl ?_
                                      obtain ⟨q134, hq134, hf⟩ := bind_some hf
                                      try dsimp only at hf
                                      refine GL.callV C (st := []) (st2 := [.int (q134.1)]) (ct_X6_restore hq134) (ko_X6_restore hq134) rfl m9_672 m9_673 m9_674 m9_5 m9_675 kd_X6_restore ⟨Nat.le_of_ble_eq_true rfl, Nat.le_of_ble_eq_true rfl⟩ (by omega) (Nat.le_of_ble_eq_true rfl) rfl rfl dL_law_951 ?_
                                      refine GL.istore (lv' := [(6, .int (q134.1)), (5, .int (q133.1)), (0, .ref (b9)), (1, .ref (x1)), (2, .ref (x2)), (3, .ref (o9)), (4, .int (x4))]) C dL_law_954 (by decide) rfl ?_
                                      refine GL.aload_n C 4 dL_law_956 rfl rfl ?_
                                      obtain ⟨q135, hq135, hf⟩ := bind_some hf
                                      try dsimp only at hf
                                      refine GL.callV C (st := []) (st2 := [.int (q135)]) (ct_X6_thrown hq135) (ko_X6_thrown hq135) rfl m9_172 m9_173 m9_174 m9_5 m9_175 kd_X6_thrown ⟨Nat.le_of_ble_eq_true rfl, Nat.le_of_ble_eq_true rfl⟩ (by omega) (Nat.le_of_ble_eq_true rfl) rfl rfl dL_law_957 ?_
                                      refine GL.iload C 1 dL_law_960 rfl ?_
                                      refine GL.icmp_eq (tgt := 967) C dL_law_962 (by decide) hf (fun c138 hf => ?_) (fun c138 hf => ?_)
                                      · refine GL.iload C 1 dL_law_967 rfl ?_
                                        refine GL.if_ne (tgt := 984) C dL_law_969 (by decide) hf (fun c137 hf => ?_) (fun c137 hf => ?_)
                                        · refine GL.mono (c2 := cb + 1) (by omega) ?_
                                          refine GL.sub C [2, 5, 3, 4, 6] (lv' := [(0, .ref (b9)), (3, .ref (o9)), (1, .ref (x1)), (2, .ref (x2)), (4, .int (x4))]) rfl ?_
                                          exact hj984 _ _ hf
                                        · refine GL.aload_n C 5 dL_law_972 rfl rfl ?_
                                          refine GL.iconst (v := 0) C dL_law_973 (by decide) ?_
                                          refine GL.lld C dL_law_974 ?_
                                          refine GL.iload C 0 dL_law_975 rfl ?_
                                          refine GL.i2l C dL_law_977 ?_
                                          refine GL.lcmp C dL_law_978 ?_
                                          refine GL.if_eq (tgt := 984) C dL_law_979 (by decide) hf (fun c136 hf => ?_) (fun c136 hf => ?_)
                                          · refine GL.mono (c2 := cb + 1) (by omega) ?_
                                            refine GL.sub C [2, 5, 3, 4, 6] (lv' := [(0, .ref (b9)), (3, .ref (o9)), (1, .ref (x1)), (2, .ref (x2)), (4, .int (x4))]) rfl ?_
                                            exact hj984 _ _ hf
                                          · cases hf
                                      · cases hf
                                    · rw [if_neg c132] at hf
                                      by_cases c139 : ((xs (x4).toNatClampNeg) &&& (31 : Int32)) = 16
                                      · rw [if_pos c139] at hf
                                        refine GL.tswIn (tgt := 987) (off := 948) C c139 dL_law_39 (by decide) (by decide) rfl (by decide) ?_
                                        refine GL.aload_n C 1 dL_law_987 rfl rfl ?_
                                        refine GL.aload_n C 0 dL_law_988 rfl rfl ?_
                                        refine GL.iload C 4 dL_law_989 rfl ?_
                                        refine GL.iconst (v := 1) C dL_law_991 (by decide) ?_
                                        refine GL.iadd C dL_law_992 ?_
                                        obtain ⟨c140, hf⟩ := gd_ok hf
                                        refine GL.sld C hX hbl hbo c140 dL_law_993 ?_
                                        refine GL.aload_n C 0 dL_law_994 rfl rfl ?_
                                        refine GL.iload C 4 dL_law_995 rfl ?_
                                        refine GL.iconst (v := 2) C dL_law_997 (by decide) ?_
                                        refine GL.iadd C dL_law_998 ?_
                                        obtain ⟨c141, hf⟩ := gd_ok hf
                                        refine GL.sld C hX hbl hbo c141 dL_law_999 ?_
                                        refine GL.aload_n C 3 dL_law_1000 rfl rfl ?_
                                        obtain ⟨q142, hq142, hf⟩ := bind_some hf
                                        try dsimp only at hf
                                        refine GL.callW C TT hN (st := []) (cw_place hq142) m9_676 m9_677 m9_78 m9_678 kdL_place ⟨Nat.le_of_ble_eq_true rfl, Nat.le_of_ble_eq_true rfl⟩ (by omega) (Nat.le_of_ble_eq_true rfl) rfl dL_law_1001 ?_
                                        refine GL.istore (lv' := [(5, .int (q142.1)), (0, .ref (b9)), (1, .ref (x1)), (2, .ref (x2)), (3, .ref (o9)), (4, .int (x4))]) C dL_law_1004 (by decide) rfl ?_
                                        refine GL.aload_n C 3 dL_law_1006 rfl rfl ?_
                                        refine GL.aload_n C 1 dL_law_1007 rfl rfl ?_
                                        refine GL.iload C 5 dL_law_1008 rfl ?_
                                        refine GL.iconst (v := 1) C dL_law_1010 (by decide) ?_
                                        refine GL.iadd C dL_law_1011 ?_
                                        obtain ⟨c143, hf⟩ := gd_ok hf
                                        refine GL.sld C hX hbl hbo c143 dL_law_1012 ?_
                                        refine GL.aload_n C 1 dL_law_1013 rfl rfl ?_
                                        refine GL.iload C 5 dL_law_1014 rfl ?_
                                        refine GL.iconst (v := 2) C dL_law_1016 (by decide) ?_
                                        refine GL.iadd C dL_law_1017 ?_
                                        obtain ⟨c144, hf⟩ := gd_ok hf
                                        refine GL.sld C hX hbl hbo c144 dL_law_1018 ?_
                                        obtain ⟨q145, hq145, hf⟩ := bind_some hf
                                        try dsimp only at hf
                                        refine GL.callV C (st := []) (st2 := [.int (q145.1)]) (ct_X6_place hq145) (ko_X6_place hq145) rfl m9_684 m9_685 m9_686 m9_5 m9_687 kd_X6_place ⟨Nat.le_of_ble_eq_true rfl, Nat.le_of_ble_eq_true rfl⟩ (by omega) (Nat.le_of_ble_eq_true rfl) rfl rfl dL_law_1019 ?_
                                        refine GL.istore (lv' := [(6, .int (q145.1)), (5, .int (q142.1)), (0, .ref (b9)), (1, .ref (x1)), (2, .ref (x2)), (3, .ref (o9)), (4, .int (x4))]) C dL_law_1022 (by decide) rfl ?_
                                        refine GL.aload_n C 4 dL_law_1024 rfl rfl ?_
                                        obtain ⟨q146, hq146, hf⟩ := bind_some hf
                                        try dsimp only at hf
                                        refine GL.callV C (st := []) (st2 := [.int (q146)]) (ct_X6_thrown hq146) (ko_X6_thrown hq146) rfl m9_172 m9_173 m9_174 m9_5 m9_175 kd_X6_thrown ⟨Nat.le_of_ble_eq_true rfl, Nat.le_of_ble_eq_true rfl⟩ (by omega) (Nat.le_of_ble_eq_true rfl) rfl rfl dL_law_1025 ?_
                                        refine GL.iload C 1 dL_law_1028 rfl ?_
                                        refine GL.icmp_eq (tgt := 1035) C dL_law_1030 (by decide) hf (fun c149 hf => ?_) (fun c149 hf => ?_)
                                        · refine GL.iload C 1 dL_law_1035 rfl ?_
                                          refine GL.if_ne (tgt := 1052) C dL_law_1037 (by decide) hf (fun c148 hf => ?_) (fun c148 hf => ?_)
                                          · refine GL.mono (c2 := cb + 1) (by omega) ?_
                                            refine GL.sub C [2, 5, 3, 4, 6] (lv' := [(0, .ref (b9)), (3, .ref (o9)), (1, .ref (x1)), (2, .ref (x2)), (4, .int (x4))]) rfl ?_
                                            exact hj1052 _ _ hf
                                          · refine GL.aload_n C 5 dL_law_1040 rfl rfl ?_
                                            refine GL.iconst (v := 0) C dL_law_1041 (by decide) ?_
                                            refine GL.lld C dL_law_1042 ?_
                                            refine GL.iload C 0 dL_law_1043 rfl ?_
                                            refine GL.i2l C dL_law_1045 ?_
                                            refine GL.lcmp C dL_law_1046 ?_
                                            refine GL.if_eq (tgt := 1052) C dL_law_1047 (by decide) hf (fun c147 hf => ?_) (fun c147 hf => ?_)
                                            · refine GL.mono (c2 := cb + 1) (by omega) ?_
                                              refine GL.sub C [2, 5, 3, 4, 6] (lv' := [(0, .ref (b9)), (3, .ref (o9)), (1, .ref (x1)), (2, .ref (x2)), (4, .int (x4))]) rfl ?_
                                              exact hj1052 _ _ hf
                                            · cases hf
                                        · cases hf
                                      · rw [if_neg c139] at hf
                                        by_cases c150 : ((xs (x4).toNatClampNeg) &&& (31 : Int32)) = 17
                                        · rw [if_pos c150] at hf
                                          refine GL.tswIn (tgt := 1055) (off := 1016) C c150 dL_law_39 (by decide) (by decide) rfl (by decide) ?_
                                          refine GL.aload_n C 1 dL_law_1055 rfl rfl ?_
                                          refine GL.aload_n C 0 dL_law_1056 rfl rfl ?_
                                          refine GL.iload C 4 dL_law_1057 rfl ?_
                                          refine GL.iconst (v := 1) C dL_law_1059 (by decide) ?_
                                          refine GL.iadd C dL_law_1060 ?_
                                          obtain ⟨c151, hf⟩ := gd_ok hf
                                          refine GL.sld C hX hbl hbo c151 dL_law_1061 ?_
                                          refine GL.aload_n C 0 dL_law_1062 rfl rfl ?_
                                          refine GL.iload C 4 dL_law_1063 rfl ?_
                                          refine GL.iconst (v := 2) C dL_law_1065 (by decide) ?_
                                          refine GL.iadd C dL_law_1066 ?_
                                          obtain ⟨c152, hf⟩ := gd_ok hf
                                          refine GL.sld C hX hbl hbo c152 dL_law_1067 ?_
                                          refine GL.aload_n C 3 dL_law_1068 rfl rfl ?_
                                          obtain ⟨q153, hq153, hf⟩ := bind_some hf
                                          try dsimp only at hf
                                          refine GL.callW C TT hN (st := []) (cw_ropeOf hq153) m9_688 m9_689 m9_78 m9_690 kdL_ropeOf ⟨Nat.le_of_ble_eq_true rfl, Nat.le_of_ble_eq_true rfl⟩ (by omega) (Nat.le_of_ble_eq_true rfl) rfl dL_law_1069 ?_
                                          refine GL.istore (lv' := [(5, .int (q153.1)), (0, .ref (b9)), (1, .ref (x1)), (2, .ref (x2)), (3, .ref (o9)), (4, .int (x4))]) C dL_law_1072 (by decide) rfl ?_
                                          refine GL.aload_n C 3 dL_law_1074 rfl rfl ?_
                                          refine GL.aload_n C 1 dL_law_1075 rfl rfl ?_
                                          refine GL.iload C 5 dL_law_1076 rfl ?_
                                          refine GL.iconst (v := 1) C dL_law_1078 (by decide) ?_
                                          refine GL.iadd C dL_law_1079 ?_
                                          obtain ⟨c154, hf⟩ := gd_ok hf
                                          refine GL.sld C hX hbl hbo c154 dL_law_1080 ?_
                                          refine GL.aload_n C 1 dL_law_1081 rfl rfl ?_
                                          refine GL.iload C 5 dL_law_1082 rfl ?_
                                          refine GL.iconst (v := 2) C dL_law_1084 (by decide) ?_
                                          refine GL.iadd C dL_law_1085 ?_
                                          obtain ⟨c155, hf⟩ := gd_ok hf
                                          refine GL.sld C hX hbl hbo c155 dL_law_1086 ?_
                                          obtain ⟨q156, hq156, hf⟩ := bind_some hf
                                          try dsimp only at hf
                                          refine GL.callV C (st := []) (st2 := [.int (q156.1)]) (ct_X6_ropeOf hq156) (ko_X6_ropeOf hq156) rfl m9_718 m9_719 m9_720 m9_5 m9_721 kd_X6_ropeOf ⟨Nat.le_of_ble_eq_true rfl, Nat.le_of_ble_eq_true rfl⟩ (by omega) (Nat.le_of_ble_eq_true rfl) rfl rfl dL_law_1087 ?_
                                          refine GL.istore (lv' := [(6, .int (q156.1)), (5, .int (q153.1)), (0, .ref (b9)), (1, .ref (x1)), (2, .ref (x2)), (3, .ref (o9)), (4, .int (x4))]) C dL_law_1090 (by decide) rfl ?_
                                          refine GL.aload_n C 4 dL_law_1092 rfl rfl ?_
                                          obtain ⟨q157, hq157, hf⟩ := bind_some hf
                                          try dsimp only at hf
                                          refine GL.callV C (st := []) (st2 := [.int (q157)]) (ct_X6_thrown hq157) (ko_X6_thrown hq157) rfl m9_172 m9_173 m9_174 m9_5 m9_175 kd_X6_thrown ⟨Nat.le_of_ble_eq_true rfl, Nat.le_of_ble_eq_true rfl⟩ (by omega) (Nat.le_of_ble_eq_true rfl) rfl rfl dL_law_1093 ?_
                                          refine GL.iload C 1 dL_law_1096 rfl ?_
                                          refine GL.icmp_eq (tgt := 1103) C dL_law_1098 (by decide) hf (fun c160 hf => ?_) (fun c160 hf => ?_)
                                          · refine GL.iload C 1 dL_law_1103 rfl ?_
                                            refine GL.if_ne (tgt := 1120) C dL_law_1105 (by decide) hf (fun c159 hf => ?_) (fun c159 hf => ?_)
                                            · refine GL.mono (c2 := cb + 1) (by omega) ?_
                                              refine GL.sub C [2, 5, 3, 4, 6] (lv' := [(0, .ref (b9)), (3, .ref (o9)), (1, .ref (x1)), (2, .ref (x2)), (4, .int (x4))]) rfl ?_
                                              exact hj1120 _ _ hf
                                            · refine GL.aload_n C 5 dL_law_1108 rfl rfl ?_
                                              refine GL.iconst (v := 0) C dL_law_1109 (by decide) ?_
                                              refine GL.lld C dL_law_1110 ?_
                                              refine GL.iload C 0 dL_law_1111 rfl ?_
                                              refine GL.i2l C dL_law_1113 ?_
                                              refine GL.lcmp C dL_law_1114 ?_
                                              refine GL.if_eq (tgt := 1120) C dL_law_1115 (by decide) hf (fun c158 hf => ?_) (fun c158 hf => ?_)
                                              · refine GL.mono (c2 := cb + 1) (by omega) ?_
                                                refine GL.sub C [2, 5, 3, 4, 6] (lv' := [(0, .ref (b9)), (3, .ref (o9)), (1, .ref (x1)), (2, .ref (x2)), (4, .int (x4))]) rfl ?_
                                                exact hj1120 _ _ hf
                                              · cases hf
                                          · cases hf
                                        · rw [if_neg c150] at hf
                                          by_cases c161 : ((xs (x4).toNatClampNeg) &&& (31 : Int32)) = 18
                                          · rw [if_pos c161] at hf
                                            refine GL.tswIn (tgt := 1123) (off := 1084) C c161 dL_law_39 (by decide) (by decide) rfl (by decide) ?_
                                            refine GL.aload_n C 1 dL_law_1123 rfl rfl ?_
                                            refine GL.aload_n C 0 dL_law_1124 rfl rfl ?_
                                            refine GL.iload C 4 dL_law_1125 rfl ?_
                                            refine GL.iconst (v := 1) C dL_law_1127 (by decide) ?_
                                            refine GL.iadd C dL_law_1128 ?_
                                            obtain ⟨c162, hf⟩ := gd_ok hf
                                            refine GL.sld C hX hbl hbo c162 dL_law_1129 ?_
                                            refine GL.aload_n C 0 dL_law_1130 rfl rfl ?_
                                            refine GL.iload C 4 dL_law_1131 rfl ?_
                                            refine GL.iconst (v := 2) C dL_law_1133 (by decide) ?_
                                            refine GL.iadd C dL_law_1134 ?_
                                            obtain ⟨c163, hf⟩ := gd_ok hf
                                            refine GL.sld C hX hbl hbo c163 dL_law_1135 ?_
                                            refine GL.aload_n C 0 dL_law_1136 rfl rfl ?_
                                            refine GL.iload C 4 dL_law_1137 rfl ?_
                                            refine GL.iconst (v := 3) C dL_law_1139 (by decide) ?_
                                            refine GL.iadd C dL_law_1140 ?_
                                            obtain ⟨c164, hf⟩ := gd_ok hf
                                            refine GL.sld C hX hbl hbo c164 dL_law_1141 ?_
                                            refine GL.aload_n C 3 dL_law_1142 rfl rfl ?_
                                            obtain ⟨q165, hq165, hf⟩ := bind_some hf
                                            try dsimp only at hf
                                            refine GL.callW C TT hN (st := []) (cw_hueOf hq165) m9_745 m9_746 m9_78 m9_747 kdL_hueOf ⟨Nat.le_of_ble_eq_true rfl, Nat.le_of_ble_eq_true rfl⟩ (by omega) (Nat.le_of_ble_eq_true rfl) rfl dL_law_1143 ?_
                                            refine GL.istore (lv' := [(5, .int (q165.1)), (0, .ref (b9)), (1, .ref (x1)), (2, .ref (x2)), (3, .ref (o9)), (4, .int (x4))]) C dL_law_1146 (by decide) rfl ?_
                                            refine GL.aload_n C 3 dL_law_1148 rfl rfl ?_
                                            refine GL.aload_n C 1 dL_law_1149 rfl rfl ?_
                                            refine GL.iload C 5 dL_law_1150 rfl ?_
                                            refine GL.iconst (v := 1) C dL_law_1152 (by decide) ?_
                                            refine GL.iadd C dL_law_1153 ?_
                                            obtain ⟨c166, hf⟩ := gd_ok hf
                                            refine GL.sld C hX hbl hbo c166 dL_law_1154 ?_
                                            refine GL.aload_n C 1 dL_law_1155 rfl rfl ?_
                                            refine GL.iload C 5 dL_law_1156 rfl ?_
                                            refine GL.iconst (v := 2) C dL_law_1158 (by decide) ?_
                                            refine GL.iadd C dL_law_1159 ?_
                                            obtain ⟨c167, hf⟩ := gd_ok hf
                                            refine GL.sld C hX hbl hbo c167 dL_law_1160 ?_
                                            refine GL.aload_n C 1 dL_law_1161 rfl rfl ?_
                                            refine GL.iload C 5 dL_law_1162 rfl ?_
                                            refine GL.iconst (v := 3) C dL_law_1164 (by decide) ?_
                                            refine GL.iadd C dL_law_1165 ?_
                                            obtain ⟨c168, hf⟩ := gd_ok hf
                                            refine GL.sld C hX hbl hbo c168 dL_law_1166 ?_
                                            obtain ⟨q169, hq169, hf⟩ := bind_some hf
                                            try dsimp only at hf
                                            refine GL.callV C (st := []) (st2 := [.int (q169.1)]) (ct_X6_hueOf hq169) (ko_X6_hueOf hq169) rfl m9_758 m9_759 m9_760 m9_5 m9_761 kd_X6_hueOf ⟨Nat.le_of_ble_eq_true rfl, Nat.le_of_ble_eq_true rfl⟩ (by omega) (Nat.le_of_ble_eq_true rfl) rfl rfl dL_law_1167 ?_
                                            refine GL.istore (lv' := [(6, .int (q169.1)), (5, .int (q165.1)), (0, .ref (b9)), (1, .ref (x1)), (2, .ref (x2)), (3, .ref (o9)), (4, .int (x4))]) C dL_law_1170 (by decide) rfl ?_
                                            refine GL.aload_n C 4 dL_law_1172 rfl rfl ?_
                                            obtain ⟨q170, hq170, hf⟩ := bind_some hf
                                            try dsimp only at hf
                                            refine GL.callV C (st := []) (st2 := [.int (q170)]) (ct_X6_thrown hq170) (ko_X6_thrown hq170) rfl m9_172 m9_173 m9_174 m9_5 m9_175 kd_X6_thrown ⟨Nat.le_of_ble_eq_true rfl, Nat.le_of_ble_eq_true rfl⟩ (by omega) (Nat.le_of_ble_eq_true rfl) rfl rfl dL_law_1173 ?_
                                            refine GL.iload C 1 dL_law_1176 rfl ?_
                                            refine GL.icmp_eq (tgt := 1183) C dL_law_1178 (by decide) hf (fun c173 hf => ?_) (fun c173 hf => ?_)
                                            · refine GL.iload C 1 dL_law_1183 rfl ?_
                                              refine GL.if_ne (tgt := 1200) C dL_law_1185 (by decide) hf (fun c172 hf => ?_) (fun c172 hf => ?_)
                                              · refine GL.mono (c2 := cb + 1) (by omega) ?_
                                                refine GL.sub C [2, 5, 3, 4, 6] (lv' := [(0, .ref (b9)), (3, .ref (o9)), (1, .ref (x1)), (2, .ref (x2)), (4, .int (x4))]) rfl ?_
                                                exact hj1200 _ _ hf
                                              · refine GL.aload_n C 5 dL_law_1188 rfl rfl ?_
                                                refine GL.iconst (v := 0) C dL_law_1189 (by decide) ?_
                                                refine GL.lld C dL_law_1190 ?_
                                                refine GL.iload C 0 dL_law_1191 rfl ?_
                                                refine GL.i2l C dL_law_1193 ?_
                                                refine GL.lcmp C dL_law_1194 ?_
                                                refine GL.if_eq (tgt := 1200) C dL_law_1195 (by decide) hf (fun c171 hf => ?_) (fun c171 hf => ?_)
                                                · refine GL.mono (c2 := cb + 1) (by omega) ?_
                                                  refine GL.sub C [2, 5, 3, 4, 6] (lv' := [(0, .ref (b9)), (3, .ref (o9)), (1, .ref (x1)), (2, .ref (x2)), (4, .int (x4))]) rfl ?_
                                                  exact hj1200 _ _ hf
                                                · cases hf
                                            · cases hf
                                          · rw [if_neg c161] at hf
                                            by_cases c174 : ((xs (x4).toNatClampNeg) &&& (31 : Int32)) = 19
                                            · rw [if_pos c174] at hf
                                              refine GL.tswIn (tgt := 1203) (off := 1164) C c174 dL_law_39 (by decide) (by decide) rfl (by decide) ?_
                                              refine GL.aload_n C 1 dL_law_1203 rfl rfl ?_
                                              refine GL.aload_n C 0 dL_law_1204 rfl rfl ?_
                                              refine GL.iload C 4 dL_law_1205 rfl ?_
                                              refine GL.iconst (v := 1) C dL_law_1207 (by decide) ?_
                                              refine GL.iadd C dL_law_1208 ?_
                                              obtain ⟨c175, hf⟩ := gd_ok hf
                                              refine GL.sld C hX hbl hbo c175 dL_law_1209 ?_
                                              refine GL.aload_n C 3 dL_law_1210 rfl rfl ?_
                                              obtain ⟨q176, hq176, hf⟩ := bind_some hf
                                              try dsimp only at hf
                                              refine GL.callW C TT hN (st := []) (cw_gapOf hq176) m9_770 m9_771 m9_78 m9_772 kdL_gapOf ⟨Nat.le_of_ble_eq_true rfl, Nat.le_of_ble_eq_true rfl⟩ (by omega) (Nat.le_of_ble_eq_true rfl) rfl dL_law_1211 ?_
                                              refine GL.istore (lv' := [(5, .int (q176.1)), (0, .ref (b9)), (1, .ref (x1)), (2, .ref (x2)), (3, .ref (o9)), (4, .int (x4))]) C dL_law_1214 (by decide) rfl ?_
                                              refine GL.aload_n C 3 dL_law_1216 rfl rfl ?_
                                              refine GL.aload_n C 1 dL_law_1217 rfl rfl ?_
                                              refine GL.iload C 5 dL_law_1218 rfl ?_
                                              refine GL.iconst (v := 1) C dL_law_1220 (by decide) ?_
                                              refine GL.iadd C dL_law_1221 ?_
                                              obtain ⟨c177, hf⟩ := gd_ok hf
                                              refine GL.sld C hX hbl hbo c177 dL_law_1222 ?_
                                              obtain ⟨q178, hq178, hf⟩ := bind_some hf
                                              try dsimp only at hf
                                              refine GL.callV C (st := []) (st2 := [.int (q178.1)]) (ct_X6_gapOf hq178) (ko_X6_gapOf hq178) rfl m9_777 m9_778 m9_779 m9_5 m9_780 kd_X6_gapOf ⟨Nat.le_of_ble_eq_true rfl, Nat.le_of_ble_eq_true rfl⟩ (by omega) (Nat.le_of_ble_eq_true rfl) rfl rfl dL_law_1223 ?_
                                              refine GL.istore (lv' := [(6, .int (q178.1)), (5, .int (q176.1)), (0, .ref (b9)), (1, .ref (x1)), (2, .ref (x2)), (3, .ref (o9)), (4, .int (x4))]) C dL_law_1226 (by decide) rfl ?_
                                              refine GL.aload_n C 4 dL_law_1228 rfl rfl ?_
                                              obtain ⟨q179, hq179, hf⟩ := bind_some hf
                                              try dsimp only at hf
                                              refine GL.callV C (st := []) (st2 := [.int (q179)]) (ct_X6_thrown hq179) (ko_X6_thrown hq179) rfl m9_172 m9_173 m9_174 m9_5 m9_175 kd_X6_thrown ⟨Nat.le_of_ble_eq_true rfl, Nat.le_of_ble_eq_true rfl⟩ (by omega) (Nat.le_of_ble_eq_true rfl) rfl rfl dL_law_1229 ?_
                                              refine GL.iload C 1 dL_law_1232 rfl ?_
                                              refine GL.icmp_eq (tgt := 1239) C dL_law_1234 (by decide) hf (fun c182 hf => ?_) (fun c182 hf => ?_)
                                              · refine GL.iload C 1 dL_law_1239 rfl ?_
                                                refine GL.if_ne (tgt := 1256) C dL_law_1241 (by decide) hf (fun c181 hf => ?_) (fun c181 hf => ?_)
                                                · refine GL.mono (c2 := cb + 1) (by omega) ?_
                                                  refine GL.sub C [2, 5, 3, 4, 6] (lv' := [(0, .ref (b9)), (3, .ref (o9)), (1, .ref (x1)), (2, .ref (x2)), (4, .int (x4))]) rfl ?_
                                                  exact hj1256 _ _ hf
                                                · refine GL.aload_n C 5 dL_law_1244 rfl rfl ?_
                                                  refine GL.iconst (v := 0) C dL_law_1245 (by decide) ?_
                                                  refine GL.lld C dL_law_1246 ?_
                                                  refine GL.iload C 0 dL_law_1247 rfl ?_
                                                  refine GL.i2l C dL_law_1249 ?_
                                                  refine GL.lcmp C dL_law_1250 ?_
                                                  refine GL.if_eq (tgt := 1256) C dL_law_1251 (by decide) hf (fun c180 hf => ?_) (fun c180 hf => ?_)
                                                  · refine GL.mono (c2 := cb + 1) (by omega) ?_
                                                    refine GL.sub C [2, 5, 3, 4, 6] (lv' := [(0, .ref (b9)), (3, .ref (o9)), (1, .ref (x1)), (2, .ref (x2)), (4, .int (x4))]) rfl ?_
                                                    exact hj1256 _ _ hf
                                                  · cases hf
                                              · cases hf
                                            · rw [if_neg c174] at hf
                                              by_cases c183 : ((xs (x4).toNatClampNeg) &&& (31 : Int32)) = 20
                                              · rw [if_pos c183] at hf
                                                refine GL.tswIn (tgt := 1259) (off := 1220) C c183 dL_law_39 (by decide) (by decide) rfl (by decide) ?_
                                                refine GL.aload_n C 1 dL_law_1259 rfl rfl ?_
                                                refine GL.aload_n C 0 dL_law_1260 rfl rfl ?_
                                                refine GL.iload C 4 dL_law_1261 rfl ?_
                                                refine GL.iconst (v := 1) C dL_law_1263 (by decide) ?_
                                                refine GL.iadd C dL_law_1264 ?_
                                                obtain ⟨c184, hf⟩ := gd_ok hf
                                                refine GL.sld C hX hbl hbo c184 dL_law_1265 ?_
                                                refine GL.aload_n C 3 dL_law_1266 rfl rfl ?_
                                                obtain ⟨q185, hq185, hf⟩ := bind_some hf
                                                try dsimp only at hf
                                                refine GL.callW C TT hN (st := []) (cw_count hq185) m9_781 m9_782 m9_78 m9_783 kdL_count ⟨Nat.le_of_ble_eq_true rfl, Nat.le_of_ble_eq_true rfl⟩ (by omega) (Nat.le_of_ble_eq_true rfl) rfl dL_law_1267 ?_
                                                refine GL.istore (lv' := [(5, .int (q185.1)), (0, .ref (b9)), (1, .ref (x1)), (2, .ref (x2)), (3, .ref (o9)), (4, .int (x4))]) C dL_law_1270 (by decide) rfl ?_
                                                refine GL.aload_n C 3 dL_law_1272 rfl rfl ?_
                                                refine GL.aload_n C 1 dL_law_1273 rfl rfl ?_
                                                refine GL.iload C 5 dL_law_1274 rfl ?_
                                                refine GL.iconst (v := 1) C dL_law_1276 (by decide) ?_
                                                refine GL.iadd C dL_law_1277 ?_
                                                obtain ⟨c186, hf⟩ := gd_ok hf
                                                refine GL.sld C hX hbl hbo c186 dL_law_1278 ?_
                                                obtain ⟨q187, hq187, hf⟩ := bind_some hf
                                                try dsimp only at hf
                                                refine GL.callV C (st := []) (st2 := [.int (q187.1)]) (ct_X6_count hq187) (ko_X6_count hq187) rfl m9_819 m9_820 m9_821 m9_5 m9_822 kd_X6_count ⟨Nat.le_of_ble_eq_true rfl, Nat.le_of_ble_eq_true rfl⟩ (by omega) (Nat.le_of_ble_eq_true rfl) rfl rfl dL_law_1279 ?_
                                                refine GL.istore (lv' := [(6, .int (q187.1)), (5, .int (q185.1)), (0, .ref (b9)), (1, .ref (x1)), (2, .ref (x2)), (3, .ref (o9)), (4, .int (x4))]) C dL_law_1282 (by decide) rfl ?_
                                                refine GL.aload_n C 4 dL_law_1284 rfl rfl ?_
                                                obtain ⟨q188, hq188, hf⟩ := bind_some hf
                                                try dsimp only at hf
                                                refine GL.callV C (st := []) (st2 := [.int (q188)]) (ct_X6_thrown hq188) (ko_X6_thrown hq188) rfl m9_172 m9_173 m9_174 m9_5 m9_175 kd_X6_thrown ⟨Nat.le_of_ble_eq_true rfl, Nat.le_of_ble_eq_true rfl⟩ (by omega) (Nat.le_of_ble_eq_true rfl) rfl rfl dL_law_1285 ?_
                                                refine GL.iload C 1 dL_law_1288 rfl ?_
                                                refine GL.icmp_eq (tgt := 1295) C dL_law_1290 (by decide) hf (fun c191 hf => ?_) (fun c191 hf => ?_)
                                                · refine GL.iload C 1 dL_law_1295 rfl ?_
                                                  refine GL.if_ne (tgt := 1312) C dL_law_1297 (by decide) hf (fun c190 hf => ?_) (fun c190 hf => ?_)
                                                  · refine GL.mono (c2 := cb + 1) (by omega) ?_
                                                    refine GL.sub C [2, 5, 3, 4, 6] (lv' := [(0, .ref (b9)), (3, .ref (o9)), (1, .ref (x1)), (2, .ref (x2)), (4, .int (x4))]) rfl ?_
                                                    exact hj1312 _ _ hf
                                                  · refine GL.aload_n C 5 dL_law_1300 rfl rfl ?_
                                                    refine GL.iconst (v := 0) C dL_law_1301 (by decide) ?_
                                                    refine GL.lld C dL_law_1302 ?_
                                                    refine GL.iload C 0 dL_law_1303 rfl ?_
                                                    refine GL.i2l C dL_law_1305 ?_
                                                    refine GL.lcmp C dL_law_1306 ?_
                                                    refine GL.if_eq (tgt := 1312) C dL_law_1307 (by decide) hf (fun c189 hf => ?_) (fun c189 hf => ?_)
                                                    · refine GL.mono (c2 := cb + 1) (by omega) ?_
                                                      refine GL.sub C [2, 5, 3, 4, 6] (lv' := [(0, .ref (b9)), (3, .ref (o9)), (1, .ref (x1)), (2, .ref (x2)), (4, .int (x4))]) rfl ?_
                                                      exact hj1312 _ _ hf
                                                    · cases hf
                                                · cases hf
                                              · rw [if_neg c183] at hf
                                                by_cases c192 : ((xs (x4).toNatClampNeg) &&& (31 : Int32)) = 21
                                                · rw [if_pos c192] at hf
                                                  refine GL.tswIn (tgt := 1315) (off := 1276) C c192 dL_law_39 (by decide) (by decide) rfl (by decide) ?_
                                                  refine GL.aload_n C 1 dL_law_1315 rfl rfl ?_
                                                  refine GL.aload_n C 0 dL_law_1316 rfl rfl ?_
                                                  refine GL.iload C 4 dL_law_1317 rfl ?_
                                                  refine GL.iconst (v := 1) C dL_law_1319 (by decide) ?_
                                                  refine GL.iadd C dL_law_1320 ?_
                                                  obtain ⟨c193, hf⟩ := gd_ok hf
                                                  refine GL.sld C hX hbl hbo c193 dL_law_1321 ?_
                                                  refine GL.aload_n C 0 dL_law_1322 rfl rfl ?_
                                                  refine GL.iload C 4 dL_law_1323 rfl ?_
                                                  refine GL.iconst (v := 2) C dL_law_1325 (by decide) ?_
                                                  refine GL.iadd C dL_law_1326 ?_
                                                  obtain ⟨c194, hf⟩ := gd_ok hf
                                                  refine GL.sld C hX hbl hbo c194 dL_law_1327 ?_
                                                  refine GL.aload_n C 0 dL_law_1328 rfl rfl ?_
                                                  refine GL.iload C 4 dL_law_1329 rfl ?_
                                                  refine GL.iconst (v := 3) C dL_law_1331 (by decide) ?_
                                                  refine GL.iadd C dL_law_1332 ?_
                                                  obtain ⟨c195, hf⟩ := gd_ok hf
                                                  refine GL.sld C hX hbl hbo c195 dL_law_1333 ?_
                                                  refine GL.aload_n C 3 dL_law_1334 rfl rfl ?_
                                                  obtain ⟨q196, hq196, hf⟩ := bind_some hf
                                                  try dsimp only at hf
                                                  refine GL.callW C TT hN (st := []) (cw_refusal hq196) m9_835 m9_836 m9_78 m9_837 kdL_refusal ⟨Nat.le_of_ble_eq_true rfl, Nat.le_of_ble_eq_true rfl⟩ (by omega) (Nat.le_of_ble_eq_true rfl) rfl dL_law_1335 ?_
                                                  refine GL.istore (lv' := [(5, .int (q196.1)), (0, .ref (b9)), (1, .ref (x1)), (2, .ref (x2)), (3, .ref (o9)), (4, .int (x4))]) C dL_law_1338 (by decide) rfl ?_
                                                  refine GL.aload_n C 3 dL_law_1340 rfl rfl ?_
                                                  refine GL.aload_n C 1 dL_law_1341 rfl rfl ?_
                                                  refine GL.iload C 5 dL_law_1342 rfl ?_
                                                  refine GL.iconst (v := 1) C dL_law_1344 (by decide) ?_
                                                  refine GL.iadd C dL_law_1345 ?_
                                                  obtain ⟨c197, hf⟩ := gd_ok hf
                                                  refine GL.sld C hX hbl hbo c197 dL_law_1346 ?_
                                                  refine GL.aload_n C 1 dL_law_1347 rfl rfl ?_
                                                  refine GL.iload C 5 dL_law_1348 rfl ?_
                                                  refine GL.iconst (v := 2) C dL_law_1350 (by decide) ?_
                                                  refine GL.iadd C dL_law_1351 ?_
                                                  obtain ⟨c198, hf⟩ := gd_ok hf
                                                  refine GL.sld C hX hbl hbo c198 dL_law_1352 ?_
                                                  refine GL.aload_n C 1 dL_law_1353 rfl rfl ?_
                                                  refine GL.iload C 5 dL_law_1354 rfl ?_
                                                  refine GL.iconst (v := 3) C dL_law_1356 (by decide) ?_
                                                  refine GL.iadd C dL_law_1357 ?_
                                                  obtain ⟨c199, hf⟩ := gd_ok hf
                                                  refine GL.sld C hX hbl hbo c199 dL_law_1358 ?_
                                                  obtain ⟨q200, hq200, hf⟩ := bind_some hf
                                                  try dsimp only at hf
                                                  refine GL.callV C (st := []) (st2 := [.int (q200.1)]) (ct_X6_refusal hq200) (ko_X6_refusal hq200) rfl m9_842 m9_843 m9_844 m9_5 m9_845 kd_X6_refusal ⟨Nat.le_of_ble_eq_true rfl, Nat.le_of_ble_eq_true rfl⟩ (by omega) (Nat.le_of_ble_eq_true rfl) rfl rfl dL_law_1359 ?_
                                                  refine GL.istore (lv' := [(6, .int (q200.1)), (5, .int (q196.1)), (0, .ref (b9)), (1, .ref (x1)), (2, .ref (x2)), (3, .ref (o9)), (4, .int (x4))]) C dL_law_1362 (by decide) rfl ?_
                                                  refine GL.aload_n C 4 dL_law_1364 rfl rfl ?_
                                                  obtain ⟨q201, hq201, hf⟩ := bind_some hf
                                                  try dsimp only at hf
                                                  refine GL.callV C (st := []) (st2 := [.int (q201)]) (ct_X6_thrown hq201) (ko_X6_thrown hq201) rfl m9_172 m9_173 m9_174 m9_5 m9_175 kd_X6_thrown ⟨Nat.le_of_ble_eq_true rfl, Nat.le_of_ble_eq_true rfl⟩ (by omega) (Nat.le_of_ble_eq_true rfl) rfl rfl dL_law_1365 ?_
                                                  refine GL.iload C 1 dL_law_1368 rfl ?_
                                                  refine GL.icmp_eq (tgt := 1375) C dL_law_1370 (by decide) hf (fun c204 hf => ?_) (fun c204 hf => ?_)
                                                  · refine GL.iload C 1 dL_law_1375 rfl ?_
                                                    refine GL.if_ne (tgt := 1392) C dL_law_1377 (by decide) hf (fun c203 hf => ?_) (fun c203 hf => ?_)
                                                    · refine GL.mono (c2 := cb + 1) (by omega) ?_
                                                      refine GL.sub C [2, 5, 3, 4, 6] (lv' := [(0, .ref (b9)), (3, .ref (o9)), (1, .ref (x1)), (2, .ref (x2)), (4, .int (x4))]) rfl ?_
                                                      exact hj1392 _ _ hf
                                                    · refine GL.aload_n C 5 dL_law_1380 rfl rfl ?_
                                                      refine GL.iconst (v := 0) C dL_law_1381 (by decide) ?_
                                                      refine GL.lld C dL_law_1382 ?_
                                                      refine GL.iload C 0 dL_law_1383 rfl ?_
                                                      refine GL.i2l C dL_law_1385 ?_
                                                      refine GL.lcmp C dL_law_1386 ?_
                                                      refine GL.if_eq (tgt := 1392) C dL_law_1387 (by decide) hf (fun c202 hf => ?_) (fun c202 hf => ?_)
                                                      · refine GL.mono (c2 := cb + 1) (by omega) ?_
                                                        refine GL.sub C [2, 5, 3, 4, 6] (lv' := [(0, .ref (b9)), (3, .ref (o9)), (1, .ref (x1)), (2, .ref (x2)), (4, .int (x4))]) rfl ?_
                                                        exact hj1392 _ _ hf
                                                      · cases hf
                                                  · cases hf
                                                · rw [if_neg c192] at hf
                                                  by_cases c205 : ((xs (x4).toNatClampNeg) &&& (31 : Int32)) = 22
                                                  · rw [if_pos c205] at hf
                                                    refine GL.tswIn (tgt := 1395) (off := 1356) C c205 dL_law_39 (by decide) (by decide) rfl (by decide) ?_
                                                    refine GL.aload_n C 1 dL_law_1395 rfl rfl ?_
                                                    refine GL.aload_n C 0 dL_law_1396 rfl rfl ?_
                                                    refine GL.iload C 4 dL_law_1397 rfl ?_
                                                    refine GL.iconst (v := 1) C dL_law_1399 (by decide) ?_
                                                    refine GL.iadd C dL_law_1400 ?_
                                                    obtain ⟨c206, hf⟩ := gd_ok hf
                                                    refine GL.sld C hX hbl hbo c206 dL_law_1401 ?_
                                                    refine GL.aload_n C 0 dL_law_1402 rfl rfl ?_
                                                    refine GL.iload C 4 dL_law_1403 rfl ?_
                                                    refine GL.iconst (v := 2) C dL_law_1405 (by decide) ?_
                                                    refine GL.iadd C dL_law_1406 ?_
                                                    obtain ⟨c207, hf⟩ := gd_ok hf
                                                    refine GL.sld C hX hbl hbo c207 dL_law_1407 ?_
                                                    refine GL.aload_n C 0 dL_law_1408 rfl rfl ?_
                                                    refine GL.iload C 4 dL_law_1409 rfl ?_
                                                    refine GL.iconst (v := 3) C dL_law_1411 (by decide) ?_
                                                    refine GL.iadd C dL_law_1412 ?_
                                                    obtain ⟨c208, hf⟩ := gd_ok hf
                                                    refine GL.sld C hX hbl hbo c208 dL_law_1413 ?_
                                                    refine GL.aload_n C 0 dL_law_1414 rfl rfl ?_
                                                    refine GL.iload C 4 dL_law_1415 rfl ?_
                                                    refine GL.iconst (v := 4) C dL_law_1417 (by decide) ?_
                                                    refine GL.iadd C dL_law_1418 ?_
                                                    obtain ⟨c209, hf⟩ := gd_ok hf
                                                    refine GL.sld C hX hbl hbo c209 dL_law_1419 ?_
                                                    refine GL.aload_n C 3 dL_law_1420 rfl rfl ?_
                                                    obtain ⟨q210, hq210, hf⟩ := bind_some hf
                                                    try dsimp only at hf
                                                    refine GL.callW C TT hN (st := []) (cw_meeting hq210) m9_846 m9_847 m9_78 m9_848 kdL_meeting ⟨Nat.le_of_ble_eq_true rfl, Nat.le_of_ble_eq_true rfl⟩ (by omega) (Nat.le_of_ble_eq_true rfl) rfl dL_law_1421 ?_
                                                    refine GL.istore (lv' := [(5, .int (q210.1)), (0, .ref (b9)), (1, .ref (x1)), (2, .ref (x2)), (3, .ref (o9)), (4, .int (x4))]) C dL_law_1424 (by decide) rfl ?_
                                                    refine GL.aload_n C 3 dL_law_1426 rfl rfl ?_
                                                    refine GL.aload_n C 1 dL_law_1427 rfl rfl ?_
                                                    refine GL.iload C 5 dL_law_1428 rfl ?_
                                                    refine GL.iconst (v := 1) C dL_law_1430 (by decide) ?_
                                                    refine GL.iadd C dL_law_1431 ?_
                                                    obtain ⟨c211, hf⟩ := gd_ok hf
                                                    refine GL.sld C hX hbl hbo c211 dL_law_1432 ?_
                                                    refine GL.aload_n C 1 dL_law_1433 rfl rfl ?_
                                                    refine GL.iload C 5 dL_law_1434 rfl ?_
                                                    refine GL.iconst (v := 2) C dL_law_1436 (by decide) ?_
                                                    refine GL.iadd C dL_law_1437 ?_
                                                    obtain ⟨c212, hf⟩ := gd_ok hf
                                                    refine GL.sld C hX hbl hbo c212 dL_law_1438 ?_
                                                    refine GL.aload_n C 1 dL_law_1439 rfl rfl ?_
                                                    refine GL.iload C 5 dL_law_1440 rfl ?_
                                                    refine GL.iconst (v := 3) C dL_law_1442 (by decide) ?_
                                                    refine GL.iadd C dL_law_1443 ?_
                                                    obtain ⟨c213, hf⟩ := gd_ok hf
                                                    refine GL.sld C hX hbl hbo c213 dL_law_1444 ?_
                                                    refine GL.aload_n C 1 dL_law_1445 rfl rfl ?_
                                                    refine GL.iload C 5 dL_law_1446 rfl ?_
                                                    refine GL.iconst (v := 4) C dL_law_1448 (by decide) ?_
                                                    refine GL.iadd C dL_law_1449 ?_
                                                    obtain ⟨c214, hf⟩ := gd_ok hf
                                                    refine GL.sld C hX hbl hbo c214 dL_law_1450 ?_
                                                    obtain ⟨q215, hq215, hf⟩ := bind_some hf
                                                    try dsimp only at hf
                                                    refine GL.callV C (st := []) (st2 := [.int (q215.1)]) (ct_X6_meeting hq215) (ko_X6_meeting hq215) rfl m9_857 m9_858 m9_859 m9_5 m9_860 kd_X6_meeting ⟨Nat.le_of_ble_eq_true rfl, Nat.le_of_ble_eq_true rfl⟩ (by omega) (Nat.le_of_ble_eq_true rfl) rfl rfl dL_law_1451 ?_
                                                    refine GL.istore (lv' := [(6, .int (q215.1)), (5, .int (q210.1)), (0, .ref (b9)), (1, .ref (x1)), (2, .ref (x2)), (3, .ref (o9)), (4, .int (x4))]) C dL_law_1454 (by decide) rfl ?_
                                                    refine GL.aload_n C 4 dL_law_1456 rfl rfl ?_
                                                    obtain ⟨q216, hq216, hf⟩ := bind_some hf
                                                    try dsimp only at hf
                                                    refine GL.callV C (st := []) (st2 := [.int (q216)]) (ct_X6_thrown hq216) (ko_X6_thrown hq216) rfl m9_172 m9_173 m9_174 m9_5 m9_175 kd_X6_thrown ⟨Nat.le_of_ble_eq_true rfl, Nat.le_of_ble_eq_true rfl⟩ (by omega) (Nat.le_of_ble_eq_true rfl) rfl rfl dL_law_1457 ?_
                                                    refine GL.iload C 1 dL_law_1460 rfl ?_
                                                    refine GL.icmp_eq (tgt := 1467) C dL_law_1462 (by decide) hf (fun c219 hf => ?_) (fun c219 hf => ?_)
                                                    · refine GL.iload C 1 dL_law_1467 rfl ?_
                                                      refine GL.if_ne (tgt := 1484) C dL_law_1469 (by decide) hf (fun c218 hf => ?_) (fun c218 hf => ?_)
                                                      · refine GL.mono (c2 := cb + 1) (by omega) ?_
                                                        refine GL.sub C [2, 5, 3, 4, 6] (lv' := [(0, .ref (b9)), (3, .ref (o9)), (1, .ref (x1)), (2, .ref (x2)), (4, .int (x4))]) rfl ?_
                                                        exact hj1484 _ _ hf
                                                      · refine GL.aload_n C 5 dL_law_1472 rfl rfl ?_
                                                        refine GL.iconst (v := 0) C dL_law_1473 (by decide) ?_
                                                        refine GL.lld C dL_law_1474 ?_
                                                        refine GL.iload C 0 dL_law_1475 rfl ?_
                                                        refine GL.i2l C dL_law_1477 ?_
                                                        refine GL.lcmp C dL_law_1478 ?_
                                                        refine GL.if_eq (tgt := 1484) C dL_law_1479 (by decide) hf (fun c217 hf => ?_) (fun c217 hf => ?_)
                                                        · refine GL.mono (c2 := cb + 1) (by omega) ?_
                                                          refine GL.sub C [2, 5, 3, 4, 6] (lv' := [(0, .ref (b9)), (3, .ref (o9)), (1, .ref (x1)), (2, .ref (x2)), (4, .int (x4))]) rfl ?_
                                                          exact hj1484 _ _ hf
                                                        · cases hf
                                                    · cases hf
                                                  · rw [if_neg c205] at hf
                                                    by_cases c220 : ((xs (x4).toNatClampNeg) &&& (31 : Int32)) = 23
                                                    · rw [if_pos c220] at hf
                                                      refine GL.tswIn (tgt := 1487) (off := 1448) C c220 dL_law_39 (by decide) (by decide) rfl (by decide) ?_
                                                      refine GL.aload_n C 1 dL_law_1487 rfl rfl ?_
                                                      refine GL.aload_n C 0 dL_law_1488 rfl rfl ?_
                                                      refine GL.iload C 4 dL_law_1489 rfl ?_
                                                      refine GL.iconst (v := 1) C dL_law_1491 (by decide) ?_
                                                      refine GL.iadd C dL_law_1492 ?_
                                                      obtain ⟨c221, hf⟩ := gd_ok hf
                                                      refine GL.sld C hX hbl hbo c221 dL_law_1493 ?_
                                                      refine GL.aload_n C 0 dL_law_1494 rfl rfl ?_
                                                      refine GL.iload C 4 dL_law_1495 rfl ?_
                                                      refine GL.iconst (v := 2) C dL_law_1497 (by decide) ?_
                                                      refine GL.iadd C dL_law_1498 ?_
                                                      obtain ⟨c222, hf⟩ := gd_ok hf
                                                      refine GL.sld C hX hbl hbo c222 dL_law_1499 ?_
                                                      refine GL.aload_n C 0 dL_law_1500 rfl rfl ?_
                                                      refine GL.iload C 4 dL_law_1501 rfl ?_
                                                      refine GL.iconst (v := 3) C dL_law_1503 (by decide) ?_
                                                      refine GL.iadd C dL_law_1504 ?_
                                                      obtain ⟨c223, hf⟩ := gd_ok hf
                                                      refine GL.sld C hX hbl hbo c223 dL_law_1505 ?_
                                                      refine GL.aload_n C 0 dL_law_1506 rfl rfl ?_
                                                      refine GL.iload C 4 dL_law_1507 rfl ?_
                                                      refine GL.iconst (v := 4) C dL_law_1509 (by decide) ?_
                                                      refine GL.iadd C dL_law_1510 ?_
                                                      obtain ⟨c224, hf⟩ := gd_ok hf
                                                      refine GL.sld C hX hbl hbo c224 dL_law_1511 ?_
                                                      refine GL.aload_n C 3 dL_law_1512 rfl rfl ?_
                                                      obtain ⟨q225, hq225, hf⟩ := bind_some hf
                                                      try dsimp only at hf
                                                      refine GL.callW C TT hN (st := []) (cw_walked hq225) m9_869 m9_870 m9_78 m9_871 kdL_walked ⟨Nat.le_of_ble_eq_true rfl, Nat.le_of_ble_eq_true rfl⟩ (by omega) (Nat.le_of_ble_eq_true rfl) rfl dL_law_1513 ?_
                                                      refine GL.istore (lv' := [(5, .int (q225.1)), (0, .ref (b9)), (1, .ref (x1)), (2, .ref (x2)), (3, .ref (o9)), (4, .int (x4))]) C dL_law_1516 (by decide) rfl ?_
                                                      refine GL.aload_n C 3 dL_law_1518 rfl rfl ?_
                                                      refine GL.aload_n C 1 dL_law_1519 rfl rfl ?_
                                                      refine GL.iload C 5 dL_law_1520 rfl ?_
                                                      refine GL.iconst (v := 1) C dL_law_1522 (by decide) ?_
                                                      refine GL.iadd C dL_law_1523 ?_
                                                      obtain ⟨c226, hf⟩ := gd_ok hf
                                                      refine GL.sld C hX hbl hbo c226 dL_law_1524 ?_
                                                      refine GL.aload_n C 1 dL_law_1525 rfl rfl ?_
                                                      refine GL.iload C 5 dL_law_1526 rfl ?_
                                                      refine GL.iconst (v := 2) C dL_law_1528 (by decide) ?_
                                                      refine GL.iadd C dL_law_1529 ?_
                                                      obtain ⟨c227, hf⟩ := gd_ok hf
                                                      refine GL.sld C hX hbl hbo c227 dL_law_1530 ?_
                                                      refine GL.aload_n C 1 dL_law_1531 rfl rfl ?_
                                                      refine GL.iload C 5 dL_law_1532 rfl ?_
                                                      refine GL.iconst (v := 3) C dL_law_1534 (by decide) ?_
                                                      refine GL.iadd C dL_law_1535 ?_
                                                      obtain ⟨c228, hf⟩ := gd_ok hf
                                                      refine GL.sld C hX hbl hbo c228 dL_law_1536 ?_
                                                      refine GL.aload_n C 1 dL_law_1537 rfl rfl ?_
                                                      refine GL.iload C 5 dL_law_1538 rfl ?_
                                                      refine GL.iconst (v := 4) C dL_law_1540 (by decide) ?_
                                                      refine GL.iadd C dL_law_1541 ?_
                                                      obtain ⟨c229, hf⟩ := gd_ok hf
                                                      refine GL.sld C hX hbl hbo c229 dL_law_1542 ?_
                                                      obtain ⟨q230, hq230, hf⟩ := bind_some hf
                                                      try dsimp only at hf
                                                      refine GL.callV C (st := []) (st2 := [.int (q230.1)]) (ct_X6_walked hq230) (ko_X6_walked hq230) rfl m9_879 m9_880 m9_881 m9_5 m9_882 kd_X6_walked ⟨Nat.le_of_ble_eq_true rfl, Nat.le_of_ble_eq_true rfl⟩ (by omega) (Nat.le_of_ble_eq_true rfl) rfl rfl dL_law_1543 ?_
                                                      refine GL.istore (lv' := [(6, .int (q230.1)), (5, .int (q225.1)), (0, .ref (b9)), (1, .ref (x1)), (2, .ref (x2)), (3, .ref (o9)), (4, .int (x4))]) C dL_law_1546 (by decide) rfl ?_
                                                      refine GL.aload_n C 4 dL_law_1548 rfl rfl ?_
                                                      obtain ⟨q231, hq231, hf⟩ := bind_some hf
                                                      try dsimp only at hf
                                                      refine GL.callV C (st := []) (st2 := [.int (q231)]) (ct_X6_thrown hq231) (ko_X6_thrown hq231) rfl m9_172 m9_173 m9_174 m9_5 m9_175 kd_X6_thrown ⟨Nat.le_of_ble_eq_true rfl, Nat.le_of_ble_eq_true rfl⟩ (by omega) (Nat.le_of_ble_eq_true rfl) rfl rfl dL_law_1549 ?_
                                                      refine GL.iload C 1 dL_law_1552 rfl ?_
                                                      refine GL.icmp_eq (tgt := 1559) C dL_law_1554 (by decide) hf (fun c234 hf => ?_) (fun c234 hf => ?_)
                                                      · refine GL.iload C 1 dL_law_1559 rfl ?_
                                                        refine GL.if_ne (tgt := 1576) C dL_law_1561 (by decide) hf (fun c233 hf => ?_) (fun c233 hf => ?_)
                                                        · refine GL.mono (c2 := cb + 1) (by omega) ?_
                                                          refine GL.sub C [2, 5, 3, 4, 6] (lv' := [(0, .ref (b9)), (3, .ref (o9)), (1, .ref (x1)), (2, .ref (x2)), (4, .int (x4))]) rfl ?_
                                                          exact hj1576 _ _ hf
                                                        · refine GL.aload_n C 5 dL_law_1564 rfl rfl ?_
                                                          refine GL.iconst (v := 0) C dL_law_1565 (by decide) ?_
                                                          refine GL.lld C dL_law_1566 ?_
                                                          refine GL.iload C 0 dL_law_1567 rfl ?_
                                                          refine GL.i2l C dL_law_1569 ?_
                                                          refine GL.lcmp C dL_law_1570 ?_
                                                          refine GL.if_eq (tgt := 1576) C dL_law_1571 (by decide) hf (fun c232 hf => ?_) (fun c232 hf => ?_)
                                                          · refine GL.mono (c2 := cb + 1) (by omega) ?_
                                                            refine GL.sub C [2, 5, 3, 4, 6] (lv' := [(0, .ref (b9)), (3, .ref (o9)), (1, .ref (x1)), (2, .ref (x2)), (4, .int (x4))]) rfl ?_
                                                            exact hj1576 _ _ hf
                                                          · cases hf
                                                      · cases hf
                                                    · rw [if_neg c220] at hf
                                                      by_cases c235 : ((xs (x4).toNatClampNeg) &&& (31 : Int32)) = 24
                                                      · rw [if_pos c235] at hf
                                                        refine GL.tswIn (tgt := 1579) (off := 1540) C c235 dL_law_39 (by decide) (by decide) rfl (by decide) ?_
                                                        refine GL.aload_n C 1 dL_law_1579 rfl rfl ?_
                                                        refine GL.aload_n C 0 dL_law_1580 rfl rfl ?_
                                                        refine GL.iload C 4 dL_law_1581 rfl ?_
                                                        refine GL.iconst (v := 1) C dL_law_1583 (by decide) ?_
                                                        refine GL.iadd C dL_law_1584 ?_
                                                        obtain ⟨c236, hf⟩ := gd_ok hf
                                                        refine GL.sld C hX hbl hbo c236 dL_law_1585 ?_
                                                        refine GL.aload_n C 0 dL_law_1586 rfl rfl ?_
                                                        refine GL.iload C 4 dL_law_1587 rfl ?_
                                                        refine GL.iconst (v := 2) C dL_law_1589 (by decide) ?_
                                                        refine GL.iadd C dL_law_1590 ?_
                                                        obtain ⟨c237, hf⟩ := gd_ok hf
                                                        refine GL.sld C hX hbl hbo c237 dL_law_1591 ?_
                                                        refine GL.aload_n C 0 dL_law_1592 rfl rfl ?_
                                                        refine GL.iload C 4 dL_law_1593 rfl ?_
                                                        refine GL.iconst (v := 3) C dL_law_1595 (by decide) ?_
                                                        refine GL.iadd C dL_law_1596 ?_
                                                        obtain ⟨c238, hf⟩ := gd_ok hf
                                                        refine GL.sld C hX hbl hbo c238 dL_law_1597 ?_
                                                        refine GL.aload_n C 3 dL_law_1598 rfl rfl ?_
                                                        obtain ⟨q239, hq239, hf⟩ := bind_some hf
                                                        try dsimp only at hf
                                                        refine GL.callW C TT hN (st := []) (cw_phases hq239) m9_883 m9_884 m9_78 m9_885 kdL_phases ⟨Nat.le_of_ble_eq_true rfl, Nat.le_of_ble_eq_true rfl⟩ (by omega) (Nat.le_of_ble_eq_true rfl) rfl dL_law_1599 ?_
                                                        refine GL.istore (lv' := [(5, .int (q239.1)), (0, .ref (b9)), (1, .ref (x1)), (2, .ref (x2)), (3, .ref (o9)), (4, .int (x4))]) C dL_law_1602 (by decide) rfl ?_
                                                        refine GL.aload_n C 3 dL_law_1604 rfl rfl ?_
                                                        refine GL.aload_n C 1 dL_law_1605 rfl rfl ?_
                                                        refine GL.iload C 5 dL_law_1606 rfl ?_
                                                        refine GL.iconst (v := 1) C dL_law_1608 (by decide) ?_
                                                        refine GL.iadd C dL_law_1609 ?_
                                                        obtain ⟨c240, hf⟩ := gd_ok hf
                                                        refine GL.sld C hX hbl hbo c240 dL_law_1610 ?_
                                                        refine GL.aload_n C 1 dL_law_1611 rfl rfl ?_
                                                        refine GL.iload C 5 dL_law_1612 rfl ?_
                                                        refine GL.iconst (v := 2) C dL_law_1614 (by decide) ?_
                                                        refine GL.iadd C dL_law_1615 ?_
                                                        obtain ⟨c241, hf⟩ := gd_ok hf
                                                        refine GL.sld C hX hbl hbo c241 dL_law_1616 ?_
                                                        refine GL.aload_n C 1 dL_law_1617 rfl rfl ?_
                                                        refine GL.iload C 5 dL_law_1618 rfl ?_
                                                        refine GL.iconst (v := 3) C dL_law_1620 (by decide) ?_
                                                        refine GL.iadd C dL_law_1621 ?_
                                                        obtain ⟨c242, hf⟩ := gd_ok hf
                                                        refine GL.sld C hX hbl hbo c242 dL_law_1622 ?_
                                                        obtain ⟨q243, hq243, hf⟩ := bind_some hf
                                                        try dsimp only at hf
                                                        refine GL.callV C (st := []) (st2 := [.int (q243.1)]) (ct_X6_phases hq243) (ko_X6_phases hq243) rfl m9_911 m9_912 m9_913 m9_5 m9_914 kd_X6_phases ⟨Nat.le_of_ble_eq_true rfl, Nat.le_of_ble_eq_true rfl⟩ (by omega) (Nat.le_of_ble_eq_true rfl) rfl rfl dL_law_1623 ?_
                                                        refine GL.istore (lv' := [(6, .int (q243.1)), (5, .int (q239.1)), (0, .ref (b9)), (1, .ref (x1)), (2, .ref (x2)), (3, .ref (o9)), (4, .int (x4))]) C dL_law_1626 (by decide) rfl ?_
                                                        refine GL.aload_n C 4 dL_law_1628 rfl rfl ?_
                                                        obtain ⟨q244, hq244, hf⟩ := bind_some hf
                                                        try dsimp only at hf
                                                        refine GL.callV C (st := []) (st2 := [.int (q244)]) (ct_X6_thrown hq244) (ko_X6_thrown hq244) rfl m9_172 m9_173 m9_174 m9_5 m9_175 kd_X6_thrown ⟨Nat.le_of_ble_eq_true rfl, Nat.le_of_ble_eq_true rfl⟩ (by omega) (Nat.le_of_ble_eq_true rfl) rfl rfl dL_law_1629 ?_
                                                        refine GL.iload C 1 dL_law_1632 rfl ?_
                                                        refine GL.icmp_eq (tgt := 1639) C dL_law_1634 (by decide) hf (fun c247 hf => ?_) (fun c247 hf => ?_)
                                                        · refine GL.iload C 1 dL_law_1639 rfl ?_
                                                          refine GL.if_ne (tgt := 1656) C dL_law_1641 (by decide) hf (fun c246 hf => ?_) (fun c246 hf => ?_)
                                                          · refine GL.mono (c2 := cb + 1) (by omega) ?_
                                                            refine GL.sub C [2, 5, 3, 4, 6] (lv' := [(0, .ref (b9)), (3, .ref (o9)), (1, .ref (x1)), (2, .ref (x2)), (4, .int (x4))]) rfl ?_
                                                            exact hj1656 _ _ hf
                                                          · refine GL.aload_n C 5 dL_law_1644 rfl rfl ?_
                                                            refine GL.iconst (v := 0) C dL_law_1645 (by decide) ?_
                                                            refine GL.lld C dL_law_1646 ?_
                                                            refine GL.iload C 0 dL_law_1647 rfl ?_
                                                            refine GL.i2l C dL_law_1649 ?_
                                                            refine GL.lcmp C dL_law_1650 ?_
                                                            refine GL.if_eq (tgt := 1656) C dL_law_1651 (by decide) hf (fun c245 hf => ?_) (fun c245 hf => ?_)
                                                            · refine GL.mono (c2 := cb + 1) (by omega) ?_
                                                              refine GL.sub C [2, 5, 3, 4, 6] (lv' := [(0, .ref (b9)), (3, .ref (o9)), (1, .ref (x1)), (2, .ref (x2)), (4, .int (x4))]) rfl ?_
                                                              exact hj1656 _ _ hf
                                                            · cases hf
                                                        · cases hf
                                                      · rw [if_neg c235] at hf
                                                        by_cases c248 : ((xs (x4).toNatClampNeg) &&& (31 : Int32)) = 25
                                                        · rw [if_pos c248] at hf
                                                          refine GL.tswIn (tgt := 1659) (off := 1620) C c248 dL_law_39 (by decide) (by decide) rfl (by decide) ?_
                                                          refine GL.aload_n C 1 dL_law_1659 rfl rfl ?_
                                                          refine GL.aload_n C 0 dL_law_1660 rfl rfl ?_
                                                          refine GL.iload C 4 dL_law_1661 rfl ?_
                                                          refine GL.iconst (v := 1) C dL_law_1663 (by decide) ?_
                                                          refine GL.iadd C dL_law_1664 ?_
                                                          obtain ⟨c249, hf⟩ := gd_ok hf
                                                          refine GL.sld C hX hbl hbo c249 dL_law_1665 ?_
                                                          refine GL.aload_n C 3 dL_law_1666 rfl rfl ?_
                                                          obtain ⟨q250, hq250, hf⟩ := bind_some hf
                                                          try dsimp only at hf
                                                          refine GL.callW C TT hN (st := []) (cw_bestHue hq250) m9_923 m9_924 m9_78 m9_925 kdL_bestHue ⟨Nat.le_of_ble_eq_true rfl, Nat.le_of_ble_eq_true rfl⟩ (by omega) (Nat.le_of_ble_eq_true rfl) rfl dL_law_1667 ?_
                                                          refine GL.istore (lv' := [(5, .int (q250.1)), (0, .ref (b9)), (1, .ref (x1)), (2, .ref (x2)), (3, .ref (o9)), (4, .int (x4))]) C dL_law_1670 (by decide) rfl ?_
                                                          refine GL.aload_n C 3 dL_law_1672 rfl rfl ?_
                                                          refine GL.aload_n C 1 dL_law_1673 rfl rfl ?_
                                                          refine GL.iload C 5 dL_law_1674 rfl ?_
                                                          refine GL.iconst (v := 1) C dL_law_1676 (by decide) ?_
                                                          refine GL.iadd C dL_law_1677 ?_
                                                          obtain ⟨c251, hf⟩ := gd_ok hf
                                                          refine GL.sld C hX hbl hbo c251 dL_law_1678 ?_
                                                          obtain ⟨q252, hq252, hf⟩ := bind_some hf
                                                          try dsimp only at hf
                                                          refine GL.callV C (st := []) (st2 := [.int (q252.1)]) (ct_X6_bestHue hq252) (ko_X6_bestHue hq252) rfl m9_936 m9_937 m9_938 m9_5 m9_939 kd_X6_bestHue ⟨Nat.le_of_ble_eq_true rfl, Nat.le_of_ble_eq_true rfl⟩ (by omega) (Nat.le_of_ble_eq_true rfl) rfl rfl dL_law_1679 ?_
                                                          refine GL.istore (lv' := [(6, .int (q252.1)), (5, .int (q250.1)), (0, .ref (b9)), (1, .ref (x1)), (2, .ref (x2)), (3, .ref (o9)), (4, .int (x4))]) C dL_law_1682 (by decide) rfl ?_
                                                          refine GL.aload_n C 4 dL_law_1684 rfl rfl ?_
                                                          obtain ⟨q253, hq253, hf⟩ := bind_some hf
                                                          try dsimp only at hf
                                                          refine GL.callV C (st := []) (st2 := [.int (q253)]) (ct_X6_thrown hq253) (ko_X6_thrown hq253) rfl m9_172 m9_173 m9_174 m9_5 m9_175 kd_X6_thrown ⟨Nat.le_of_ble_eq_true rfl, Nat.le_of_ble_eq_true rfl⟩ (by omega) (Nat.le_of_ble_eq_true rfl) rfl rfl dL_law_1685 ?_
                                                          refine GL.iload C 1 dL_law_1688 rfl ?_
                                                          refine GL.icmp_eq (tgt := 1695) C dL_law_1690 (by decide) hf (fun c256 hf => ?_) (fun c256 hf => ?_)
                                                          · refine GL.iload C 1 dL_law_1695 rfl ?_
                                                            refine GL.if_ne (tgt := 1712) C dL_law_1697 (by decide) hf (fun c255 hf => ?_) (fun c255 hf => ?_)
                                                            · refine GL.mono (c2 := cb + 1) (by omega) ?_
                                                              refine GL.sub C [2, 5, 3, 4, 6] (lv' := [(0, .ref (b9)), (3, .ref (o9)), (1, .ref (x1)), (2, .ref (x2)), (4, .int (x4))]) rfl ?_
                                                              exact hj1712 _ _ hf
                                                            · refine GL.aload_n C 5 dL_law_1700 rfl rfl ?_
                                                              refine GL.iconst (v := 0) C dL_law_1701 (by decide) ?_
                                                              refine GL.lld C dL_law_1702 ?_
                                                              refine GL.iload C 0 dL_law_1703 rfl ?_
                                                              refine GL.i2l C dL_law_1705 ?_
                                                              refine GL.lcmp C dL_law_1706 ?_
                                                              refine GL.if_eq (tgt := 1712) C dL_law_1707 (by decide) hf (fun c254 hf => ?_) (fun c254 hf => ?_)
                                                              · refine GL.mono (c2 := cb + 1) (by omega) ?_
                                                                refine GL.sub C [2, 5, 3, 4, 6] (lv' := [(0, .ref (b9)), (3, .ref (o9)), (1, .ref (x1)), (2, .ref (x2)), (4, .int (x4))]) rfl ?_
                                                                exact hj1712 _ _ hf
                                                              · cases hf
                                                          · cases hf
                                                        · rw [if_neg c248] at hf
                                                          by_cases c257 : ((xs (x4).toNatClampNeg) &&& (31 : Int32)) = 26
                                                          · rw [if_pos c257] at hf
                                                            refine GL.tswIn (tgt := 1715) (off := 1676) C c257 dL_law_39 (by decide) (by decide) rfl (by decide) ?_
                                                            refine GL.aload_n C 1 dL_law_1715 rfl rfl ?_
                                                            refine GL.aload_n C 0 dL_law_1716 rfl rfl ?_
                                                            refine GL.iload C 4 dL_law_1717 rfl ?_
                                                            refine GL.iconst (v := 1) C dL_law_1719 (by decide) ?_
                                                            refine GL.iadd C dL_law_1720 ?_
                                                            obtain ⟨c258, hf⟩ := gd_ok hf
                                                            refine GL.sld C hX hbl hbo c258 dL_law_1721 ?_
                                                            refine GL.aload_n C 0 dL_law_1722 rfl rfl ?_
                                                            refine GL.iload C 4 dL_law_1723 rfl ?_
                                                            refine GL.iconst (v := 2) C dL_law_1725 (by decide) ?_
                                                            refine GL.iadd C dL_law_1726 ?_
                                                            obtain ⟨c259, hf⟩ := gd_ok hf
                                                            refine GL.sld C hX hbl hbo c259 dL_law_1727 ?_
                                                            refine GL.aload_n C 3 dL_law_1728 rfl rfl ?_
                                                            obtain ⟨q260, hq260, hf⟩ := bind_some hf
                                                            try dsimp only at hf
                                                            refine GL.callW C TT hN (st := []) (cw_joining hq260) m9_944 m9_945 m9_78 m9_946 kdL_joining ⟨Nat.le_of_ble_eq_true rfl, Nat.le_of_ble_eq_true rfl⟩ (by omega) (Nat.le_of_ble_eq_true rfl) rfl dL_law_1729 ?_
                                                            refine GL.istore (lv' := [(5, .int (q260.1)), (0, .ref (b9)), (1, .ref (x1)), (2, .ref (x2)), (3, .ref (o9)), (4, .int (x4))]) C dL_law_1732 (by decide) rfl ?_
                                                            refine GL.aload_n C 3 dL_law_1734 rfl rfl ?_
                                                            refine GL.aload_n C 1 dL_law_1735 rfl rfl ?_
                                                            refine GL.iload C 5 dL_law_1736 rfl ?_
                                                            refine GL.iconst (v := 1) C dL_law_1738 (by decide) ?_
                                                            refine GL.iadd C dL_law_1739 ?_
                                                            obtain ⟨c261, hf⟩ := gd_ok hf
                                                            refine GL.sld C hX hbl hbo c261 dL_law_1740 ?_
                                                            refine GL.aload_n C 1 dL_law_1741 rfl rfl ?_
                                                            refine GL.iload C 5 dL_law_1742 rfl ?_
                                                            refine GL.iconst (v := 2) C dL_law_1744 (by decide) ?_
                                                            refine GL.iadd C dL_law_1745 ?_
                                                            obtain ⟨c262, hf⟩ := gd_ok hf
                                                            refine GL.sld C hX hbl hbo c262 dL_law_1746 ?_
                                                            obtain ⟨q263, hq263, hf⟩ := bind_some hf
                                                            try dsimp only at hf
                                                            refine GL.callV C (st := []) (st2 := [.int (q263.1)]) (ct_X6_joining hq263) (ko_X6_joining hq263) rfl m9_951 m9_952 m9_953 m9_5 m9_954 kd_X6_joining ⟨Nat.le_of_ble_eq_true rfl, Nat.le_of_ble_eq_true rfl⟩ (by omega) (Nat.le_of_ble_eq_true rfl) rfl rfl dL_law_1747 ?_
                                                            refine GL.istore (lv' := [(6, .int (q263.1)), (5, .int (q260.1)), (0, .ref (b9)), (1, .ref (x1)), (2, .ref (x2)), (3, .ref (o9)), (4, .int (x4))]) C dL_law_1750 (by decide) rfl ?_
                                                            refine GL.aload_n C 4 dL_law_1752 rfl rfl ?_
                                                            obtain ⟨q264, hq264, hf⟩ := bind_some hf
                                                            try dsimp only at hf
                                                            refine GL.callV C (st := []) (st2 := [.int (q264)]) (ct_X6_thrown hq264) (ko_X6_thrown hq264) rfl m9_172 m9_173 m9_174 m9_5 m9_175 kd_X6_thrown ⟨Nat.le_of_ble_eq_true rfl, Nat.le_of_ble_eq_true rfl⟩ (by omega) (Nat.le_of_ble_eq_true rfl) rfl rfl dL_law_1753 ?_
                                                            refine GL.iload C 1 dL_law_1756 rfl ?_
                                                            refine GL.icmp_eq (tgt := 1763) C dL_law_1758 (by decide) hf (fun c267 hf => ?_) (fun c267 hf => ?_)
                                                            · refine GL.iload C 1 dL_law_1763 rfl ?_
                                                              refine GL.if_ne (tgt := 1780) C dL_law_1765 (by decide) hf (fun c266 hf => ?_) (fun c266 hf => ?_)
                                                              · refine GL.mono (c2 := cb + 1) (by omega) ?_
                                                                refine GL.sub C [2, 5, 3, 4, 6] (lv' := [(0, .ref (b9)), (3, .ref (o9)), (1, .ref (x1)), (2, .ref (x2)), (4, .int (x4))]) rfl ?_
                                                                exact hj1780 _ _ hf
                                                              · refine GL.aload_n C 5 dL_law_1768 rfl rfl ?_
                                                                refine GL.iconst (v := 0) C dL_law_1769 (by decide) ?_
                                                                refine GL.lld C dL_law_1770 ?_
                                                                refine GL.iload C 0 dL_law_1771 rfl ?_
                                                                refine GL.i2l C dL_law_1773 ?_
                                                                refine GL.lcmp C dL_law_1774 ?_
                                                                refine GL.if_eq (tgt := 1780) C dL_law_1775 (by decide) hf (fun c265 hf => ?_) (fun c265 hf => ?_)
                                                                · refine GL.mono (c2 := cb + 1) (by omega) ?_
                                                                  refine GL.sub C [2, 5, 3, 4, 6] (lv' := [(0, .ref (b9)), (3, .ref (o9)), (1, .ref (x1)), (2, .ref (x2)), (4, .int (x4))]) rfl ?_
                                                                  exact hj1780 _ _ hf
                                                                · cases hf
                                                            · cases hf
                                                          · rw [if_neg c257] at hf
                                                            by_cases c268 : ((xs (x4).toNatClampNeg) &&& (31 : Int32)) = 27
                                                            · rw [if_pos c268] at hf
                                                              refine GL.tswIn (tgt := 1783) (off := 1744) C c268 dL_law_39 (by decide) (by decide) rfl (by decide) ?_
                                                              refine GL.aload_n C 1 dL_law_1783 rfl rfl ?_
                                                              refine GL.aload_n C 0 dL_law_1784 rfl rfl ?_
                                                              refine GL.iload C 4 dL_law_1785 rfl ?_
                                                              refine GL.iconst (v := 1) C dL_law_1787 (by decide) ?_
                                                              refine GL.iadd C dL_law_1788 ?_
                                                              obtain ⟨c269, hf⟩ := gd_ok hf
                                                              refine GL.sld C hX hbl hbo c269 dL_law_1789 ?_
                                                              refine GL.aload_n C 3 dL_law_1790 rfl rfl ?_
                                                              obtain ⟨q270, hq270, hf⟩ := bind_some hf
                                                              try dsimp only at hf
                                                              refine GL.callW C TT hN (st := []) (cw_greatest hq270) m9_955 m9_956 m9_78 m9_957 kdL_greatest ⟨Nat.le_of_ble_eq_true rfl, Nat.le_of_ble_eq_true rfl⟩ (by omega) (Nat.le_of_ble_eq_true rfl) rfl dL_law_1791 ?_
                                                              refine GL.istore (lv' := [(5, .int (q270.1)), (0, .ref (b9)), (1, .ref (x1)), (2, .ref (x2)), (3, .ref (o9)), (4, .int (x4))]) C dL_law_1794 (by decide) rfl ?_
                                                              refine GL.aload_n C 3 dL_law_1796 rfl rfl ?_
                                                              refine GL.aload_n C 1 dL_law_1797 rfl rfl ?_
                                                              refine GL.iload C 5 dL_law_1798 rfl ?_
                                                              refine GL.iconst (v := 1) C dL_law_1800 (by decide) ?_
                                                              refine GL.iadd C dL_law_1801 ?_
                                                              obtain ⟨c271, hf⟩ := gd_ok hf
                                                              refine GL.sld C hX hbl hbo c271 dL_law_1802 ?_
                                                              obtain ⟨q272, hq272, hf⟩ := bind_some hf
                                                              try dsimp only at hf
                                                              refine GL.callV C (st := []) (st2 := [.int (q272.1)]) (ct_X6_greatest hq272) (ko_X6_greatest hq272) rfl m9_962 m9_963 m9_964 m9_5 m9_965 kd_X6_greatest ⟨Nat.le_of_ble_eq_true rfl, Nat.le_of_ble_eq_true rfl⟩ (by omega) (Nat.le_of_ble_eq_true rfl) rfl rfl dL_law_1803 ?_
                                                              refine GL.istore (lv' := [(6, .int (q272.1)), (5, .int (q270.1)), (0, .ref (b9)), (1, .ref (x1)), (2, .ref (x2)), (3, .ref (o9)), (4, .int (x4))]) C dL_law_1806 (by decide) rfl ?_
                                                              refine GL.aload_n C 4 dL_law_1808 rfl rfl ?_
                                                              obtain ⟨q273, hq273, hf⟩ := bind_some hf
                                                              try dsimp only at hf
                                                              refine GL.callV C (st := []) (st2 := [.int (q273)]) (ct_X6_thrown hq273) (ko_X6_thrown hq273) rfl m9_172 m9_173 m9_174 m9_5 m9_175 kd_X6_thrown ⟨Nat.le_of_ble_eq_true rfl, Nat.le_of_ble_eq_true rfl⟩ (by omega) (Nat.le_of_ble_eq_true rfl) rfl rfl dL_law_1809 ?_
                                                              refine GL.iload C 1 dL_law_1812 rfl ?_
                                                              refine GL.icmp_eq (tgt := 1819) C dL_law_1814 (by decide) hf (fun c276 hf => ?_) (fun c276 hf => ?_)
                                                              · refine GL.iload C 1 dL_law_1819 rfl ?_
                                                                refine GL.if_ne (tgt := 1836) C dL_law_1821 (by decide) hf (fun c275 hf => ?_) (fun c275 hf => ?_)
                                                                · refine GL.mono (c2 := cb + 1) (by omega) ?_
                                                                  refine GL.sub C [2, 5, 3, 4, 6] (lv' := [(0, .ref (b9)), (3, .ref (o9)), (1, .ref (x1)), (2, .ref (x2)), (4, .int (x4))]) rfl ?_
                                                                  exact hj1836 _ _ hf
                                                                · refine GL.aload_n C 5 dL_law_1824 rfl rfl ?_
                                                                  refine GL.iconst (v := 0) C dL_law_1825 (by decide) ?_
                                                                  refine GL.lld C dL_law_1826 ?_
                                                                  refine GL.iload C 0 dL_law_1827 rfl ?_
                                                                  refine GL.i2l C dL_law_1829 ?_
                                                                  refine GL.lcmp C dL_law_1830 ?_
                                                                  refine GL.if_eq (tgt := 1836) C dL_law_1831 (by decide) hf (fun c274 hf => ?_) (fun c274 hf => ?_)
                                                                  · refine GL.mono (c2 := cb + 1) (by omega) ?_
                                                                    refine GL.sub C [2, 5, 3, 4, 6] (lv' := [(0, .ref (b9)), (3, .ref (o9)), (1, .ref (x1)), (2, .ref (x2)), (4, .int (x4))]) rfl ?_
                                                                    exact hj1836 _ _ hf
                                                                  · cases hf
                                                              · cases hf
                                                            · rw [if_neg c268] at hf
                                                              by_cases c277 : ((xs (x4).toNatClampNeg) &&& (31 : Int32)) = 28
                                                              · rw [if_pos c277] at hf
                                                                refine GL.tswIn (tgt := 1839) (off := 1800) C c277 dL_law_39 (by decide) (by decide) rfl (by decide) ?_
                                                                refine GL.aload_n C 1 dL_law_1839 rfl rfl ?_
                                                                obtain ⟨q278, hq278, hf⟩ := bind_some hf
                                                                try dsimp only at hf
                                                                refine GL.callV C (st := []) (st2 := [.double (q278)]) (ct_X5_fullness hq278) (ko_X5_fullness hq278) rfl m9_966 m9_967 m9_968 m9_2 m9_969 kd_X5_fullness ⟨Nat.le_of_ble_eq_true rfl, Nat.le_of_ble_eq_true rfl⟩ (by omega) (Nat.le_of_ble_eq_true rfl) rfl rfl dL_law_1840 ?_
                                                                refine GL.dstore (lv' := [(5, .double (q278)), (0, .ref (b9)), (1, .ref (x1)), (2, .ref (x2)), (3, .ref (o9)), (4, .int (x4))]) C dL_law_1843 (by decide) rfl ?_
                                                                refine GL.aload_n C 3 dL_law_1845 rfl rfl ?_
                                                                obtain ⟨q279, hq279, hf⟩ := bind_some hf
                                                                try dsimp only at hf
                                                                refine GL.callV C (st := []) (st2 := [.double (q279.1)]) (ct_X6_fullness hq279) (ko_X6_fullness hq279) rfl m9_970 m9_971 m9_972 m9_5 m9_973 kd_X6_fullness ⟨Nat.le_of_ble_eq_true rfl, Nat.le_of_ble_eq_true rfl⟩ (by omega) (Nat.le_of_ble_eq_true rfl) rfl rfl dL_law_1846 ?_
                                                                refine GL.dstore (lv' := [(7, .double (q279.1)), (5, .double (q278)), (0, .ref (b9)), (1, .ref (x1)), (2, .ref (x2)), (3, .ref (o9)), (4, .int (x4))]) C dL_law_1849 (by decide) rfl ?_
                                                                refine GL.dload C 1 dL_law_1851 rfl ?_
                                                                refine GL.dload C 0 dL_law_1853 rfl ?_
                                                                refine GL.dcmp C dL_law_1855 ?_
                                                                refine GL.if_eq (tgt := 1877) C dL_law_1856 (by decide) hf (fun c282 hf => ?_) (fun c282 hf => ?_)
                                                                · refine GL.mono (c2 := cb + 1) (by omega) ?_
                                                                  refine GL.sub C [2, 5, 3, 4, 6] (lv' := [(0, .ref (b9)), (3, .ref (o9)), (1, .ref (x1)), (2, .ref (x2)), (4, .int (x4))]) rfl ?_
                                                                  exact hj1877 _ _ hf
                                                                · refine GL.dload C 1 dL_law_1859 rfl ?_
                                                                  refine GL.dload C 1 dL_law_1861 rfl ?_
                                                                  refine GL.dcmp C dL_law_1863 ?_
                                                                  refine GL.if_eq (tgt := 1875) C dL_law_1864 (by decide) hf (fun c281 hf => ?_) (fun c281 hf => ?_)
                                                                  · cases hf
                                                                  · refine GL.dload C 0 dL_law_1867 rfl ?_
                                                                    refine GL.dload C 0 dL_law_1869 rfl ?_
                                                                    refine GL.dcmp C dL_law_1871 ?_
                                                                    refine GL.if_ne (tgt := 1877) C dL_law_1872 (by decide) hf (fun c280 hf => ?_) (fun c280 hf => ?_)
                                                                    · refine GL.mono (c2 := cb + 1) (by omega) ?_
                                                                      refine GL.sub C [2, 5, 3, 4, 6] (lv' := [(0, .ref (b9)), (3, .ref (o9)), (1, .ref (x1)), (2, .ref (x2)), (4, .int (x4))]) rfl ?_
                                                                      exact hj1877 _ _ hf
                                                                    · cases hf
                                                              · rw [if_neg c277] at hf
                                                                by_cases c283 : ((xs (x4).toNatClampNeg) &&& (31 : Int32)) = 29
                                                                · rw [if_pos c283] at hf
                                                                  refine GL.tswIn (tgt := 1880) (off := 1841) C c283 dL_law_39 (by decide) (by decide) rfl (by decide) ?_
                                                                  refine GL.aload_n C 1 dL_law_1880 rfl rfl ?_
                                                                  obtain ⟨q284, hq284, hf⟩ := bind_some hf
                                                                  try dsimp only at hf
                                                                  refine GL.callV C (st := []) (st2 := [.long (q284.1)]) (ct_X5_digest hq284) (ko_X5_digest hq284) rfl m9_978 m9_979 m9_980 m9_2 m9_981 kd_X5_digest ⟨Nat.le_of_ble_eq_true rfl, Nat.le_of_ble_eq_true rfl⟩ (by omega) (Nat.le_of_ble_eq_true rfl) rfl rfl dL_law_1881 ?_
                                                                  refine GL.aload_n C 2 dL_law_1884 rfl rfl ?_
                                                                  obtain ⟨q285, hq285, hf⟩ := bind_some hf
                                                                  try dsimp only at hf
                                                                  refine GL.callV C (st := [.long (q284.1)]) (st2 := [.long (q285.1), .long (q284.1)]) (ct_X6_digest hq285) (ko_X6_digest hq285) rfl m9_1002 m9_1003 m9_1004 m9_5 m9_1005 kd_X6_digest ⟨Nat.le_of_ble_eq_true rfl, Nat.le_of_ble_eq_true rfl⟩ (by omega) (Nat.le_of_ble_eq_true rfl) rfl rfl dL_law_1885 ?_
                                                                  refine GL.lcmp C dL_law_1888 ?_
                                                                  refine GL.if_eq (tgt := 1894) C dL_law_1889 (by decide) hf (fun c286 hf => ?_) (fun c286 hf => ?_)
                                                                  · refine GL.mono (c2 := cb + 1) (by omega) ?_
                                                                    refine GL.sub C [0, 3, 1, 2, 4] (lv' := [(0, .ref (b9)), (3, .ref (o9)), (1, .ref (x1)), (2, .ref (x2)), (4, .int (x4))]) rfl ?_
                                                                    exact hj1894 _ _ hf
                                                                  · cases hf
                                                                · rw [if_neg c283] at hf
                                                                  refine GL.tswOut (tgt := 1894) C dL_law_39 (by have q0 := lv_neT (a := 0) c2 (by decide); have q1 := lv_neT (a := 1) c13 (by decide); have q2 := lv_neT (a := 2) c22 (by decide); have q3 := lv_neT (a := 3) c31 (by decide); have q4 := lv_neT (a := 4) c44 (by decide); have q5 := lv_neT (a := 5) c55 (by decide); have q6 := lv_neT (a := 6) c66 (by decide); have q7 := lv_neT (a := 7) c77 (by decide); have q8 := lv_neT (a := 8) c86 (by decide); have q9 := lv_neT (a := 9) c97 (by decide); have q10 := lv_neT (a := 10) c106 (by decide); have q11 := lv_neT (a := 11) c110 (by decide); have q12 := lv_neT (a := 12) c114 (by decide); have q13 := lv_neT (a := 13) c121 (by decide); have q14 := lv_neT (a := 14) c128 (by decide); have q15 := lv_neT (a := 15) c132 (by decide); have q16 := lv_neT (a := 16) c139 (by decide); have q17 := lv_neT (a := 17) c150 (by decide); have q18 := lv_neT (a := 18) c161 (by decide); have q19 := lv_neT (a := 19) c174 (by decide); have q20 := lv_neT (a := 20) c183 (by decide); have q21 := lv_neT (a := 21) c192 (by decide); have q22 := lv_neT (a := 22) c205 (by decide); have q23 := lv_neT (a := 23) c220 (by decide); have q24 := lv_neT (a := 24) c235 (by decide); have q25 := lv_neT (a := 25) c248 (by decide); have q26 := lv_neT (a := 26) c257 (by decide); have q27 := lv_neT (a := 27) c268 (by decide); have q28 := lv_neT (a := 28) c277 (by decide); have q29 := lv_neT (a := 29) c283 (by decide); omega) (by decide) ?_
                                                                  refine GL.mono (c2 := cb + 1) (by omega) ?_
                                                                  refine GL.sub C [0, 3, 1, 2, 4] (lv' := [(0, .ref (b9)), (3, .ref (o9)), (1, .ref (x1)), (2, .ref (x2)), (4, .int (x4))]) rfl ?_
                                                                  exact hj1894 _ _ hf

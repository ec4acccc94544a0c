/-! words of the tables, by their places -/
theorem mt_1 {w : Cond} (h : w ∈ tables_1_1) : w ∈ lw_tbl := List.mem_append_right _ (List.mem_append_left _ h)
theorem ms_1 {w : Cond} (h : w ∈ tables_1_1) (hg : goodWord w = true) : w ∈ xm_tb := List.mem_filter.mpr ⟨mt_1 h, hg⟩
theorem mt_2 {w : Cond} (h : w ∈ tables_1_2) : w ∈ lw_tbl := List.mem_append_right _ (List.mem_append_right _ (List.mem_append_left _ h))
theorem ms_2 {w : Cond} (h : w ∈ tables_1_2) (hg : goodWord w = true) : w ∈ xm_tb := List.mem_filter.mpr ⟨mt_2 h, hg⟩
theorem mt_3 {w : Cond} (h : w ∈ tables_1_3) : w ∈ lw_tbl := List.mem_append_right _ (List.mem_append_right _ (List.mem_append_right _ (List.mem_append_left _ h)))
theorem ms_3 {w : Cond} (h : w ∈ tables_1_3) (hg : goodWord w = true) : w ∈ xm_tb := List.mem_filter.mpr ⟨mt_3 h, hg⟩
theorem mt_4 {w : Cond} (h : w ∈ tables_1_4) : w ∈ lw_tbl := List.mem_append_right _ (List.mem_append_right _ (List.mem_append_right _ (List.mem_append_right _ (List.mem_append_left _ h))))
theorem ms_4 {w : Cond} (h : w ∈ tables_1_4) (hg : goodWord w = true) : w ∈ xm_tb := List.mem_filter.mpr ⟨mt_4 h, hg⟩
theorem mt_5 {w : Cond} (h : w ∈ tables_1_5) : w ∈ lw_tbl := List.mem_append_right _ (List.mem_append_right _ (List.mem_append_right _ (List.mem_append_right _ (List.mem_append_right _ (List.mem_append_left _ h)))))
theorem ms_5 {w : Cond} (h : w ∈ tables_1_5) (hg : goodWord w = true) : w ∈ xm_tb := List.mem_filter.mpr ⟨mt_5 h, hg⟩
theorem mt_6 {w : Cond} (h : w ∈ tables_1_6) : w ∈ lw_tbl := List.mem_append_right _ (List.mem_append_right _ (List.mem_append_right _ (List.mem_append_right _ (List.mem_append_right _ (List.mem_append_right _ (h))))))
theorem ms_6 {w : Cond} (h : w ∈ tables_1_6) (hg : goodWord w = true) : w ∈ xm_tb := List.mem_filter.mpr ⟨mt_6 h, hg⟩
theorem tw_216 : Cond.methodLink RX5 28 yJ7_fill_53178 ∈ xm_tb := ms_1 (List.mem_of_getElem? (i := 216) (by decide +kernel)) rfl
theorem tw_279 : Cond.methodLink RX11 73 yX2_openAll ∈ xm_tb := ms_2 (List.mem_of_getElem? (i := 39) (by decide +kernel)) rfl
theorem tw_283 : (Cond.constantLong "EndingCourt$Box" (21 : Nat) (-3000000000000 : Int64)) ∈ xm_tb := ms_2 (List.mem_of_getElem? (i := 43) (by decide +kernel)) rfl
theorem tw_319 : Cond.methodLink RX11 77 yX7_startAnew ∈ xm_tb := ms_2 (List.mem_of_getElem? (i := 79) (by decide +kernel)) rfl
theorem tw_323 : Cond.methodLink RX11 80 yJ7_fill_d0a16 ∈ xm_tb := ms_2 (List.mem_of_getElem? (i := 83) (by decide +kernel)) rfl
theorem tw_326 : Cond.methodLink RX11 86 yX2_zeroAll ∈ xm_tb := ms_2 (List.mem_of_getElem? (i := 86) (by decide +kernel)) rfl
theorem tw_330 : Cond.methodLink RX2 15 yJ7_fill_d0a16 ∈ xm_tb := ms_2 (List.mem_of_getElem? (i := 90) (by decide +kernel)) rfl
theorem tw_331 : Cond.methodLink RX11 89 yX4_forgetRing ∈ xm_tb := ms_2 (List.mem_of_getElem? (i := 91) (by decide +kernel)) rfl
theorem tw_335 : Cond.methodLink RX11 92 yX5_forgetAll ∈ xm_tb := ms_2 (List.mem_of_getElem? (i := 95) (by decide +kernel)) rfl
theorem tw_339 : Cond.methodLink RX11 95 yX11_openTheBox ∈ xm_tb := ms_2 (List.mem_of_getElem? (i := 99) (by decide +kernel)) rfl
theorem tw_343 : Cond.methodLink RX11 258 yX11_forgetPlaces ∈ xm_tb := ms_2 (List.mem_of_getElem? (i := 103) (by decide +kernel)) rfl
theorem tw_351 : Cond.methodLink RX11 101 yX7_addBody ∈ xm_tb := ms_2 (List.mem_of_getElem? (i := 111) (by decide +kernel)) rfl
theorem tw_355 : Cond.methodLink RX7 25 yX1_startAnew ∈ xm_tb := ms_2 (List.mem_of_getElem? (i := 115) (by decide +kernel)) rfl
theorem tw_359 : Cond.methodLink RX1 36 yX0_putSame ∈ xm_tb := ms_2 (List.mem_of_getElem? (i := 119) (by decide +kernel)) rfl
theorem tw_367 : Cond.methodLink RX11 105 yX7_has ∈ xm_tb := ms_2 (List.mem_of_getElem? (i := 127) (by decide +kernel)) rfl
theorem tw_371 : Cond.methodLink RX11 109 yX11_isCode ∈ xm_tb := ms_2 (List.mem_of_getElem? (i := 131) (by decide +kernel)) rfl
theorem tw_374 : (Cond.constant "EndingCourt" (296 : Nat) (68921 : Int32)) ∈ xm_tb := ms_2 (List.mem_of_getElem? (i := 134) (by decide +kernel)) rfl
theorem tw_375 : Cond.methodLink RX11 112 yX11_isConstant ∈ xm_tb := ms_2 (List.mem_of_getElem? (i := 135) (by decide +kernel)) rfl
theorem tw_378 : Cond.methodLink RX11 124 yX1_addGuard ∈ xm_tb := ms_2 (List.mem_of_getElem? (i := 138) (by decide +kernel)) rfl
theorem tw_382 : Cond.methodLink RX1 40 yX0_put ∈ xm_tb := ms_2 (List.mem_of_getElem? (i := 142) (by decide +kernel)) rfl
theorem tw_390 : Cond.methodLink RX11 128 yX7_hasNumber ∈ xm_tb := ms_2 (List.mem_of_getElem? (i := 150) (by decide +kernel)) rfl
theorem tw_394 : Cond.methodLink RX11 135 yX0_put ∈ xm_tb := ms_2 (List.mem_of_getElem? (i := 154) (by decide +kernel)) rfl
theorem tw_403 : Cond.methodLink RX11 140 yX11_isGiven ∈ xm_tb := ms_2 (List.mem_of_getElem? (i := 163) (by decide +kernel)) rfl
theorem tw_406 : (Cond.constant "EndingCourt" (297 : Nat) (-1000000 : Int32)) ∈ xm_tb := ms_2 (List.mem_of_getElem? (i := 166) (by decide +kernel)) rfl
theorem tw_407 : (Cond.constant "EndingCourt" (298 : Nat) (1000000 : Int32)) ∈ xm_tb := ms_2 (List.mem_of_getElem? (i := 167) (by decide +kernel)) rfl
theorem tw_416 : Cond.methodLink RX11 143 yX11_isTurns ∈ xm_tb := ms_2 (List.mem_of_getElem? (i := 176) (by decide +kernel)) rfl
theorem tw_419 : Cond.methodLink RX11 146 yX7_step ∈ xm_tb := ms_2 (List.mem_of_getElem? (i := 179) (by decide +kernel)) rfl
theorem tw_423 : Cond.methodLink RX7 32 yX7_chosen ∈ xm_tb := ms_2 (List.mem_of_getElem? (i := 183) (by decide +kernel)) rfl
theorem tw_427 : Cond.methodLink RX7 28 yX1_holdsAt ∈ xm_tb := ms_2 (List.mem_of_getElem? (i := 187) (by decide +kernel)) rfl
theorem tw_431 : Cond.methodLink RX1 44 yX0_valueAt ∈ xm_tb := ms_2 (List.mem_of_getElem? (i := 191) (by decide +kernel)) rfl
theorem tw_435 : Cond.methodLink RX7 36 yX1_move ∈ xm_tb := ms_2 (List.mem_of_getElem? (i := 195) (by decide +kernel)) rfl
theorem tw_439 : (Cond.constantLong "EndingCourt$Body" (54 : Nat) (1000000000000 : Int64)) ∈ xm_tb := ms_2 (List.mem_of_getElem? (i := 199) (by decide +kernel)) rfl
theorem tw_447 : Cond.methodLink RX11 150 yX7_chosen ∈ xm_tb := ms_2 (List.mem_of_getElem? (i := 207) (by decide +kernel)) rfl
theorem tw_452 : Cond.methodLink RX11 153 yX4_findRing ∈ xm_tb := ms_2 (List.mem_of_getElem? (i := 212) (by decide +kernel)) rfl
theorem tw_456 : Cond.methodLink RX4 22 yX4_lengthWithin ∈ xm_tb := ms_2 (List.mem_of_getElem? (i := 216) (by decide +kernel)) rfl
theorem tw_460 : Cond.methodLink RX4 30 yX4_copy ∈ xm_tb := ms_2 (List.mem_of_getElem? (i := 220) (by decide +kernel)) rfl
theorem tw_463 : Cond.methodLink RX4 44 arraycopyName ∈ xm_tb := ms_2 (List.mem_of_getElem? (i := 223) (by decide +kernel)) rfl
theorem tw_466 : Cond.methodLink RX4 34 yX7_step ∈ xm_tb := ms_2 (List.mem_of_getElem? (i := 226) (by decide +kernel)) rfl
theorem tw_467 : Cond.methodLink RX4 40 yX4_isSame ∈ xm_tb := ms_2 (List.mem_of_getElem? (i := 227) (by decide +kernel)) rfl
theorem tw_471 : Cond.methodLink RX4 26 yX4_leadOf ∈ xm_tb := ms_2 (List.mem_of_getElem? (i := 231) (by decide +kernel)) rfl
theorem tw_483 : Cond.methodLink RX11 160 yX11_ask ∈ xm_tb := ms_3 (List.mem_of_getElem? (i := 3) (by decide +kernel)) rfl
theorem tw_487 : Cond.methodLink RX11 164 yX11_learnPlaces ∈ xm_tb := ms_3 (List.mem_of_getElem? (i := 7) (by decide +kernel)) rfl
theorem tw_491 : Cond.methodLink RX11 292 yX9_shape ∈ xm_tb := ms_3 (List.mem_of_getElem? (i := 11) (by decide +kernel)) rfl
theorem tw_495 : Cond.methodLink RX9 18 yX9_gather ∈ xm_tb := ms_3 (List.mem_of_getElem? (i := 15) (by decide +kernel)) rfl
theorem tw_499 : Cond.methodLink RX9 68 yX9_addPlane ∈ xm_tb := ms_3 (List.mem_of_getElem? (i := 19) (by decide +kernel)) rfl
theorem tw_503 : Cond.methodLink RX9 72 yX2_end ∈ xm_tb := ms_3 (List.mem_of_getElem? (i := 23) (by decide +kernel)) rfl
theorem tw_507 : (Cond.constantLong "EndingCourt$Shaper" (78 : Nat) (-3000000000000 : Int64)) ∈ xm_tb := ms_3 (List.mem_of_getElem? (i := 27) (by decide +kernel)) rfl
theorem tw_508 : Cond.methodLink RX9 80 yX9_addAxisPlane ∈ xm_tb := ms_3 (List.mem_of_getElem? (i := 28) (by decide +kernel)) rfl
theorem tw_512 : (Cond.constantLong "EndingCourt$Shaper" (84 : Nat) (-1 : Int64)) ∈ xm_tb := ms_3 (List.mem_of_getElem? (i := 32) (by decide +kernel)) rfl
theorem tw_513 : Cond.methodLink RX9 28 yX6_empty ∈ xm_tb := ms_3 (List.mem_of_getElem? (i := 33) (by decide +kernel)) rfl
theorem tw_517 : Cond.methodLink RX9 33 yX9_findCorners ∈ xm_tb := ms_3 (List.mem_of_getElem? (i := 37) (by decide +kernel)) rfl
theorem tw_521 : Cond.methodLink RX9 89 yX9_meet ∈ xm_tb := ms_3 (List.mem_of_getElem? (i := 41) (by decide +kernel)) rfl
theorem tw_525 : Cond.methodLink RX9 106 yX9_cross ∈ xm_tb := ms_3 (List.mem_of_getElem? (i := 45) (by decide +kernel)) rfl
theorem tw_529 : Cond.methodLink RX9 110 yJ9_abs_067f4 ∈ xm_tb := ms_3 (List.mem_of_getElem? (i := 49) (by decide +kernel)) rfl
theorem tw_532 : Cond.methodLink RX9 93 yX9_isInside ∈ xm_tb := ms_3 (List.mem_of_getElem? (i := 52) (by decide +kernel)) rfl
theorem tw_536 : Cond.methodLink RX9 96 yX9_shrink ∈ xm_tb := ms_3 (List.mem_of_getElem? (i := 56) (by decide +kernel)) rfl
theorem tw_540 : Cond.methodLink RX9 116 yX9_commonPart ∈ xm_tb := ms_3 (List.mem_of_getElem? (i := 60) (by decide +kernel)) rfl
theorem tw_543 : Cond.methodLink RX9 99 yX6_add ∈ xm_tb := ms_3 (List.mem_of_getElem? (i := 63) (by decide +kernel)) rfl
theorem tw_547 : Cond.methodLink RX6 20 yX6_hasPoint ∈ xm_tb := ms_3 (List.mem_of_getElem? (i := 67) (by decide +kernel)) rfl
theorem tw_551 : Cond.methodLink RX6 24 arraycopyName ∈ xm_tb := ms_3 (List.mem_of_getElem? (i := 71) (by decide +kernel)) rfl
theorem tw_552 : Cond.methodLink RX9 37 yX6_isEmpty ∈ xm_tb := ms_3 (List.mem_of_getElem? (i := 72) (by decide +kernel)) rfl
theorem tw_556 : Cond.methodLink RX9 41 yX9_findDirections ∈ xm_tb := ms_3 (List.mem_of_getElem? (i := 76) (by decide +kernel)) rfl
theorem tw_560 : Cond.methodLink RX9 103 yX9_follow ∈ xm_tb := ms_3 (List.mem_of_getElem? (i := 80) (by decide +kernel)) rfl
theorem tw_564 : Cond.methodLink RX11 167 yX7_isRankedBy ∈ xm_tb := ms_3 (List.mem_of_getElem? (i := 84) (by decide +kernel)) rfl
theorem tw_568 : Cond.methodLink RX7 39 yX1_ranksBy ∈ xm_tb := ms_3 (List.mem_of_getElem? (i := 88) (by decide +kernel)) rfl
theorem tw_572 : Cond.methodLink RX1 71 yX6_isBoundBelow ∈ xm_tb := ms_3 (List.mem_of_getElem? (i := 92) (by decide +kernel)) rfl
theorem tw_576 : Cond.methodLink RX6 30 yX6_valueAt ∈ xm_tb := ms_3 (List.mem_of_getElem? (i := 96) (by decide +kernel)) rfl
theorem tw_580 : Cond.methodLink RX1 75 yX1_changesAtMost ∈ xm_tb := ms_3 (List.mem_of_getElem? (i := 100) (by decide +kernel)) rfl
theorem tw_584 : Cond.methodLink RX1 67 yX6_isNowherePositive ∈ xm_tb := ms_3 (List.mem_of_getElem? (i := 104) (by decide +kernel)) rfl
theorem tw_592 : Cond.methodLink RX11 175 yX6_isBoundBelow ∈ xm_tb := ms_3 (List.mem_of_getElem? (i := 112) (by decide +kernel)) rfl
theorem tw_593 : Cond.methodLink RX11 180 yX1_changesAtMost ∈ xm_tb := ms_3 (List.mem_of_getElem? (i := 113) (by decide +kernel)) rfl
theorem tw_598 : (Cond.constantLong "EndingCourt" (184 : Nat) (-9000000000000000 : Int64)) ∈ xm_tb := ms_3 (List.mem_of_getElem? (i := 118) (by decide +kernel)) rfl
theorem tw_599 : Cond.methodLink RX11 186 yX7_floorOf ∈ xm_tb := ms_3 (List.mem_of_getElem? (i := 119) (by decide +kernel)) rfl
theorem tw_603 : Cond.methodLink RX7 47 yX6_isEmpty ∈ xm_tb := ms_3 (List.mem_of_getElem? (i := 123) (by decide +kernel)) rfl
theorem tw_604 : Cond.methodLink RX7 53 yX6_floorOf ∈ xm_tb := ms_3 (List.mem_of_getElem? (i := 124) (by decide +kernel)) rfl
theorem tw_608 : Cond.methodLink RX6 34 yJ9_floorDiv_f86c9 ∈ xm_tb := ms_3 (List.mem_of_getElem? (i := 128) (by decide +kernel)) rfl
theorem tw_611 : Cond.methodLink RX6 40 yJ9_min_f86c9 ∈ xm_tb := ms_3 (List.mem_of_getElem? (i := 131) (by decide +kernel)) rfl
theorem tw_614 : Cond.methodLink RX7 57 yJ9_min_f86c9 ∈ xm_tb := ms_3 (List.mem_of_getElem? (i := 134) (by decide +kernel)) rfl
theorem tw_619 : Cond.methodLink RX11 190 yX11_isSize ∈ xm_tb := ms_3 (List.mem_of_getElem? (i := 139) (by decide +kernel)) rfl
theorem tw_622 : Cond.methodLink RX11 193 yX5_seekRank ∈ xm_tb := ms_3 (List.mem_of_getElem? (i := 142) (by decide +kernel)) rfl
theorem tw_626 : Cond.methodLink RX5 47 yX10_start ∈ xm_tb := ms_3 (List.mem_of_getElem? (i := 146) (by decide +kernel)) rfl
theorem tw_630 : Cond.methodLink RX5 51 yX10_next ∈ xm_tb := ms_3 (List.mem_of_getElem? (i := 150) (by decide +kernel)) rfl
theorem tw_634 : Cond.methodLink RX10 31 yX10_nextPair ∈ xm_tb := ms_3 (List.mem_of_getElem? (i := 154) (by decide +kernel)) rfl
theorem tw_638 : Cond.methodLink RX10 35 yJ9_abs_0f7a4 ∈ xm_tb := ms_3 (List.mem_of_getElem? (i := 158) (by decide +kernel)) rfl
theorem tw_641 : Cond.methodLink RX5 58 yX7_isRankedBy ∈ xm_tb := ms_3 (List.mem_of_getElem? (i := 161) (by decide +kernel)) rfl
theorem tw_642 : Cond.methodLink RX5 62 arraycopyName ∈ xm_tb := ms_3 (List.mem_of_getElem? (i := 162) (by decide +kernel)) rfl
theorem tw_643 : Cond.methodLink RX5 68 yX7_floorOf ∈ xm_tb := ms_3 (List.mem_of_getElem? (i := 163) (by decide +kernel)) rfl
theorem tw_644 : Cond.methodLink RX5 76 yX5_keep ∈ xm_tb := ms_3 (List.mem_of_getElem? (i := 164) (by decide +kernel)) rfl
theorem tw_652 : Cond.methodLink RX11 197 yX5_seekRows ∈ xm_tb := ms_3 (List.mem_of_getElem? (i := 172) (by decide +kernel)) rfl
theorem tw_656 : Cond.methodLink RX5 81 yX5_seekRow ∈ xm_tb := ms_3 (List.mem_of_getElem? (i := 176) (by decide +kernel)) rfl
theorem tw_660 : Cond.methodLink RX5 89 yX5_isRow ∈ xm_tb := ms_3 (List.mem_of_getElem? (i := 180) (by decide +kernel)) rfl
theorem tw_664 : Cond.methodLink RX5 97 yX1_changesAtMost ∈ xm_tb := ms_3 (List.mem_of_getElem? (i := 184) (by decide +kernel)) rfl
theorem tw_665 : Cond.methodLink RX5 103 yX1_ranksBy ∈ xm_tb := ms_3 (List.mem_of_getElem? (i := 185) (by decide +kernel)) rfl
theorem tw_666 : Cond.methodLink RX5 85 yX5_release ∈ xm_tb := ms_3 (List.mem_of_getElem? (i := 186) (by decide +kernel)) rfl
theorem tw_674 : Cond.methodLink RX11 201 yX5_weightOf ∈ xm_tb := ms_3 (List.mem_of_getElem? (i := 194) (by decide +kernel)) rfl
theorem tw_686 : (Cond.constantLong "EndingCourt" (212 : Nat) (-1 : Int64)) ∈ xm_tb := ms_3 (List.mem_of_getElem? (i := 206) (by decide +kernel)) rfl
theorem tw_687 : Cond.methodLink RX11 214 yX2_encloses ∈ xm_tb := ms_3 (List.mem_of_getElem? (i := 207) (by decide +kernel)) rfl
theorem tw_691 : Cond.methodLink RX2 29 yX2_end ∈ xm_tb := ms_3 (List.mem_of_getElem? (i := 211) (by decide +kernel)) rfl
theorem tw_692 : (Cond.constantLong "EndingCourt" (218 : Nat) (-3 : Int64)) ∈ xm_tb := ms_3 (List.mem_of_getElem? (i := 212) (by decide +kernel)) rfl
theorem tw_693 : Cond.methodLink RX11 220 yX5_rankingAt ∈ xm_tb := ms_3 (List.mem_of_getElem? (i := 213) (by decide +kernel)) rfl
theorem tw_697 : Cond.methodLink RX11 228 yJ9_max_f86c9 ∈ xm_tb := ms_3 (List.mem_of_getElem? (i := 217) (by decide +kernel)) rfl
theorem tw_704 : Cond.methodLink RX11 234 yX11_isSide ∈ xm_tb := ms_3 (List.mem_of_getElem? (i := 224) (by decide +kernel)) rfl
theorem tw_707 : (Cond.constant "EndingCourt" (237 : Nat) (-2000000 : Int32)) ∈ xm_tb := ms_3 (List.mem_of_getElem? (i := 227) (by decide +kernel)) rfl
theorem tw_708 : (Cond.constantLong "EndingCourt" (238 : Nat) (-3000000000000 : Int64)) ∈ xm_tb := ms_3 (List.mem_of_getElem? (i := 228) (by decide +kernel)) rfl
theorem tw_709 : Cond.methodLink RX11 240 yX2_put ∈ xm_tb := ms_3 (List.mem_of_getElem? (i := 229) (by decide +kernel)) rfl
theorem tw_717 : Cond.methodLink RX11 243 yX2_isCrossed ∈ xm_tb := ms_3 (List.mem_of_getElem? (i := 237) (by decide +kernel)) rfl
theorem tw_721 : Cond.methodLink RX11 247 yX8_goRound ∈ xm_tb := ms_4 (List.mem_of_getElem? (i := 1) (by decide +kernel)) rfl
theorem tw_725 : Cond.methodLink RX8 21 yX2_copyFrom ∈ xm_tb := ms_4 (List.mem_of_getElem? (i := 5) (by decide +kernel)) rfl
theorem tw_729 : Cond.methodLink RX2 23 arraycopyName ∈ xm_tb := ms_4 (List.mem_of_getElem? (i := 9) (by decide +kernel)) rfl
theorem tw_730 : Cond.methodLink RX8 25 yX8_lookAtBodies ∈ xm_tb := ms_4 (List.mem_of_getElem? (i := 10) (by decide +kernel)) rfl
theorem tw_734 : Cond.methodLink RX8 47 yX1_isPassedOver ∈ xm_tb := ms_4 (List.mem_of_getElem? (i := 14) (by decide +kernel)) rfl
theorem tw_738 : Cond.methodLink RX1 48 yX0_farthest ∈ xm_tb := ms_4 (List.mem_of_getElem? (i := 18) (by decide +kernel)) rfl
theorem tw_742 : Cond.methodLink RX0 19 yX2_end ∈ xm_tb := ms_4 (List.mem_of_getElem? (i := 22) (by decide +kernel)) rfl
theorem tw_743 : (Cond.constantLong "EndingCourt$Affine" (25 : Nat) (-3000000000000 : Int64)) ∈ xm_tb := ms_4 (List.mem_of_getElem? (i := 23) (by decide +kernel)) rfl
theorem tw_744 : (Cond.constantLong "EndingCourt$Body" (52 : Nat) (-3000000000000 : Int64)) ∈ xm_tb := ms_4 (List.mem_of_getElem? (i := 24) (by decide +kernel)) rfl
theorem tw_745 : Cond.methodLink RX8 60 yX0_farthest ∈ xm_tb := ms_4 (List.mem_of_getElem? (i := 25) (by decide +kernel)) rfl
theorem tw_746 : Cond.methodLink RX8 66 yX2_widen ∈ xm_tb := ms_4 (List.mem_of_getElem? (i := 26) (by decide +kernel)) rfl
theorem tw_750 : Cond.methodLink RX2 39 yX2_put ∈ xm_tb := ms_4 (List.mem_of_getElem? (i := 30) (by decide +kernel)) rfl
theorem tw_751 : Cond.methodLink RX2 43 yJ9_min_f86c9 ∈ xm_tb := ms_4 (List.mem_of_getElem? (i := 31) (by decide +kernel)) rfl
theorem tw_752 : Cond.methodLink RX2 49 yJ9_max_f86c9 ∈ xm_tb := ms_4 (List.mem_of_getElem? (i := 32) (by decide +kernel)) rfl
theorem tw_753 : Cond.methodLink RX8 29 yX8_settle ∈ xm_tb := ms_4 (List.mem_of_getElem? (i := 33) (by decide +kernel)) rfl
theorem tw_757 : (Cond.constantLong "EndingCourt$Rounds" (74 : Nat) (-3000000000000 : Int64)) ∈ xm_tb := ms_4 (List.mem_of_getElem? (i := 37) (by decide +kernel)) rfl
theorem tw_758 : Cond.methodLink RX8 33 yX2_isOut ∈ xm_tb := ms_4 (List.mem_of_getElem? (i := 38) (by decide +kernel)) rfl
theorem tw_762 : (Cond.constantLong "EndingCourt$Box" (33 : Nat) (1000000000 : Int64)) ∈ xm_tb := ms_4 (List.mem_of_getElem? (i := 42) (by decide +kernel)) rfl
theorem tw_764 : Cond.methodLink RX11 254 yX2_copyFrom ∈ xm_tb := ms_4 (List.mem_of_getElem? (i := 44) (by decide +kernel)) rfl
theorem tw_769 : Cond.methodLink RX11 261 yX2_end ∈ xm_tb := ms_4 (List.mem_of_getElem? (i := 49) (by decide +kernel)) rfl
theorem tw_778 : Cond.methodLink RX11 265 yX11_isFunction ∈ xm_tb := ms_4 (List.mem_of_getElem? (i := 58) (by decide +kernel)) rfl
theorem tw_781 : (Cond.constant "EndingCourt" (268 : Nat) (43046721 : Int32)) ∈ xm_tb := ms_4 (List.mem_of_getElem? (i := 61) (by decide +kernel)) rfl
theorem tw_782 : Cond.methodLink RX11 270 yX3_add ∈ xm_tb := ms_4 (List.mem_of_getElem? (i := 62) (by decide +kernel)) rfl
theorem tw_786 : Cond.methodLink RX3 35 yX3_masksOf ∈ xm_tb := ms_4 (List.mem_of_getElem? (i := 66) (by decide +kernel)) rfl
theorem tw_789 : Cond.methodLink RX3 39 yX3_packed ∈ xm_tb := ms_4 (List.mem_of_getElem? (i := 69) (by decide +kernel)) rfl
theorem tw_792 : (Cond.constantLong "EndingCourt$Calls" (93 : Nat) (4294967295 : Int64)) ∈ xm_tb := ms_4 (List.mem_of_getElem? (i := 72) (by decide +kernel)) rfl
theorem tw_797 : Cond.methodLink RX11 274 yX3_removeAll ∈ xm_tb := ms_4 (List.mem_of_getElem? (i := 77) (by decide +kernel)) rfl
theorem tw_805 : Cond.methodLink RX11 277 yX3_judge ∈ xm_tb := ms_4 (List.mem_of_getElem? (i := 85) (by decide +kernel)) rfl
theorem tw_809 : Cond.methodLink RX3 43 yX3_makeAll ∈ xm_tb := ms_4 (List.mem_of_getElem? (i := 89) (by decide +kernel)) rfl
theorem tw_813 : Cond.methodLink RX3 61 yJ7_fill_53178 ∈ xm_tb := ms_4 (List.mem_of_getElem? (i := 93) (by decide +kernel)) rfl
theorem tw_814 : Cond.methodLink RX3 67 yX3_keep ∈ xm_tb := ms_4 (List.mem_of_getElem? (i := 94) (by decide +kernel)) rfl
theorem tw_818 : (Cond.constantLong "EndingCourt$Calls" (78 : Nat) (-7046029254386353131 : Int64)) ∈ xm_tb := ms_4 (List.mem_of_getElem? (i := 98) (by decide +kernel)) rfl
theorem tw_819 : Cond.methodLink RX3 71 yX3_toOf ∈ xm_tb := ms_4 (List.mem_of_getElem? (i := 99) (by decide +kernel)) rfl
theorem tw_822 : Cond.methodLink RX3 54 yX3_fromOf ∈ xm_tb := ms_4 (List.mem_of_getElem? (i := 102) (by decide +kernel)) rfl
theorem tw_825 : Cond.methodLink RX3 74 yX3_together ∈ xm_tb := ms_4 (List.mem_of_getElem? (i := 105) (by decide +kernel)) rfl
theorem tw_828 : Cond.methodLink RX3 90 yX3_toldOf ∈ xm_tb := ms_4 (List.mem_of_getElem? (i := 108) (by decide +kernel)) rfl
theorem tw_831 : (Cond.constant "EndingCourt$Calls" (95 : Nat) (65535 : Int32)) ∈ xm_tb := ms_4 (List.mem_of_getElem? (i := 111) (by decide +kernel)) rfl
theorem tw_832 : Cond.methodLink RX3 87 yX3_lessOf ∈ xm_tb := ms_4 (List.mem_of_getElem? (i := 112) (by decide +kernel)) rfl
theorem tw_835 : Cond.methodLink RX3 50 yX3_firstFault ∈ xm_tb := ms_4 (List.mem_of_getElem? (i := 115) (by decide +kernel)) rfl
theorem tw_839 : Cond.methodLink RX3 80 yX3_isFault ∈ xm_tb := ms_4 (List.mem_of_getElem? (i := 119) (by decide +kernel)) rfl
theorem tw_842 : Cond.methodLink RX3 83 yX3_isAhead ∈ xm_tb := ms_4 (List.mem_of_getElem? (i := 122) (by decide +kernel)) rfl
theorem tw_845 : Cond.methodLink RX3 58 yX3_numberOf ∈ xm_tb := ms_4 (List.mem_of_getElem? (i := 125) (by decide +kernel)) rfl
theorem tw_862 : (Cond.constant "EndingCourtModel" (61 : Nat) (32768 : Int32)) ∈ xm_tb := ms_4 (List.mem_of_getElem? (i := 142) (by decide +kernel)) rfl
theorem tw_863 : Cond.methodLink RX12 128 yX12_openAll ∈ xm_tb := ms_4 (List.mem_of_getElem? (i := 143) (by decide +kernel)) rfl
theorem tw_1031 : Cond.methodLink RX12 142 yX12_isBody ∈ xm_tb := ms_5 (List.mem_of_getElem? (i := 71) (by decide +kernel)) rfl
theorem tw_1035 : Cond.methodLink RX12 146 yX12_areWeights ∈ xm_tb := ms_5 (List.mem_of_getElem? (i := 75) (by decide +kernel)) rfl
theorem tw_1038 : (Cond.constant "EndingCourtModel" (141 : Nat) (68921 : Int32)) ∈ xm_tb := ms_5 (List.mem_of_getElem? (i := 78) (by decide +kernel)) rfl
theorem tw_1039 : Cond.methodLink RX12 150 yX12_lay ∈ xm_tb := ms_5 (List.mem_of_getElem? (i := 79) (by decide +kernel)) rfl
theorem tw_1055 : (Cond.constant "EndingCourtModel" (154 : Nat) (-1000000 : Int32)) ∈ xm_tb := ms_5 (List.mem_of_getElem? (i := 95) (by decide +kernel)) rfl
theorem tw_1056 : (Cond.constant "EndingCourtModel" (155 : Nat) (1000000 : Int32)) ∈ xm_tb := ms_5 (List.mem_of_getElem? (i := 96) (by decide +kernel)) rfl
theorem tw_1065 : Cond.methodLink RX12 172 yX12_turnFrom ∈ xm_tb := ms_5 (List.mem_of_getElem? (i := 105) (by decide +kernel)) rfl
theorem tw_1069 : Cond.methodLink RX12 164 yX12_turnAt ∈ xm_tb := ms_5 (List.mem_of_getElem? (i := 109) (by decide +kernel)) rfl
theorem tw_1073 : Cond.methodLink RX12 156 yX12_of ∈ xm_tb := ms_5 (List.mem_of_getElem? (i := 113) (by decide +kernel)) rfl
theorem tw_1076 : Cond.methodLink RX12 168 yX12_isFar ∈ xm_tb := ms_5 (List.mem_of_getElem? (i := 116) (by decide +kernel)) rfl
theorem tw_1079 : (Cond.constantLong "EndingCourtModel" (160 : Nat) (1000000000000 : Int64)) ∈ xm_tb := ms_5 (List.mem_of_getElem? (i := 119) (by decide +kernel)) rfl
theorem tw_1080 : (Cond.constantLong "EndingCourtModel" (162 : Nat) (-1000000000000 : Int64)) ∈ xm_tb := ms_5 (List.mem_of_getElem? (i := 120) (by decide +kernel)) rfl
theorem tw_1089 : Cond.methodLink RX12 181 yX12_keep ∈ xm_tb := ms_5 (List.mem_of_getElem? (i := 129) (by decide +kernel)) rfl
theorem tw_1093 : (Cond.constantLong "EndingCourtModel" (175 : Nat) (31 : Int64)) ∈ xm_tb := ms_5 (List.mem_of_getElem? (i := 133) (by decide +kernel)) rfl
theorem tw_1094 : (Cond.constantLong "EndingCourtModel" (177 : Nat) (1000003 : Int64)) ∈ xm_tb := ms_5 (List.mem_of_getElem? (i := 134) (by decide +kernel)) rfl
theorem tw_1095 : (Cond.constantLong "EndingCourtModel" (179 : Nat) (32767 : Int64)) ∈ xm_tb := ms_5 (List.mem_of_getElem? (i := 135) (by decide +kernel)) rfl
theorem tw_1104 : Cond.methodLink RX12 289 yX12_isSum ∈ xm_tb := ms_5 (List.mem_of_getElem? (i := 144) (by decide +kernel)) rfl
theorem tw_1108 : Cond.methodLink RX12 292 yX12_doesRank ∈ xm_tb := ms_5 (List.mem_of_getElem? (i := 148) (by decide +kernel)) rfl
theorem tw_1112 : Cond.methodLink RX12 285 yX12_tellsOf ∈ xm_tb := ms_5 (List.mem_of_getElem? (i := 152) (by decide +kernel)) rfl
theorem tw_1116 : Cond.methodLink RX12 276 yX12_laySides ∈ xm_tb := ms_5 (List.mem_of_getElem? (i := 156) (by decide +kernel)) rfl
theorem tw_1120 : Cond.methodLink RX12 188 yX12_addSide ∈ xm_tb := ms_5 (List.mem_of_getElem? (i := 160) (by decide +kernel)) rfl
theorem tw_1124 : (Cond.constantLong "EndingCourtModel" (192 : Nat) (-1 : Int64)) ∈ xm_tb := ms_5 (List.mem_of_getElem? (i := 164) (by decide +kernel)) rfl
theorem tw_1125 : Cond.methodLink RX12 197 yX12_isZero ∈ xm_tb := ms_5 (List.mem_of_getElem? (i := 165) (by decide +kernel)) rfl
theorem tw_1129 : Cond.methodLink RX12 200 yX12_twoLeaveNothing ∈ xm_tb := ms_5 (List.mem_of_getElem? (i := 169) (by decide +kernel)) rfl
theorem tw_1133 : Cond.methodLink RX12 215 yX12_areParallel ∈ xm_tb := ms_5 (List.mem_of_getElem? (i := 173) (by decide +kernel)) rfl
theorem tw_1137 : Cond.methodLink RX12 211 yX12_cross ∈ xm_tb := ms_5 (List.mem_of_getElem? (i := 177) (by decide +kernel)) rfl
theorem tw_1141 : Cond.methodLink RX12 218 yJ9_abs_067f4 ∈ xm_tb := ms_5 (List.mem_of_getElem? (i := 181) (by decide +kernel)) rfl
theorem tw_1142 : Cond.methodLink RX12 203 yX12_threeLeaveNothing ∈ xm_tb := ms_5 (List.mem_of_getElem? (i := 182) (by decide +kernel)) rfl
theorem tw_1146 : Cond.methodLink RX12 224 yX12_determinant ∈ xm_tb := ms_5 (List.mem_of_getElem? (i := 186) (by decide +kernel)) rfl
theorem tw_1150 : Cond.methodLink RX12 227 yX12_leaveNothing ∈ xm_tb := ms_5 (List.mem_of_getElem? (i := 190) (by decide +kernel)) rfl
theorem tw_1154 : Cond.methodLink RX12 207 yX12_fourLeaveNothing ∈ xm_tb := ms_5 (List.mem_of_getElem? (i := 194) (by decide +kernel)) rfl
theorem tw_1158 : Cond.methodLink RX12 279 yX12_findLeast ∈ xm_tb := ms_5 (List.mem_of_getElem? (i := 198) (by decide +kernel)) rfl
theorem tw_1162 : Cond.methodLink RX12 257 yX12_byOne ∈ xm_tb := ms_5 (List.mem_of_getElem? (i := 202) (by decide +kernel)) rfl
theorem tw_1166 : Cond.methodLink RX12 273 yX12_crossWanted ∈ xm_tb := ms_5 (List.mem_of_getElem? (i := 206) (by decide +kernel)) rfl
theorem tw_1170 : Cond.methodLink RX12 269 yX12_offer ∈ xm_tb := ms_5 (List.mem_of_getElem? (i := 210) (by decide +kernel)) rfl
theorem tw_1174 : (Cond.constantLong "EndingCourtModel" (231 : Nat) (1000000 : Int64)) ∈ xm_tb := ms_5 (List.mem_of_getElem? (i := 214) (by decide +kernel)) rfl
theorem tw_1175 : Cond.methodLink RX12 233 yJ9_floorDiv_f86c9 ∈ xm_tb := ms_5 (List.mem_of_getElem? (i := 215) (by decide +kernel)) rfl
theorem tw_1176 : Cond.methodLink RX12 237 yJ9_floorMod_f86c9 ∈ xm_tb := ms_5 (List.mem_of_getElem? (i := 216) (by decide +kernel)) rfl
theorem tw_1179 : Cond.methodLink RX12 253 yX12_isAbove ∈ xm_tb := ms_5 (List.mem_of_getElem? (i := 219) (by decide +kernel)) rfl
theorem tw_1182 : Cond.methodLink RX12 261 yX12_byTwo ∈ xm_tb := ms_5 (List.mem_of_getElem? (i := 222) (by decide +kernel)) rfl
theorem tw_1186 : Cond.methodLink RX12 265 yX12_determinantWanted ∈ xm_tb := ms_5 (List.mem_of_getElem? (i := 226) (by decide +kernel)) rfl
theorem tw_1190 : Cond.methodLink RX12 282 yX12_isLeastAtLeast ∈ xm_tb := ms_5 (List.mem_of_getElem? (i := 230) (by decide +kernel)) rfl
theorem tw_1202 : Cond.methodLink RX12 295 yX12_floorOf ∈ xm_tb := ms_6 (List.mem_of_getElem? (i := 2) (by decide +kernel)) rfl
theorem tw_1206 : (Cond.constantLong "EndingCourtModel" (298 : Nat) (-9000000000000000 : Int64)) ∈ xm_tb := ms_6 (List.mem_of_getElem? (i := 6) (by decide +kernel)) rfl
theorem tw_1211 : Cond.methodLink RX12 309 yX12_isSize ∈ xm_tb := ms_6 (List.mem_of_getElem? (i := 11) (by decide +kernel)) rfl
theorem tw_1214 : Cond.methodLink RX12 312 yX12_firstSum ∈ xm_tb := ms_6 (List.mem_of_getElem? (i := 14) (by decide +kernel)) rfl
theorem tw_1218 : Cond.methodLink RX12 306 yX12_nextSum ∈ xm_tb := ms_6 (List.mem_of_getElem? (i := 18) (by decide +kernel)) rfl
theorem tw_1222 : Cond.methodLink RX12 300 yJ9_abs_0f7a4 ∈ xm_tb := ms_6 (List.mem_of_getElem? (i := 22) (by decide +kernel)) rfl
theorem tw_1223 : Cond.methodLink RX12 303 yX12_step ∈ xm_tb := ms_6 (List.mem_of_getElem? (i := 23) (by decide +kernel)) rfl
theorem tw_1231 : Cond.methodLink RX12 315 yX12_takes ∈ xm_tb := ms_6 (List.mem_of_getElem? (i := 31) (by decide +kernel)) rfl
theorem tw_1247 : (Cond.constantLong "EndingCourtModel" (319 : Nat) (-3 : Int64)) ∈ xm_tb := ms_6 (List.mem_of_getElem? (i := 47) (by decide +kernel)) rfl
theorem tw_1252 : (Cond.constant "EndingCourtModel" (321 : Nat) (-2000000 : Int32)) ∈ xm_tb := ms_6 (List.mem_of_getElem? (i := 52) (by decide +kernel)) rfl
theorem tw_1257 : Cond.methodLink RX12 338 yX12_goRound ∈ xm_tb := ms_6 (List.mem_of_getElem? (i := 57) (by decide +kernel)) rfl
theorem tw_1261 : Cond.methodLink RX12 332 yX12_isPassed ∈ xm_tb := ms_6 (List.mem_of_getElem? (i := 61) (by decide +kernel)) rfl
theorem tw_1265 : Cond.methodLink RX12 328 yX12_reach ∈ xm_tb := ms_6 (List.mem_of_getElem? (i := 65) (by decide +kernel)) rfl
theorem tw_1269 : Cond.methodLink RX12 335 yX12_isChanged ∈ xm_tb := ms_6 (List.mem_of_getElem? (i := 69) (by decide +kernel)) rfl
theorem tw_1273 : (Cond.constantLong "EndingCourtModel" (341 : Nat) (1000000000 : Int64)) ∈ xm_tb := ms_6 (List.mem_of_getElem? (i := 73) (by decide +kernel)) rfl
theorem tw_1274 : (Cond.constantLong "EndingCourtModel" (343 : Nat) (-1000000000 : Int64)) ∈ xm_tb := ms_6 (List.mem_of_getElem? (i := 74) (by decide +kernel)) rfl
theorem tw_1279 : (Cond.constantLong "EndingCourtModel" (345 : Nat) (-3000000000000 : Int64)) ∈ xm_tb := ms_6 (List.mem_of_getElem? (i := 79) (by decide +kernel)) rfl
theorem tw_1288 : (Cond.constant "EndingCourtModel" (347 : Nat) (43046721 : Int32)) ∈ xm_tb := ms_6 (List.mem_of_getElem? (i := 88) (by decide +kernel)) rfl
theorem tw_1297 : Cond.methodLink RX12 362 yX12_makeAll ∈ xm_tb := ms_6 (List.mem_of_getElem? (i := 97) (by decide +kernel)) rfl
theorem tw_1301 : Cond.methodLink RX12 355 yX12_make ∈ xm_tb := ms_6 (List.mem_of_getElem? (i := 101) (by decide +kernel)) rfl
theorem tw_1305 : Cond.methodLink RX12 358 yX12_together ∈ xm_tb := ms_6 (List.mem_of_getElem? (i := 105) (by decide +kernel)) rfl
theorem tw_1309 : Cond.methodLink RX12 351 yX12_spread ∈ xm_tb := ms_6 (List.mem_of_getElem? (i := 109) (by decide +kernel)) rfl
theorem tw_1312 : Cond.methodLink RX12 365 yX12_isAsked ∈ xm_tb := ms_6 (List.mem_of_getElem? (i := 112) (by decide +kernel)) rfl
theorem tn_440 : Cond.methodLinkNest RX1 56 yX11_isBeyond "EndingCourt" ∈ lw_tbl := mt_2 (List.mem_of_getElem? (i := 200) (by decide +kernel))
theorem tn_763 : Cond.methodLinkNest RX2 35 yX11_isBeyond "EndingCourt" ∈ lw_tbl := mt_4 (List.mem_of_getElem? (i := 43) (by decide +kernel))
theorem fl_X6_9 : xm_fl RX6 9 6 0 2 RX6 TX6 4 tyX6 := ⟨xc_6, by decide, ms_1 (List.mem_of_getElem? (i := 46) (by decide +kernel)) rfl, rfl, rfl⟩
theorem fl_X6_13 : xm_fl RX6 13 6 1 0 RX6 TX6 4 tyX6 := ⟨xc_6, by decide, ms_1 (List.mem_of_getElem? (i := 47) (by decide +kernel)) rfl, rfl, rfl⟩
theorem fl_X6_17 : xm_fl RX6 17 6 2 0 RX6 TX6 4 tyX6 := ⟨xc_6, by decide, ms_1 (List.mem_of_getElem? (i := 48) (by decide +kernel)) rfl, rfl, rfl⟩
theorem fl_X9_44 : xm_fl RX9 44 6 3 3 RX6 TX6 4 tyX6 := ⟨xc_6, by decide, ms_1 (List.mem_of_getElem? (i := 49) (by decide +kernel)) rfl, rfl, rfl⟩
theorem fl_X11_289 : xm_fl RX11 289 6 3 3 RX6 TX6 4 tyX6 := ⟨xc_6, by decide, ms_1 (List.mem_of_getElem? (i := 50) (by decide +kernel)) rfl, rfl, rfl⟩
theorem fl_X0_9 : xm_fl RX0 9 0 0 2 RX0 TX0 2 tyX0 := ⟨xc_0, by decide, ms_1 (List.mem_of_getElem? (i := 66) (by decide +kernel)) rfl, rfl, rfl⟩
theorem fl_X9_59 : xm_fl RX9 59 0 0 2 RX0 TX0 2 tyX0 := ⟨xc_0, by decide, ms_1 (List.mem_of_getElem? (i := 67) (by decide +kernel)) rfl, rfl, rfl⟩
theorem fl_X1_60 : xm_fl RX1 60 0 0 2 RX0 TX0 2 tyX0 := ⟨xc_0, by decide, ms_1 (List.mem_of_getElem? (i := 68) (by decide +kernel)) rfl, rfl, rfl⟩
theorem fl_X0_15 : xm_fl RX0 15 0 1 0 RX0 TX0 2 tyX0 := ⟨xc_0, by decide, ms_1 (List.mem_of_getElem? (i := 69) (by decide +kernel)) rfl, rfl, rfl⟩
theorem fl_X9_65 : xm_fl RX9 65 0 1 0 RX0 TX0 2 tyX0 := ⟨xc_0, by decide, ms_1 (List.mem_of_getElem? (i := 70) (by decide +kernel)) rfl, rfl, rfl⟩
theorem fl_X1_64 : xm_fl RX1 64 0 1 0 RX0 TX0 2 tyX0 := ⟨xc_0, by decide, ms_1 (List.mem_of_getElem? (i := 71) (by decide +kernel)) rfl, rfl, rfl⟩
theorem fl_X1_11 : xm_fl RX1 11 1 0 2 RX1 TX1 5 tyX1 := ⟨xc_1, by decide, ms_1 (List.mem_of_getElem? (i := 78) (by decide +kernel)) rfl, rfl, rfl⟩
theorem fl_X9_55 : xm_fl RX9 55 1 0 2 RX1 TX1 5 tyX1 := ⟨xc_1, by decide, ms_1 (List.mem_of_getElem? (i := 79) (by decide +kernel)) rfl, rfl, rfl⟩
theorem fl_X1_17 : xm_fl RX1 17 1 1 2 RX1 TX1 5 tyX1 := ⟨xc_1, by decide, ms_1 (List.mem_of_getElem? (i := 80) (by decide +kernel)) rfl, rfl, rfl⟩
theorem fl_X8_56 : xm_fl RX8 56 1 1 2 RX1 TX1 5 tyX1 := ⟨xc_1, by decide, ms_1 (List.mem_of_getElem? (i := 81) (by decide +kernel)) rfl, rfl, rfl⟩
theorem fl_X11_131 : xm_fl RX11 131 1 1 2 RX1 TX1 5 tyX1 := ⟨xc_1, by decide, ms_1 (List.mem_of_getElem? (i := 82) (by decide +kernel)) rfl, rfl, rfl⟩
theorem fl_X1_23 : xm_fl RX1 23 1 2 2 RX1 TX1 5 tyX1 := ⟨xc_1, by decide, ms_1 (List.mem_of_getElem? (i := 83) (by decide +kernel)) rfl, rfl, rfl⟩
theorem fl_X9_22 : xm_fl RX9 22 1 2 2 RX1 TX1 5 tyX1 := ⟨xc_1, by decide, ms_1 (List.mem_of_getElem? (i := 84) (by decide +kernel)) rfl, rfl, rfl⟩
theorem fl_X7_43 : xm_fl RX7 43 1 2 2 RX1 TX1 5 tyX1 := ⟨xc_1, by decide, ms_1 (List.mem_of_getElem? (i := 85) (by decide +kernel)) rfl, rfl, rfl⟩
theorem fl_X11_171 : xm_fl RX11 171 1 2 2 RX1 TX1 5 tyX1 := ⟨xc_1, by decide, ms_1 (List.mem_of_getElem? (i := 86) (by decide +kernel)) rfl, rfl, rfl⟩
theorem fl_X1_27 : xm_fl RX1 27 1 3 2 RX1 TX1 5 tyX1 := ⟨xc_1, by decide, ms_1 (List.mem_of_getElem? (i := 87) (by decide +kernel)) rfl, rfl, rfl⟩
theorem fl_X1_32 : xm_fl RX1 32 1 4 0 RX1 TX1 5 tyX1 := ⟨xc_1, by decide, ms_1 (List.mem_of_getElem? (i := 88) (by decide +kernel)) rfl, rfl, rfl⟩
theorem fl_X9_52 : xm_fl RX9 52 1 4 0 RX1 TX1 5 tyX1 := ⟨xc_1, by decide, ms_1 (List.mem_of_getElem? (i := 89) (by decide +kernel)) rfl, rfl, rfl⟩
theorem fl_X11_119 : xm_fl RX11 119 1 4 0 RX1 TX1 5 tyX1 := ⟨xc_1, by decide, ms_1 (List.mem_of_getElem? (i := 90) (by decide +kernel)) rfl, rfl, rfl⟩
theorem fl_X7_11 : xm_fl RX7 11 7 0 2 RX7 TX7 3 tyX7 := ⟨xc_7, by decide, ms_1 (List.mem_of_getElem? (i := 102) (by decide +kernel)) rfl, rfl, rfl⟩
theorem fl_X8_43 : xm_fl RX8 43 7 0 2 RX7 TX7 3 tyX7 := ⟨xc_7, by decide, ms_1 (List.mem_of_getElem? (i := 103) (by decide +kernel)) rfl, rfl, rfl⟩
theorem fl_X11_115 : xm_fl RX11 115 7 0 2 RX7 TX7 3 tyX7 := ⟨xc_7, by decide, ms_1 (List.mem_of_getElem? (i := 104) (by decide +kernel)) rfl, rfl, rfl⟩
theorem fl_X5_93 : xm_fl RX5 93 7 0 2 RX7 TX7 3 tyX7 := ⟨xc_7, by decide, ms_1 (List.mem_of_getElem? (i := 105) (by decide +kernel)) rfl, rfl, rfl⟩
theorem fl_X7_17 : xm_fl RX7 17 7 1 0 RX7 TX7 3 tyX7 := ⟨xc_7, by decide, ms_1 (List.mem_of_getElem? (i := 106) (by decide +kernel)) rfl, rfl, rfl⟩
theorem fl_X11_69 : xm_fl RX11 69 7 1 0 RX7 TX7 3 tyX7 := ⟨xc_7, by decide, ms_1 (List.mem_of_getElem? (i := 107) (by decide +kernel)) rfl, rfl, rfl⟩
theorem fl_X8_53 : xm_fl RX8 53 7 1 0 RX7 TX7 3 tyX7 := ⟨xc_7, by decide, ms_1 (List.mem_of_getElem? (i := 108) (by decide +kernel)) rfl, rfl, rfl⟩
theorem fl_X5_42 : xm_fl RX5 42 7 1 0 RX7 TX7 3 tyX7 := ⟨xc_7, by decide, ms_1 (List.mem_of_getElem? (i := 109) (by decide +kernel)) rfl, rfl, rfl⟩
theorem fl_X7_22 : xm_fl RX7 22 7 2 0 RX7 TX7 3 tyX7 := ⟨xc_7, by decide, ms_1 (List.mem_of_getElem? (i := 110) (by decide +kernel)) rfl, rfl, rfl⟩
theorem fl_X11_98 : xm_fl RX11 98 7 2 0 RX7 TX7 3 tyX7 := ⟨xc_7, by decide, ms_1 (List.mem_of_getElem? (i := 111) (by decide +kernel)) rfl, rfl, rfl⟩
theorem fl_X8_37 : xm_fl RX8 37 7 2 0 RX7 TX7 3 tyX7 := ⟨xc_7, by decide, ms_1 (List.mem_of_getElem? (i := 112) (by decide +kernel)) rfl, rfl, rfl⟩
theorem fl_X5_80 : xm_fl RX5 80 7 2 0 RX7 TX7 3 tyX7 := ⟨xc_7, by decide, ms_1 (List.mem_of_getElem? (i := 113) (by decide +kernel)) rfl, rfl, rfl⟩
theorem fl_X4_9 : xm_fl RX4 9 4 0 2 RX4 TX4 3 tyX4 := ⟨xc_4, by decide, ms_1 (List.mem_of_getElem? (i := 127) (by decide +kernel)) rfl, rfl, rfl⟩
theorem fl_X4_15 : xm_fl RX4 15 4 1 2 RX4 TX4 3 tyX4 := ⟨xc_4, by decide, ms_1 (List.mem_of_getElem? (i := 128) (by decide +kernel)) rfl, rfl, rfl⟩
theorem fl_X4_18 : xm_fl RX4 18 4 2 0 RX4 TX4 3 tyX4 := ⟨xc_4, by decide, ms_1 (List.mem_of_getElem? (i := 129) (by decide +kernel)) rfl, rfl, rfl⟩
theorem fl_X11_157 : xm_fl RX11 157 4 2 0 RX4 TX4 3 tyX4 := ⟨xc_4, by decide, ms_1 (List.mem_of_getElem? (i := 130) (by decide +kernel)) rfl, rfl, rfl⟩
theorem fl_X2_9 : xm_fl RX2 9 2 0 2 RX2 TX2 1 tyX2 := ⟨xc_2, by decide, ms_1 (List.mem_of_getElem? (i := 144) (by decide +kernel)) rfl, rfl, rfl⟩
theorem fl_X8_70 : xm_fl RX8 70 2 0 2 RX2 TX2 1 tyX2 := ⟨xc_2, by decide, ms_1 (List.mem_of_getElem? (i := 145) (by decide +kernel)) rfl, rfl, rfl⟩
theorem fl_X8_12 : xm_fl RX8 12 8 0 2 RX8 TX8 2 tyX8 := ⟨xc_8, by decide, ms_1 (List.mem_of_getElem? (i := 157) (by decide +kernel)) rfl, rfl, rfl⟩
theorem fl_X11_251 : xm_fl RX11 251 8 0 2 RX8 TX8 2 tyX8 := ⟨xc_8, by decide, ms_1 (List.mem_of_getElem? (i := 158) (by decide +kernel)) rfl, rfl, rfl⟩
theorem fl_X8_18 : xm_fl RX8 18 8 1 2 RX8 TX8 2 tyX8 := ⟨xc_8, by decide, ms_1 (List.mem_of_getElem? (i := 159) (by decide +kernel)) rfl, rfl, rfl⟩
theorem fl_X9_11 : xm_fl RX9 11 9 0 2 RX9 TX9 4 tyX9 := ⟨xc_9, by decide, ms_1 (List.mem_of_getElem? (i := 171) (by decide +kernel)) rfl, rfl, rfl⟩
theorem fl_X9_48 : xm_fl RX9 48 9 1 0 RX9 TX9 4 tyX9 := ⟨xc_9, by decide, ms_1 (List.mem_of_getElem? (i := 172) (by decide +kernel)) rfl, rfl, rfl⟩
theorem fl_X9_86 : xm_fl RX9 86 9 2 0 RX9 TX9 4 tyX9 := ⟨xc_9, by decide, ms_1 (List.mem_of_getElem? (i := 173) (by decide +kernel)) rfl, rfl, rfl⟩
theorem fl_X9_15 : xm_fl RX9 15 9 3 2 RX9 TX9 4 tyX9 := ⟨xc_9, by decide, ms_1 (List.mem_of_getElem? (i := 174) (by decide +kernel)) rfl, rfl, rfl⟩
theorem fl_X10_9 : xm_fl RX10 9 10 0 2 RX10 TX10 6 tyX10 := ⟨xc_10, by decide, ms_1 (List.mem_of_getElem? (i := 196) (by decide +kernel)) rfl, rfl, rfl⟩
theorem fl_X5_55 : xm_fl RX5 55 10 0 2 RX10 TX10 6 tyX10 := ⟨xc_10, by decide, ms_1 (List.mem_of_getElem? (i := 197) (by decide +kernel)) rfl, rfl, rfl⟩
theorem fl_X10_15 : xm_fl RX10 15 10 1 0 RX10 TX10 6 tyX10 := ⟨xc_10, by decide, ms_1 (List.mem_of_getElem? (i := 198) (by decide +kernel)) rfl, rfl, rfl⟩
theorem fl_X10_19 : xm_fl RX10 19 10 2 0 RX10 TX10 6 tyX10 := ⟨xc_10, by decide, ms_1 (List.mem_of_getElem? (i := 199) (by decide +kernel)) rfl, rfl, rfl⟩
theorem fl_X10_22 : xm_fl RX10 22 10 3 0 RX10 TX10 6 tyX10 := ⟨xc_10, by decide, ms_1 (List.mem_of_getElem? (i := 200) (by decide +kernel)) rfl, rfl, rfl⟩
theorem fl_X10_25 : xm_fl RX10 25 10 4 0 RX10 TX10 6 tyX10 := ⟨xc_10, by decide, ms_1 (List.mem_of_getElem? (i := 201) (by decide +kernel)) rfl, rfl, rfl⟩
theorem fl_X10_28 : xm_fl RX10 28 10 5 0 RX10 TX10 6 tyX10 := ⟨xc_10, by decide, ms_1 (List.mem_of_getElem? (i := 202) (by decide +kernel)) rfl, rfl, rfl⟩
theorem fl_X5_12 : xm_fl RX5 12 5 0 2 RX5 TX5 7 tyX5 := ⟨xc_5, by decide, ms_1 (List.mem_of_getElem? (i := 219) (by decide +kernel)) rfl, rfl, rfl⟩
theorem fl_X5_18 : xm_fl RX5 18 5 1 2 RX5 TX5 7 tyX5 := ⟨xc_5, by decide, ms_1 (List.mem_of_getElem? (i := 220) (by decide +kernel)) rfl, rfl, rfl⟩
theorem fl_X5_34 : xm_fl RX5 34 5 2 0 RX5 TX5 7 tyX5 := ⟨xc_5, by decide, ms_1 (List.mem_of_getElem? (i := 221) (by decide +kernel)) rfl, rfl, rfl⟩
theorem fl_X5_22 : xm_fl RX5 22 5 3 2 RX5 TX5 7 tyX5 := ⟨xc_5, by decide, ms_1 (List.mem_of_getElem? (i := 222) (by decide +kernel)) rfl, rfl, rfl⟩
theorem fl_X11_205 : xm_fl RX11 205 5 3 2 RX5 TX5 7 tyX5 := ⟨xc_5, by decide, ms_1 (List.mem_of_getElem? (i := 223) (by decide +kernel)) rfl, rfl, rfl⟩
theorem fl_X5_25 : xm_fl RX5 25 5 4 2 RX5 TX5 7 tyX5 := ⟨xc_5, by decide, ms_1 (List.mem_of_getElem? (i := 224) (by decide +kernel)) rfl, rfl, rfl⟩
theorem fl_X5_72 : xm_fl RX5 72 5 5 1 RX5 TX5 7 tyX5 := ⟨xc_5, by decide, ms_1 (List.mem_of_getElem? (i := 225) (by decide +kernel)) rfl, rfl, rfl⟩
theorem fl_X11_224 : xm_fl RX11 224 5 5 1 RX5 TX5 7 tyX5 := ⟨xc_5, by decide, ms_1 (List.mem_of_getElem? (i := 226) (by decide +kernel)) rfl, rfl, rfl⟩
theorem fl_X5_38 : xm_fl RX5 38 5 6 3 RX5 TX5 7 tyX5 := ⟨xc_5, by decide, ms_1 (List.mem_of_getElem? (i := 227) (by decide +kernel)) rfl, rfl, rfl⟩
theorem fl_X11_208 : xm_fl RX11 208 5 6 3 RX5 TX5 7 tyX5 := ⟨xc_5, by decide, ms_1 (List.mem_of_getElem? (i := 228) (by decide +kernel)) rfl, rfl, rfl⟩
theorem fl_X3_9 : xm_fl RX3 9 3 0 2 RX3 TX3 8 tyX3 := ⟨xc_3, by decide, ms_2 (List.mem_of_getElem? (i := 10) (by decide +kernel)) rfl, rfl, rfl⟩
theorem fl_X3_32 : xm_fl RX3 32 3 1 0 RX3 TX3 8 tyX3 := ⟨xc_3, by decide, ms_2 (List.mem_of_getElem? (i := 11) (by decide +kernel)) rfl, rfl, rfl⟩
theorem fl_X11_269 : xm_fl RX11 269 3 1 0 RX3 TX3 8 tyX3 := ⟨xc_3, by decide, ms_2 (List.mem_of_getElem? (i := 12) (by decide +kernel)) rfl, rfl, rfl⟩
theorem fl_X3_15 : xm_fl RX3 15 3 2 2 RX3 TX3 8 tyX3 := ⟨xc_3, by decide, ms_2 (List.mem_of_getElem? (i := 13) (by decide +kernel)) rfl, rfl, rfl⟩
theorem fl_X3_47 : xm_fl RX3 47 3 3 0 RX3 TX3 8 tyX3 := ⟨xc_3, by decide, ms_2 (List.mem_of_getElem? (i := 14) (by decide +kernel)) rfl, rfl, rfl⟩
theorem fl_X3_18 : xm_fl RX3 18 3 4 2 RX3 TX3 8 tyX3 := ⟨xc_3, by decide, ms_2 (List.mem_of_getElem? (i := 15) (by decide +kernel)) rfl, rfl, rfl⟩
theorem fl_X3_22 : xm_fl RX3 22 3 5 0 RX3 TX3 8 tyX3 := ⟨xc_3, by decide, ms_2 (List.mem_of_getElem? (i := 16) (by decide +kernel)) rfl, rfl, rfl⟩
theorem fl_X11_280 : xm_fl RX11 280 3 5 0 RX3 TX3 8 tyX3 := ⟨xc_3, by decide, ms_2 (List.mem_of_getElem? (i := 17) (by decide +kernel)) rfl, rfl, rfl⟩
theorem fl_X3_26 : xm_fl RX3 26 3 6 0 RX3 TX3 8 tyX3 := ⟨xc_3, by decide, ms_2 (List.mem_of_getElem? (i := 18) (by decide +kernel)) rfl, rfl, rfl⟩
theorem fl_X11_283 : xm_fl RX11 283 3 6 0 RX3 TX3 8 tyX3 := ⟨xc_3, by decide, ms_2 (List.mem_of_getElem? (i := 19) (by decide +kernel)) rfl, rfl, rfl⟩
theorem fl_X3_29 : xm_fl RX3 29 3 7 0 RX3 TX3 8 tyX3 := ⟨xc_3, by decide, ms_2 (List.mem_of_getElem? (i := 20) (by decide +kernel)) rfl, rfl, rfl⟩
theorem fl_X11_286 : xm_fl RX11 286 3 7 0 RX3 TX3 8 tyX3 := ⟨xc_3, by decide, ms_2 (List.mem_of_getElem? (i := 21) (by decide +kernel)) rfl, rfl, rfl⟩
theorem fl_X11_10 : xm_fl RX11 10 11 0 2 RX11 TX11 10 tyX11 := ⟨xc_11, by decide, ms_2 (List.mem_of_getElem? (i := 44) (by decide +kernel)) rfl, rfl, rfl⟩
theorem fl_X11_16 : xm_fl RX11 16 11 1 2 RX11 TX11 10 tyX11 := ⟨xc_11, by decide, ms_2 (List.mem_of_getElem? (i := 45) (by decide +kernel)) rfl, rfl, rfl⟩
theorem fl_X11_23 : xm_fl RX11 23 11 2 2 RX11 TX11 10 tyX11 := ⟨xc_11, by decide, ms_2 (List.mem_of_getElem? (i := 46) (by decide +kernel)) rfl, rfl, rfl⟩
theorem fl_X11_30 : xm_fl RX11 30 11 3 2 RX11 TX11 10 tyX11 := ⟨xc_11, by decide, ms_2 (List.mem_of_getElem? (i := 47) (by decide +kernel)) rfl, rfl, rfl⟩
theorem fl_X11_34 : xm_fl RX11 34 11 4 2 RX11 TX11 10 tyX11 := ⟨xc_11, by decide, ms_2 (List.mem_of_getElem? (i := 48) (by decide +kernel)) rfl, rfl, rfl⟩
theorem fl_X11_40 : xm_fl RX11 40 11 5 2 RX11 TX11 10 tyX11 := ⟨xc_11, by decide, ms_2 (List.mem_of_getElem? (i := 49) (by decide +kernel)) rfl, rfl, rfl⟩
theorem fl_X11_47 : xm_fl RX11 47 11 6 2 RX11 TX11 10 tyX11 := ⟨xc_11, by decide, ms_2 (List.mem_of_getElem? (i := 50) (by decide +kernel)) rfl, rfl, rfl⟩
theorem fl_X11_54 : xm_fl RX11 54 11 7 2 RX11 TX11 10 tyX11 := ⟨xc_11, by decide, ms_2 (List.mem_of_getElem? (i := 51) (by decide +kernel)) rfl, rfl, rfl⟩
theorem fl_X11_58 : xm_fl RX11 58 11 8 2 RX11 TX11 10 tyX11 := ⟨xc_11, by decide, ms_2 (List.mem_of_getElem? (i := 52) (by decide +kernel)) rfl, rfl, rfl⟩
theorem fl_X11_65 : xm_fl RX11 65 11 9 2 RX11 TX11 10 tyX11 := ⟨xc_11, by decide, ms_2 (List.mem_of_getElem? (i := 53) (by decide +kernel)) rfl, rfl, rfl⟩
theorem fl_X12_7 : xm_fl RX12 7 12 0 0 RX12 TX12 50 tyX12 := ⟨xc_12, by decide, ms_4 (List.mem_of_getElem? (i := 147) (by decide +kernel)) rfl, rfl, rfl⟩
theorem fl_X12_135 : xm_fl RX12 135 12 1 0 RX12 TX12 50 tyX12 := ⟨xc_12, by decide, ms_4 (List.mem_of_getElem? (i := 148) (by decide +kernel)) rfl, rfl, rfl⟩
theorem fl_X12_13 : xm_fl RX12 13 12 2 2 RX12 TX12 50 tyX12 := ⟨xc_12, by decide, ms_4 (List.mem_of_getElem? (i := 149) (by decide +kernel)) rfl, rfl, rfl⟩
theorem fl_X12_17 : xm_fl RX12 17 12 3 2 RX12 TX12 50 tyX12 := ⟨xc_12, by decide, ms_4 (List.mem_of_getElem? (i := 150) (by decide +kernel)) rfl, rfl, rfl⟩
theorem fl_X12_20 : xm_fl RX12 20 12 4 2 RX12 TX12 50 tyX12 := ⟨xc_12, by decide, ms_4 (List.mem_of_getElem? (i := 151) (by decide +kernel)) rfl, rfl, rfl⟩
theorem fl_X12_23 : xm_fl RX12 23 12 5 2 RX12 TX12 50 tyX12 := ⟨xc_12, by decide, ms_4 (List.mem_of_getElem? (i := 152) (by decide +kernel)) rfl, rfl, rfl⟩
theorem fl_X12_27 : xm_fl RX12 27 12 6 2 RX12 TX12 50 tyX12 := ⟨xc_12, by decide, ms_4 (List.mem_of_getElem? (i := 153) (by decide +kernel)) rfl, rfl, rfl⟩
theorem fl_X12_30 : xm_fl RX12 30 12 7 2 RX12 TX12 50 tyX12 := ⟨xc_12, by decide, ms_4 (List.mem_of_getElem? (i := 154) (by decide +kernel)) rfl, rfl, rfl⟩
theorem fl_X12_34 : xm_fl RX12 34 12 8 2 RX12 TX12 50 tyX12 := ⟨xc_12, by decide, ms_4 (List.mem_of_getElem? (i := 155) (by decide +kernel)) rfl, rfl, rfl⟩
theorem fl_X12_37 : xm_fl RX12 37 12 9 2 RX12 TX12 50 tyX12 := ⟨xc_12, by decide, ms_4 (List.mem_of_getElem? (i := 156) (by decide +kernel)) rfl, rfl, rfl⟩
theorem fl_X12_40 : xm_fl RX12 40 12 10 2 RX12 TX12 50 tyX12 := ⟨xc_12, by decide, ms_4 (List.mem_of_getElem? (i := 157) (by decide +kernel)) rfl, rfl, rfl⟩
theorem fl_X12_185 : xm_fl RX12 185 12 11 0 RX12 TX12 50 tyX12 := ⟨xc_12, by decide, ms_4 (List.mem_of_getElem? (i := 158) (by decide +kernel)) rfl, rfl, rfl⟩
theorem fl_X12_243 : xm_fl RX12 243 12 13 1 RX12 TX12 50 tyX12 := ⟨xc_12, by decide, ms_4 (List.mem_of_getElem? (i := 160) (by decide +kernel)) rfl, rfl, rfl⟩
theorem fl_X12_247 : xm_fl RX12 247 12 14 1 RX12 TX12 50 tyX12 := ⟨xc_12, by decide, ms_4 (List.mem_of_getElem? (i := 161) (by decide +kernel)) rfl, rfl, rfl⟩
theorem fl_X12_250 : xm_fl RX12 250 12 15 1 RX12 TX12 50 tyX12 := ⟨xc_12, by decide, ms_4 (List.mem_of_getElem? (i := 162) (by decide +kernel)) rfl, rfl, rfl⟩
theorem fl_X12_240 : xm_fl RX12 240 12 16 3 RX12 TX12 50 tyX12 := ⟨xc_12, by decide, ms_4 (List.mem_of_getElem? (i := 163) (by decide +kernel)) rfl, rfl, rfl⟩
theorem fl_X12_194 : xm_fl RX12 194 12 17 3 RX12 TX12 50 tyX12 := ⟨xc_12, by decide, ms_4 (List.mem_of_getElem? (i := 164) (by decide +kernel)) rfl, rfl, rfl⟩
theorem fl_X12_46 : xm_fl RX12 46 12 18 2 RX12 TX12 50 tyX12 := ⟨xc_12, by decide, ms_4 (List.mem_of_getElem? (i := 165) (by decide +kernel)) rfl, rfl, rfl⟩
theorem fl_X12_138 : xm_fl RX12 138 12 19 0 RX12 TX12 50 tyX12 := ⟨xc_12, by decide, ms_4 (List.mem_of_getElem? (i := 166) (by decide +kernel)) rfl, rfl, rfl⟩
theorem fl_X12_49 : xm_fl RX12 49 12 20 2 RX12 TX12 50 tyX12 := ⟨xc_12, by decide, ms_4 (List.mem_of_getElem? (i := 167) (by decide +kernel)) rfl, rfl, rfl⟩
theorem fl_X12_131 : xm_fl RX12 131 12 21 3 RX12 TX12 50 tyX12 := ⟨xc_12, by decide, ms_4 (List.mem_of_getElem? (i := 168) (by decide +kernel)) rfl, rfl, rfl⟩
theorem fl_X12_52 : xm_fl RX12 52 12 22 2 RX12 TX12 50 tyX12 := ⟨xc_12, by decide, ms_4 (List.mem_of_getElem? (i := 169) (by decide +kernel)) rfl, rfl, rfl⟩
theorem fl_X12_55 : xm_fl RX12 55 12 23 2 RX12 TX12 50 tyX12 := ⟨xc_12, by decide, ms_4 (List.mem_of_getElem? (i := 170) (by decide +kernel)) rfl, rfl, rfl⟩
theorem fl_X12_58 : xm_fl RX12 58 12 24 2 RX12 TX12 50 tyX12 := ⟨xc_12, by decide, ms_4 (List.mem_of_getElem? (i := 171) (by decide +kernel)) rfl, rfl, rfl⟩
theorem fl_X12_62 : xm_fl RX12 62 12 25 2 RX12 TX12 50 tyX12 := ⟨xc_12, by decide, ms_4 (List.mem_of_getElem? (i := 172) (by decide +kernel)) rfl, rfl, rfl⟩
theorem fl_X12_65 : xm_fl RX12 65 12 26 0 RX12 TX12 50 tyX12 := ⟨xc_12, by decide, ms_4 (List.mem_of_getElem? (i := 173) (by decide +kernel)) rfl, rfl, rfl⟩
theorem fl_X12_68 : xm_fl RX12 68 12 27 2 RX12 TX12 50 tyX12 := ⟨xc_12, by decide, ms_4 (List.mem_of_getElem? (i := 174) (by decide +kernel)) rfl, rfl, rfl⟩
theorem fl_X12_71 : xm_fl RX12 71 12 28 2 RX12 TX12 50 tyX12 := ⟨xc_12, by decide, ms_4 (List.mem_of_getElem? (i := 175) (by decide +kernel)) rfl, rfl, rfl⟩
theorem fl_X12_74 : xm_fl RX12 74 12 29 2 RX12 TX12 50 tyX12 := ⟨xc_12, by decide, ms_4 (List.mem_of_getElem? (i := 176) (by decide +kernel)) rfl, rfl, rfl⟩
theorem fl_X12_77 : xm_fl RX12 77 12 30 2 RX12 TX12 50 tyX12 := ⟨xc_12, by decide, ms_4 (List.mem_of_getElem? (i := 177) (by decide +kernel)) rfl, rfl, rfl⟩
theorem fl_X12_80 : xm_fl RX12 80 12 31 2 RX12 TX12 50 tyX12 := ⟨xc_12, by decide, ms_4 (List.mem_of_getElem? (i := 178) (by decide +kernel)) rfl, rfl, rfl⟩
theorem fl_X12_83 : xm_fl RX12 83 12 32 2 RX12 TX12 50 tyX12 := ⟨xc_12, by decide, ms_4 (List.mem_of_getElem? (i := 179) (by decide +kernel)) rfl, rfl, rfl⟩
theorem fl_X12_86 : xm_fl RX12 86 12 33 2 RX12 TX12 50 tyX12 := ⟨xc_12, by decide, ms_4 (List.mem_of_getElem? (i := 180) (by decide +kernel)) rfl, rfl, rfl⟩
theorem fl_X12_89 : xm_fl RX12 89 12 34 2 RX12 TX12 50 tyX12 := ⟨xc_12, by decide, ms_4 (List.mem_of_getElem? (i := 181) (by decide +kernel)) rfl, rfl, rfl⟩
theorem fl_X12_92 : xm_fl RX12 92 12 35 2 RX12 TX12 50 tyX12 := ⟨xc_12, by decide, ms_4 (List.mem_of_getElem? (i := 182) (by decide +kernel)) rfl, rfl, rfl⟩
theorem fl_X12_348 : xm_fl RX12 348 12 36 0 RX12 TX12 50 tyX12 := ⟨xc_12, by decide, ms_4 (List.mem_of_getElem? (i := 183) (by decide +kernel)) rfl, rfl, rfl⟩
theorem fl_X12_95 : xm_fl RX12 95 12 37 2 RX12 TX12 50 tyX12 := ⟨xc_12, by decide, ms_4 (List.mem_of_getElem? (i := 184) (by decide +kernel)) rfl, rfl, rfl⟩
theorem fl_X12_98 : xm_fl RX12 98 12 38 2 RX12 TX12 50 tyX12 := ⟨xc_12, by decide, ms_4 (List.mem_of_getElem? (i := 185) (by decide +kernel)) rfl, rfl, rfl⟩
theorem fl_X12_101 : xm_fl RX12 101 12 39 2 RX12 TX12 50 tyX12 := ⟨xc_12, by decide, ms_4 (List.mem_of_getElem? (i := 186) (by decide +kernel)) rfl, rfl, rfl⟩
theorem fl_X12_104 : xm_fl RX12 104 12 40 0 RX12 TX12 50 tyX12 := ⟨xc_12, by decide, ms_4 (List.mem_of_getElem? (i := 187) (by decide +kernel)) rfl, rfl, rfl⟩
theorem fl_X12_107 : xm_fl RX12 107 12 41 0 RX12 TX12 50 tyX12 := ⟨xc_12, by decide, ms_4 (List.mem_of_getElem? (i := 188) (by decide +kernel)) rfl, rfl, rfl⟩
theorem fl_X12_110 : xm_fl RX12 110 12 42 0 RX12 TX12 50 tyX12 := ⟨xc_12, by decide, ms_4 (List.mem_of_getElem? (i := 189) (by decide +kernel)) rfl, rfl, rfl⟩
theorem fl_X12_113 : xm_fl RX12 113 12 43 0 RX12 TX12 50 tyX12 := ⟨xc_12, by decide, ms_4 (List.mem_of_getElem? (i := 190) (by decide +kernel)) rfl, rfl, rfl⟩
theorem fl_X12_116 : xm_fl RX12 116 12 44 2 RX12 TX12 50 tyX12 := ⟨xc_12, by decide, ms_4 (List.mem_of_getElem? (i := 191) (by decide +kernel)) rfl, rfl, rfl⟩
theorem fl_X12_119 : xm_fl RX12 119 12 45 2 RX12 TX12 50 tyX12 := ⟨xc_12, by decide, ms_4 (List.mem_of_getElem? (i := 192) (by decide +kernel)) rfl, rfl, rfl⟩
theorem fl_X12_122 : xm_fl RX12 122 12 46 2 RX12 TX12 50 tyX12 := ⟨xc_12, by decide, ms_4 (List.mem_of_getElem? (i := 193) (by decide +kernel)) rfl, rfl, rfl⟩
theorem fl_X12_125 : xm_fl RX12 125 12 47 2 RX12 TX12 50 tyX12 := ⟨xc_12, by decide, ms_4 (List.mem_of_getElem? (i := 194) (by decide +kernel)) rfl, rfl, rfl⟩
theorem fl_X12_322 : xm_fl RX12 322 12 48 3 RX12 TX12 50 tyX12 := ⟨xc_12, by decide, ms_4 (List.mem_of_getElem? (i := 195) (by decide +kernel)) rfl, rfl, rfl⟩
theorem fl_X12_325 : xm_fl RX12 325 12 49 1 RX12 TX12 50 tyX12 := ⟨xc_12, by decide, ms_4 (List.mem_of_getElem? (i := 196) (by decide +kernel)) rfl, rfl, rfl⟩
abbrev mt_J7_fill_d0a16 : xm_M := (yJ7_fill_d0a16, cJ7_fill_d0a16, 5, none, 0, 0)
theorem ok_J7_fill_d0a16 : xm_ok mt_J7_fill_d0a16 2 := ⟨plainFor_of_name (by decide +kernel), ms_2 (List.mem_of_getElem? (i := 85) (by decide +kernel)) rfl, ms_1 (List.mem_of_getElem? (i := 12) (by decide +kernel)) rfl, by decide +kernel, by decide +kernel, by decide +kernel⟩
theorem st_J7_fill_d0a16 : Cond.static yJ7_fill_d0a16 ∈ xm_tb := ms_2 (List.mem_of_getElem? (i := 84) (by decide +kernel)) rfl
abbrev mt_J7_fill_53178 : xm_M := (yJ7_fill_53178, cJ7_fill_53178, 4, none, 0, 0)
theorem ok_J7_fill_53178 : xm_ok mt_J7_fill_53178 2 := ⟨plainFor_of_name (by decide +kernel), ms_1 (List.mem_of_getElem? (i := 218) (by decide +kernel)) rfl, ms_1 (List.mem_of_getElem? (i := 12) (by decide +kernel)) rfl, by decide +kernel, by decide +kernel, by decide +kernel⟩
theorem st_J7_fill_53178 : Cond.static yJ7_fill_53178 ∈ xm_tb := ms_1 (List.mem_of_getElem? (i := 217) (by decide +kernel)) rfl
abbrev mt_J9_floorDiv_f86c9 : xm_M := (yJ9_floorDiv_f86c9, cJ9_floorDiv_f86c9, 6, (some .long), 0, 0)
theorem ok_J9_floorDiv_f86c9 : xm_ok mt_J9_floorDiv_f86c9 2 := ⟨by decide +kernel, ms_3 (List.mem_of_getElem? (i := 130) (by decide +kernel)) rfl, ms_1 (List.mem_of_getElem? (i := 16) (by decide +kernel)) rfl, by decide +kernel, by decide +kernel, by decide +kernel⟩
theorem st_J9_floorDiv_f86c9 : Cond.static yJ9_floorDiv_f86c9 ∈ xm_tb := ms_3 (List.mem_of_getElem? (i := 129) (by decide +kernel)) rfl
abbrev mt_J9_floorMod_f86c9 : xm_M := (yJ9_floorMod_f86c9, cJ9_floorMod_f86c9, 6, (some .long), 0, 0)
theorem ok_J9_floorMod_f86c9 : xm_ok mt_J9_floorMod_f86c9 2 := ⟨by decide +kernel, ms_5 (List.mem_of_getElem? (i := 218) (by decide +kernel)) rfl, ms_1 (List.mem_of_getElem? (i := 16) (by decide +kernel)) rfl, by decide +kernel, by decide +kernel, by decide +kernel⟩
theorem st_J9_floorMod_f86c9 : Cond.static yJ9_floorMod_f86c9 ∈ xm_tb := ms_5 (List.mem_of_getElem? (i := 217) (by decide +kernel)) rfl
abbrev mt_J9_abs_0f7a4 : xm_M := (yJ9_abs_0f7a4, cJ9_abs_0f7a4, 1, (some .int), 0, 0)
theorem ok_J9_abs_0f7a4 : xm_ok mt_J9_abs_0f7a4 1 := ⟨by decide +kernel, ms_3 (List.mem_of_getElem? (i := 160) (by decide +kernel)) rfl, ms_1 (List.mem_of_getElem? (i := 16) (by decide +kernel)) rfl, by decide +kernel, by decide +kernel, by decide +kernel⟩
theorem st_J9_abs_0f7a4 : Cond.static yJ9_abs_0f7a4 ∈ xm_tb := ms_3 (List.mem_of_getElem? (i := 159) (by decide +kernel)) rfl
abbrev mt_J9_abs_067f4 : xm_M := (yJ9_abs_067f4, cJ9_abs_067f4, 2, (some .long), 0, 0)
theorem ok_J9_abs_067f4 : xm_ok mt_J9_abs_067f4 1 := ⟨by decide +kernel, ms_3 (List.mem_of_getElem? (i := 51) (by decide +kernel)) rfl, ms_1 (List.mem_of_getElem? (i := 16) (by decide +kernel)) rfl, by decide +kernel, by decide +kernel, by decide +kernel⟩
theorem st_J9_abs_067f4 : Cond.static yJ9_abs_067f4 ∈ xm_tb := ms_3 (List.mem_of_getElem? (i := 50) (by decide +kernel)) rfl
abbrev mt_J9_max_f86c9 : xm_M := (yJ9_max_f86c9, cJ9_max_f86c9, 4, (some .long), 0, 0)
theorem ok_J9_max_f86c9 : xm_ok mt_J9_max_f86c9 2 := ⟨by decide +kernel, ms_3 (List.mem_of_getElem? (i := 219) (by decide +kernel)) rfl, ms_1 (List.mem_of_getElem? (i := 16) (by decide +kernel)) rfl, by decide +kernel, by decide +kernel, by decide +kernel⟩
theorem st_J9_max_f86c9 : Cond.static yJ9_max_f86c9 ∈ xm_tb := ms_3 (List.mem_of_getElem? (i := 218) (by decide +kernel)) rfl
abbrev mt_J9_min_f86c9 : xm_M := (yJ9_min_f86c9, cJ9_min_f86c9, 4, (some .long), 0, 0)
theorem ok_J9_min_f86c9 : xm_ok mt_J9_min_f86c9 2 := ⟨by decide +kernel, ms_3 (List.mem_of_getElem? (i := 133) (by decide +kernel)) rfl, ms_1 (List.mem_of_getElem? (i := 16) (by decide +kernel)) rfl, by decide +kernel, by decide +kernel, by decide +kernel⟩
theorem st_J9_min_f86c9 : Cond.static yJ9_min_f86c9 ∈ xm_tb := ms_3 (List.mem_of_getElem? (i := 132) (by decide +kernel)) rfl
abbrev mt_X0_put : xm_M := (yX0_put, cX0_put, 6, none, 0, 0)
theorem ok_X0_put : xm_ok mt_X0_put 3 := ⟨plainFor_of_name (by decide +kernel), ms_2 (List.mem_of_getElem? (i := 145) (by decide +kernel)) rfl, ms_1 (List.mem_of_getElem? (i := 5) (by decide +kernel)) rfl, by decide +kernel, by decide +kernel, by decide +kernel⟩
theorem im_X0_put : Cond.instanceMethod yX0_put ∈ xm_tb := ms_2 (List.mem_of_getElem? (i := 143) (by decide +kernel)) rfl
theorem se_X0_put : Cond.selects RX0 yX0_put yX0_put ∈ xm_tb := ms_2 (List.mem_of_getElem? (i := 144) (by decide +kernel)) rfl
abbrev mt_X0_putSame : xm_M := (yX0_putSame, cX0_putSame, 3, none, 0, 0)
theorem ok_X0_putSame : xm_ok mt_X0_putSame 1 := ⟨plainFor_of_name (by decide +kernel), ms_2 (List.mem_of_getElem? (i := 122) (by decide +kernel)) rfl, ms_1 (List.mem_of_getElem? (i := 5) (by decide +kernel)) rfl, by decide +kernel, by decide +kernel, by decide +kernel⟩
theorem im_X0_putSame : Cond.instanceMethod yX0_putSame ∈ xm_tb := ms_2 (List.mem_of_getElem? (i := 120) (by decide +kernel)) rfl
theorem se_X0_putSame : Cond.selects RX0 yX0_putSame yX0_putSame ∈ xm_tb := ms_2 (List.mem_of_getElem? (i := 121) (by decide +kernel)) rfl
abbrev mt_X0_valueAt : xm_M := (yX0_valueAt, cX0_valueAt, 2, (some .long), 0, 0)
theorem ok_X0_valueAt : xm_ok mt_X0_valueAt 1 := ⟨plainFor_of_name (by decide +kernel), ms_2 (List.mem_of_getElem? (i := 194) (by decide +kernel)) rfl, ms_1 (List.mem_of_getElem? (i := 5) (by decide +kernel)) rfl, by decide +kernel, by decide +kernel, by decide +kernel⟩
theorem im_X0_valueAt : Cond.instanceMethod yX0_valueAt ∈ xm_tb := ms_2 (List.mem_of_getElem? (i := 192) (by decide +kernel)) rfl
theorem se_X0_valueAt : Cond.selects RX0 yX0_valueAt yX0_valueAt ∈ xm_tb := ms_2 (List.mem_of_getElem? (i := 193) (by decide +kernel)) rfl
abbrev mt_X2_end : xm_M := (yX2_end, cX2_end, 3, (some .long), 0, 0)
theorem ok_X2_end : xm_ok mt_X2_end 2 := ⟨plainFor_of_name (by decide +kernel), ms_3 (List.mem_of_getElem? (i := 26) (by decide +kernel)) rfl, ms_1 (List.mem_of_getElem? (i := 7) (by decide +kernel)) rfl, by decide +kernel, by decide +kernel, by decide +kernel⟩
theorem im_X2_end : Cond.instanceMethod yX2_end ∈ xm_tb := ms_3 (List.mem_of_getElem? (i := 24) (by decide +kernel)) rfl
theorem se_X2_end : Cond.selects RX2 yX2_end yX2_end ∈ xm_tb := ms_3 (List.mem_of_getElem? (i := 25) (by decide +kernel)) rfl
abbrev mt_X0_farthest : xm_M := (yX0_farthest, cX0_farthest, 8, (some .long), 1, 22)
theorem ok_X0_farthest : xm_ok mt_X0_farthest 2 := ⟨plainFor_of_name (by decide +kernel), ms_4 (List.mem_of_getElem? (i := 21) (by decide +kernel)) rfl, ms_1 (List.mem_of_getElem? (i := 5) (by decide +kernel)) rfl, by decide +kernel, by decide +kernel, by decide +kernel⟩
theorem im_X0_farthest : Cond.instanceMethod yX0_farthest ∈ xm_tb := ms_4 (List.mem_of_getElem? (i := 19) (by decide +kernel)) rfl
theorem se_X0_farthest : Cond.selects RX0 yX0_farthest yX0_farthest ∈ xm_tb := ms_4 (List.mem_of_getElem? (i := 20) (by decide +kernel)) rfl
abbrev mt_X1_startAnew : xm_M := (yX1_startAnew, cX1_startAnew, 2, none, 1, 22)
theorem ok_X1_startAnew : xm_ok mt_X1_startAnew 0 := ⟨plainFor_of_name (by decide +kernel), ms_2 (List.mem_of_getElem? (i := 118) (by decide +kernel)) rfl, ms_1 (List.mem_of_getElem? (i := 3) (by decide +kernel)) rfl, by decide +kernel, by decide +kernel, by decide +kernel⟩
theorem im_X1_startAnew : Cond.instanceMethod yX1_startAnew ∈ xm_tb := ms_2 (List.mem_of_getElem? (i := 116) (by decide +kernel)) rfl
theorem se_X1_startAnew : Cond.selects RX1 yX1_startAnew yX1_startAnew ∈ xm_tb := ms_2 (List.mem_of_getElem? (i := 117) (by decide +kernel)) rfl
abbrev mt_X1_addGuard : xm_M := (yX1_addGuard, cX1_addGuard, 4, none, 1, 25)
theorem ok_X1_addGuard : xm_ok mt_X1_addGuard 3 := ⟨plainFor_of_name (by decide +kernel), ms_2 (List.mem_of_getElem? (i := 141) (by decide +kernel)) rfl, ms_1 (List.mem_of_getElem? (i := 3) (by decide +kernel)) rfl, by decide +kernel, by decide +kernel, by decide +kernel⟩
theorem im_X1_addGuard : Cond.instanceMethod yX1_addGuard ∈ xm_tb := ms_2 (List.mem_of_getElem? (i := 139) (by decide +kernel)) rfl
theorem se_X1_addGuard : Cond.selects RX1 yX1_addGuard yX1_addGuard ∈ xm_tb := ms_2 (List.mem_of_getElem? (i := 140) (by decide +kernel)) rfl
abbrev mt_X1_holdsAt : xm_M := (yX1_holdsAt, cX1_holdsAt, 3, (some .boolean), 1, 21)
theorem ok_X1_holdsAt : xm_ok mt_X1_holdsAt 1 := ⟨plainFor_of_name (by decide +kernel), ms_2 (List.mem_of_getElem? (i := 190) (by decide +kernel)) rfl, ms_1 (List.mem_of_getElem? (i := 3) (by decide +kernel)) rfl, by decide +kernel, by decide +kernel, by decide +kernel⟩
theorem im_X1_holdsAt : Cond.instanceMethod yX1_holdsAt ∈ xm_tb := ms_2 (List.mem_of_getElem? (i := 188) (by decide +kernel)) rfl
theorem se_X1_holdsAt : Cond.selects RX1 yX1_holdsAt yX1_holdsAt ∈ xm_tb := ms_2 (List.mem_of_getElem? (i := 189) (by decide +kernel)) rfl
abbrev mt_X1_isPassedOver : xm_M := (yX1_isPassedOver, cX1_isPassedOver, 5, (some .boolean), 2, 49)
theorem ok_X1_isPassedOver : xm_ok mt_X1_isPassedOver 1 := ⟨plainFor_of_name (by decide +kernel), ms_4 (List.mem_of_getElem? (i := 17) (by decide +kernel)) rfl, ms_1 (List.mem_of_getElem? (i := 3) (by decide +kernel)) rfl, by decide +kernel, by decide +kernel, by decide +kernel⟩
theorem im_X1_isPassedOver : Cond.instanceMethod yX1_isPassedOver ∈ xm_tb := ms_4 (List.mem_of_getElem? (i := 15) (by decide +kernel)) rfl
theorem se_X1_isPassedOver : Cond.selects RX1 yX1_isPassedOver yX1_isPassedOver ∈ xm_tb := ms_4 (List.mem_of_getElem? (i := 16) (by decide +kernel)) rfl
abbrev mt_X11_isBeyond : xm_M := (yX11_isBeyond, cX11_isBeyond, 4, (some .boolean), 0, 0)
theorem ok_X11_isBeyond : xm_ok mt_X11_isBeyond 2 := ⟨plainFor_of_name (by decide +kernel), ms_2 (List.mem_of_getElem? (i := 202) (by decide +kernel)) rfl, ms_1 (List.mem_of_getElem? (i := 1) (by decide +kernel)) rfl, by decide +kernel, by decide +kernel, by decide +kernel⟩
theorem st_X11_isBeyond : Cond.static yX11_isBeyond ∈ xm_tb := ms_2 (List.mem_of_getElem? (i := 201) (by decide +kernel)) rfl
abbrev mt_X1_move : xm_M := (yX1_move, cX1_move, 8, (some .boolean), 1, 23)
theorem ok_X1_move : xm_ok mt_X1_move 1 := ⟨plainFor_of_name (by decide +kernel), ms_2 (List.mem_of_getElem? (i := 198) (by decide +kernel)) rfl, ms_1 (List.mem_of_getElem? (i := 3) (by decide +kernel)) rfl, by decide +kernel, by decide +kernel, by decide +kernel⟩
theorem im_X1_move : Cond.instanceMethod yX1_move ∈ xm_tb := ms_2 (List.mem_of_getElem? (i := 196) (by decide +kernel)) rfl
theorem se_X1_move : Cond.selects RX1 yX1_move yX1_move ∈ xm_tb := ms_2 (List.mem_of_getElem? (i := 197) (by decide +kernel)) rfl
abbrev mt_X6_isNowherePositive : xm_M := (yX6_isNowherePositive, cX6_isNowherePositive, 5, (some .boolean), 0, 0)
theorem ok_X6_isNowherePositive : xm_ok mt_X6_isNowherePositive 2 := ⟨plainFor_of_name (by decide +kernel), ms_3 (List.mem_of_getElem? (i := 107) (by decide +kernel)) rfl, ms_1 (List.mem_of_getElem? (i := 4) (by decide +kernel)) rfl, by decide +kernel, by decide +kernel, by decide +kernel⟩
theorem im_X6_isNowherePositive : Cond.instanceMethod yX6_isNowherePositive ∈ xm_tb := ms_3 (List.mem_of_getElem? (i := 105) (by decide +kernel)) rfl
theorem se_X6_isNowherePositive : Cond.selects RX6 yX6_isNowherePositive yX6_isNowherePositive ∈ xm_tb := ms_3 (List.mem_of_getElem? (i := 106) (by decide +kernel)) rfl
abbrev mt_X1_changesAtMost : xm_M := (yX1_changesAtMost, cX1_changesAtMost, 8, (some .boolean), 1, 24)
theorem ok_X1_changesAtMost : xm_ok mt_X1_changesAtMost 2 := ⟨plainFor_of_name (by decide +kernel), ms_3 (List.mem_of_getElem? (i := 103) (by decide +kernel)) rfl, ms_1 (List.mem_of_getElem? (i := 3) (by decide +kernel)) rfl, by decide +kernel, by decide +kernel, by decide +kernel⟩
theorem im_X1_changesAtMost : Cond.instanceMethod yX1_changesAtMost ∈ xm_tb := ms_3 (List.mem_of_getElem? (i := 101) (by decide +kernel)) rfl
theorem se_X1_changesAtMost : Cond.selects RX1 yX1_changesAtMost yX1_changesAtMost ∈ xm_tb := ms_3 (List.mem_of_getElem? (i := 102) (by decide +kernel)) rfl
abbrev mt_X6_valueAt : xm_M := (yX6_valueAt, cX6_valueAt, 3, (some .long), 0, 0)
theorem ok_X6_valueAt : xm_ok mt_X6_valueAt 2 := ⟨plainFor_of_name (by decide +kernel), ms_3 (List.mem_of_getElem? (i := 99) (by decide +kernel)) rfl, ms_1 (List.mem_of_getElem? (i := 4) (by decide +kernel)) rfl, by decide +kernel, by decide +kernel, by decide +kernel⟩
theorem im_X6_valueAt : Cond.instanceMethod yX6_valueAt ∈ xm_tb := ms_3 (List.mem_of_getElem? (i := 98) (by decide +kernel)) rfl
theorem se_X6_valueAt : Cond.selects RX6 yX6_valueAt yX6_valueAt ∈ xm_tb := List.mem_filter.mpr ⟨List.mem_append_left _ (List.mem_of_getElem? (i := 18) (by decide +kernel)), rfl⟩
abbrev mt_X6_isBoundBelow : xm_M := (yX6_isBoundBelow, cX6_isBoundBelow, 3, (some .boolean), 1, 22)
theorem ok_X6_isBoundBelow : xm_ok mt_X6_isBoundBelow 1 := ⟨plainFor_of_name (by decide +kernel), ms_3 (List.mem_of_getElem? (i := 95) (by decide +kernel)) rfl, ms_1 (List.mem_of_getElem? (i := 4) (by decide +kernel)) rfl, by decide +kernel, by decide +kernel, by decide +kernel⟩
theorem im_X6_isBoundBelow : Cond.instanceMethod yX6_isBoundBelow ∈ xm_tb := ms_3 (List.mem_of_getElem? (i := 93) (by decide +kernel)) rfl
theorem se_X6_isBoundBelow : Cond.selects RX6 yX6_isBoundBelow yX6_isBoundBelow ∈ xm_tb := ms_3 (List.mem_of_getElem? (i := 94) (by decide +kernel)) rfl
abbrev mt_X1_ranksBy : xm_M := (yX1_ranksBy, cX1_ranksBy, 2, (some .boolean), 2, 51)
theorem ok_X1_ranksBy : xm_ok mt_X1_ranksBy 1 := ⟨plainFor_of_name (by decide +kernel), ms_3 (List.mem_of_getElem? (i := 91) (by decide +kernel)) rfl, ms_1 (List.mem_of_getElem? (i := 3) (by decide +kernel)) rfl, by decide +kernel, by decide +kernel, by decide +kernel⟩
theorem im_X1_ranksBy : Cond.instanceMethod yX1_ranksBy ∈ xm_tb := ms_3 (List.mem_of_getElem? (i := 89) (by decide +kernel)) rfl
theorem se_X1_ranksBy : Cond.selects RX1 yX1_ranksBy yX1_ranksBy ∈ xm_tb := ms_3 (List.mem_of_getElem? (i := 90) (by decide +kernel)) rfl
abbrev mt_X10_start : xm_M := (yX10_start, cX10_start, 3, none, 0, 0)
theorem ok_X10_start : xm_ok mt_X10_start 2 := ⟨plainFor_of_name (by decide +kernel), ms_3 (List.mem_of_getElem? (i := 149) (by decide +kernel)) rfl, ms_1 (List.mem_of_getElem? (i := 11) (by decide +kernel)) rfl, by decide +kernel, by decide +kernel, by decide +kernel⟩
theorem im_X10_start : Cond.instanceMethod yX10_start ∈ xm_tb := ms_3 (List.mem_of_getElem? (i := 147) (by decide +kernel)) rfl
theorem se_X10_start : Cond.selects RX10 yX10_start yX10_start ∈ xm_tb := ms_3 (List.mem_of_getElem? (i := 148) (by decide +kernel)) rfl
abbrev mt_X10_nextPair : xm_M := (yX10_nextPair, cX10_nextPair, 1, (some .boolean), 0, 0)
theorem ok_X10_nextPair : xm_ok mt_X10_nextPair 0 := ⟨plainFor_of_name (by decide +kernel), ms_3 (List.mem_of_getElem? (i := 157) (by decide +kernel)) rfl, ms_1 (List.mem_of_getElem? (i := 11) (by decide +kernel)) rfl, by decide +kernel, by decide +kernel, by decide +kernel⟩
theorem im_X10_nextPair : Cond.instanceMethod yX10_nextPair ∈ xm_tb := ms_3 (List.mem_of_getElem? (i := 156) (by decide +kernel)) rfl
theorem se_X10_nextPair : Cond.selects RX10 yX10_nextPair yX10_nextPair ∈ xm_tb := List.mem_filter.mpr ⟨List.mem_append_left _ (List.mem_of_getElem? (i := 19) (by decide +kernel)), rfl⟩
abbrev mt_X10_next : xm_M := (yX10_next, cX10_next, 3, (some .boolean), 1, 20)
theorem ok_X10_next : xm_ok mt_X10_next 0 := ⟨plainFor_of_name (by decide +kernel), ms_3 (List.mem_of_getElem? (i := 153) (by decide +kernel)) rfl, ms_1 (List.mem_of_getElem? (i := 11) (by decide +kernel)) rfl, by decide +kernel, by decide +kernel, by decide +kernel⟩
theorem im_X10_next : Cond.instanceMethod yX10_next ∈ xm_tb := ms_3 (List.mem_of_getElem? (i := 151) (by decide +kernel)) rfl
theorem se_X10_next : Cond.selects RX10 yX10_next yX10_next ∈ xm_tb := ms_3 (List.mem_of_getElem? (i := 152) (by decide +kernel)) rfl
abbrev mt_X7_startAnew : xm_M := (yX7_startAnew, cX7_startAnew, 2, none, 0, 0)
theorem ok_X7_startAnew : xm_ok mt_X7_startAnew 1 := ⟨plainFor_of_name (by decide +kernel), ms_2 (List.mem_of_getElem? (i := 82) (by decide +kernel)) rfl, ms_1 (List.mem_of_getElem? (i := 2) (by decide +kernel)) rfl, by decide +kernel, by decide +kernel, by decide +kernel⟩
theorem im_X7_startAnew : Cond.instanceMethod yX7_startAnew ∈ xm_tb := ms_2 (List.mem_of_getElem? (i := 80) (by decide +kernel)) rfl
theorem se_X7_startAnew : Cond.selects RX7 yX7_startAnew yX7_startAnew ∈ xm_tb := ms_2 (List.mem_of_getElem? (i := 81) (by decide +kernel)) rfl
abbrev mt_X2_zeroAll : xm_M := (yX2_zeroAll, cX2_zeroAll, 1, none, 1, 24)
theorem ok_X2_zeroAll : xm_ok mt_X2_zeroAll 0 := ⟨plainFor_of_name (by decide +kernel), ms_2 (List.mem_of_getElem? (i := 89) (by decide +kernel)) rfl, ms_1 (List.mem_of_getElem? (i := 7) (by decide +kernel)) rfl, by decide +kernel, by decide +kernel, by decide +kernel⟩
theorem im_X2_zeroAll : Cond.instanceMethod yX2_zeroAll ∈ xm_tb := ms_2 (List.mem_of_getElem? (i := 87) (by decide +kernel)) rfl
theorem se_X2_zeroAll : Cond.selects RX2 yX2_zeroAll yX2_zeroAll ∈ xm_tb := ms_2 (List.mem_of_getElem? (i := 88) (by decide +kernel)) rfl
abbrev mt_X4_forgetRing : xm_M := (yX4_forgetRing, cX4_forgetRing, 1, none, 0, 0)
theorem ok_X4_forgetRing : xm_ok mt_X4_forgetRing 0 := ⟨plainFor_of_name (by decide +kernel), ms_2 (List.mem_of_getElem? (i := 94) (by decide +kernel)) rfl, ms_1 (List.mem_of_getElem? (i := 6) (by decide +kernel)) rfl, by decide +kernel, by decide +kernel, by decide +kernel⟩
theorem im_X4_forgetRing : Cond.instanceMethod yX4_forgetRing ∈ xm_tb := ms_2 (List.mem_of_getElem? (i := 92) (by decide +kernel)) rfl
theorem se_X4_forgetRing : Cond.selects RX4 yX4_forgetRing yX4_forgetRing ∈ xm_tb := ms_2 (List.mem_of_getElem? (i := 93) (by decide +kernel)) rfl
abbrev mt_X5_forgetAll : xm_M := (yX5_forgetAll, cX5_forgetAll, 1, none, 1, 23)
theorem ok_X5_forgetAll : xm_ok mt_X5_forgetAll 0 := ⟨plainFor_of_name (by decide +kernel), ms_2 (List.mem_of_getElem? (i := 98) (by decide +kernel)) rfl, ms_1 (List.mem_of_getElem? (i := 10) (by decide +kernel)) rfl, by decide +kernel, by decide +kernel, by decide +kernel⟩
theorem im_X5_forgetAll : Cond.instanceMethod yX5_forgetAll ∈ xm_tb := ms_2 (List.mem_of_getElem? (i := 96) (by decide +kernel)) rfl
theorem se_X5_forgetAll : Cond.selects RX5 yX5_forgetAll yX5_forgetAll ∈ xm_tb := ms_2 (List.mem_of_getElem? (i := 97) (by decide +kernel)) rfl
abbrev mt_X2_openAll : xm_M := (yX2_openAll, cX2_openAll, 3, none, 0, 0)
theorem ok_X2_openAll : xm_ok mt_X2_openAll 1 := ⟨plainFor_of_name (by decide +kernel), ms_2 (List.mem_of_getElem? (i := 42) (by decide +kernel)) rfl, ms_1 (List.mem_of_getElem? (i := 7) (by decide +kernel)) rfl, by decide +kernel, by decide +kernel, by decide +kernel⟩
theorem im_X2_openAll : Cond.instanceMethod yX2_openAll ∈ xm_tb := ms_2 (List.mem_of_getElem? (i := 40) (by decide +kernel)) rfl
theorem se_X2_openAll : Cond.selects RX2 yX2_openAll yX2_openAll ∈ xm_tb := ms_2 (List.mem_of_getElem? (i := 41) (by decide +kernel)) rfl
abbrev mt_X11_forgetPlaces : xm_M := (yX11_forgetPlaces, cX11_forgetPlaces, 2, none, 0, 0)
theorem ok_X11_forgetPlaces : xm_ok mt_X11_forgetPlaces 0 := ⟨plainFor_of_name (by decide +kernel), ms_2 (List.mem_of_getElem? (i := 106) (by decide +kernel)) rfl, ms_1 (List.mem_of_getElem? (i := 1) (by decide +kernel)) rfl, by decide +kernel, by decide +kernel, by decide +kernel⟩
theorem im_X11_forgetPlaces : Cond.instanceMethod yX11_forgetPlaces ∈ xm_tb := ms_2 (List.mem_of_getElem? (i := 105) (by decide +kernel)) rfl
theorem se_X11_forgetPlaces : Cond.selects RX11 yX11_forgetPlaces yX11_forgetPlaces ∈ xm_tb := List.mem_filter.mpr ⟨List.mem_append_left _ (List.mem_of_getElem? (i := 1) (by decide +kernel)), rfl⟩
abbrev mt_X11_openTheBox : xm_M := (yX11_openTheBox, cX11_openTheBox, 1, none, 1, 22)
theorem ok_X11_openTheBox : xm_ok mt_X11_openTheBox 0 := ⟨plainFor_of_name (by decide +kernel), ms_2 (List.mem_of_getElem? (i := 102) (by decide +kernel)) rfl, ms_1 (List.mem_of_getElem? (i := 1) (by decide +kernel)) rfl, by decide +kernel, by decide +kernel, by decide +kernel⟩
theorem im_X11_openTheBox : Cond.instanceMethod yX11_openTheBox ∈ xm_tb := ms_2 (List.mem_of_getElem? (i := 101) (by decide +kernel)) rfl
theorem se_X11_openTheBox : Cond.selects RX11 yX11_openTheBox yX11_openTheBox ∈ xm_tb := List.mem_filter.mpr ⟨List.mem_append_left _ (List.mem_of_getElem? (i := 0) (by decide +kernel)), rfl⟩
abbrev mt_X11_loop : xm_M := (yX11_loop, cX11_loop, 3, (some .int), 2, 44)
theorem ok_X11_loop : xm_ok mt_X11_loop 1 := ⟨plainFor_of_name (by decide +kernel), ms_2 (List.mem_of_getElem? (i := 78) (by decide +kernel)) rfl, ms_1 (List.mem_of_getElem? (i := 1) (by decide +kernel)) rfl, by decide +kernel, by decide +kernel, by decide +kernel⟩
theorem im_X11_loop : Cond.instanceMethod yX11_loop ∈ xm_tb := ms_2 (List.mem_of_getElem? (i := 76) (by decide +kernel)) rfl
theorem se_X11_loop : Cond.selects RX11 yX11_loop yX11_loop ∈ xm_tb := ms_2 (List.mem_of_getElem? (i := 77) (by decide +kernel)) rfl
abbrev mt_X7_addBody : xm_M := (yX7_addBody, cX7_addBody, 1, (some .int), 2, 43)
theorem ok_X7_addBody : xm_ok mt_X7_addBody 0 := ⟨plainFor_of_name (by decide +kernel), ms_2 (List.mem_of_getElem? (i := 114) (by decide +kernel)) rfl, ms_1 (List.mem_of_getElem? (i := 2) (by decide +kernel)) rfl, by decide +kernel, by decide +kernel, by decide +kernel⟩
theorem im_X7_addBody : Cond.instanceMethod yX7_addBody ∈ xm_tb := ms_2 (List.mem_of_getElem? (i := 112) (by decide +kernel)) rfl
theorem se_X7_addBody : Cond.selects RX7 yX7_addBody yX7_addBody ∈ xm_tb := ms_2 (List.mem_of_getElem? (i := 113) (by decide +kernel)) rfl
abbrev mt_X11_body : xm_M := (yX11_body, cX11_body, 2, (some .int), 3, 63)
theorem ok_X11_body : xm_ok mt_X11_body 0 := ⟨plainFor_of_name (by decide +kernel), ms_2 (List.mem_of_getElem? (i := 110) (by decide +kernel)) rfl, ms_1 (List.mem_of_getElem? (i := 1) (by decide +kernel)) rfl, by decide +kernel, by decide +kernel, by decide +kernel⟩
theorem im_X11_body : Cond.instanceMethod yX11_body ∈ xm_tb := ms_2 (List.mem_of_getElem? (i := 108) (by decide +kernel)) rfl
theorem se_X11_body : Cond.selects RX11 yX11_body yX11_body ∈ xm_tb := ms_2 (List.mem_of_getElem? (i := 109) (by decide +kernel)) rfl
abbrev mt_X7_has : xm_M := (yX7_has, cX7_has, 2, (some .boolean), 0, 0)
theorem ok_X7_has : xm_ok mt_X7_has 1 := ⟨plainFor_of_name (by decide +kernel), ms_2 (List.mem_of_getElem? (i := 130) (by decide +kernel)) rfl, ms_1 (List.mem_of_getElem? (i := 2) (by decide +kernel)) rfl, by decide +kernel, by decide +kernel, by decide +kernel⟩
theorem im_X7_has : Cond.instanceMethod yX7_has ∈ xm_tb := ms_2 (List.mem_of_getElem? (i := 128) (by decide +kernel)) rfl
theorem se_X7_has : Cond.selects RX7 yX7_has yX7_has ∈ xm_tb := ms_2 (List.mem_of_getElem? (i := 129) (by decide +kernel)) rfl
abbrev mt_X11_isCode : xm_M := (yX11_isCode, cX11_isCode, 1, (some .boolean), 0, 0)
theorem ok_X11_isCode : xm_ok mt_X11_isCode 1 := ⟨plainFor_of_name (by decide +kernel), ms_2 (List.mem_of_getElem? (i := 133) (by decide +kernel)) rfl, ms_1 (List.mem_of_getElem? (i := 1) (by decide +kernel)) rfl, by decide +kernel, by decide +kernel, by decide +kernel⟩
theorem st_X11_isCode : Cond.static yX11_isCode ∈ xm_tb := ms_2 (List.mem_of_getElem? (i := 132) (by decide +kernel)) rfl
abbrev mt_X11_isConstant : xm_M := (yX11_isConstant, cX11_isConstant, 1, (some .boolean), 0, 0)
theorem ok_X11_isConstant : xm_ok mt_X11_isConstant 1 := ⟨plainFor_of_name (by decide +kernel), ms_2 (List.mem_of_getElem? (i := 137) (by decide +kernel)) rfl, ms_1 (List.mem_of_getElem? (i := 1) (by decide +kernel)) rfl, by decide +kernel, by decide +kernel, by decide +kernel⟩
theorem st_X11_isConstant : Cond.static yX11_isConstant ∈ xm_tb := ms_2 (List.mem_of_getElem? (i := 136) (by decide +kernel)) rfl
abbrev mt_X11_guard : xm_M := (yX11_guard, cX11_guard, 5, (some .int), 2, 48)
theorem ok_X11_guard : xm_ok mt_X11_guard 3 := ⟨plainFor_of_name (by decide +kernel), ms_2 (List.mem_of_getElem? (i := 126) (by decide +kernel)) rfl, ms_1 (List.mem_of_getElem? (i := 1) (by decide +kernel)) rfl, by decide +kernel, by decide +kernel, by decide +kernel⟩
theorem im_X11_guard : Cond.instanceMethod yX11_guard ∈ xm_tb := ms_2 (List.mem_of_getElem? (i := 124) (by decide +kernel)) rfl
theorem se_X11_guard : Cond.selects RX11 yX11_guard yX11_guard ∈ xm_tb := ms_2 (List.mem_of_getElem? (i := 125) (by decide +kernel)) rfl
abbrev mt_X7_hasNumber : xm_M := (yX7_hasNumber, cX7_hasNumber, 2, (some .boolean), 0, 0)
theorem ok_X7_hasNumber : xm_ok mt_X7_hasNumber 1 := ⟨plainFor_of_name (by decide +kernel), ms_2 (List.mem_of_getElem? (i := 153) (by decide +kernel)) rfl, ms_1 (List.mem_of_getElem? (i := 2) (by decide +kernel)) rfl, by decide +kernel, by decide +kernel, by decide +kernel⟩
theorem im_X7_hasNumber : Cond.instanceMethod yX7_hasNumber ∈ xm_tb := ms_2 (List.mem_of_getElem? (i := 151) (by decide +kernel)) rfl
theorem se_X7_hasNumber : Cond.selects RX7 yX7_hasNumber yX7_hasNumber ∈ xm_tb := ms_2 (List.mem_of_getElem? (i := 152) (by decide +kernel)) rfl
abbrev mt_X11_rule : xm_M := (yX11_rule, cX11_rule, 5, (some .int), 2, 42)
theorem ok_X11_rule : xm_ok mt_X11_rule 4 := ⟨plainFor_of_name (by decide +kernel), ms_2 (List.mem_of_getElem? (i := 149) (by decide +kernel)) rfl, ms_1 (List.mem_of_getElem? (i := 1) (by decide +kernel)) rfl, by decide +kernel, by decide +kernel, by decide +kernel⟩
theorem im_X11_rule : Cond.instanceMethod yX11_rule ∈ xm_tb := ms_2 (List.mem_of_getElem? (i := 147) (by decide +kernel)) rfl
theorem se_X11_rule : Cond.selects RX11 yX11_rule yX11_rule ∈ xm_tb := ms_2 (List.mem_of_getElem? (i := 148) (by decide +kernel)) rfl
abbrev mt_X11_many : xm_M := (yX11_many, cX11_many, 2, (some .int), 1, 21)
theorem ok_X11_many : xm_ok mt_X11_many 1 := ⟨plainFor_of_name (by decide +kernel), ms_2 (List.mem_of_getElem? (i := 158) (by decide +kernel)) rfl, ms_1 (List.mem_of_getElem? (i := 1) (by decide +kernel)) rfl, by decide +kernel, by decide +kernel, by decide +kernel⟩
theorem im_X11_many : Cond.instanceMethod yX11_many ∈ xm_tb := ms_2 (List.mem_of_getElem? (i := 156) (by decide +kernel)) rfl
theorem se_X11_many : Cond.selects RX11 yX11_many yX11_many ∈ xm_tb := ms_2 (List.mem_of_getElem? (i := 157) (by decide +kernel)) rfl
abbrev mt_X11_isGiven : xm_M := (yX11_isGiven, cX11_isGiven, 1, (some .boolean), 0, 0)
theorem ok_X11_isGiven : xm_ok mt_X11_isGiven 1 := ⟨plainFor_of_name (by decide +kernel), ms_2 (List.mem_of_getElem? (i := 165) (by decide +kernel)) rfl, ms_1 (List.mem_of_getElem? (i := 1) (by decide +kernel)) rfl, by decide +kernel, by decide +kernel, by decide +kernel⟩
theorem st_X11_isGiven : Cond.static yX11_isGiven ∈ xm_tb := ms_2 (List.mem_of_getElem? (i := 164) (by decide +kernel)) rfl
abbrev mt_X11_set : xm_M := (yX11_set, cX11_set, 3, (some .int), 1, 21)
theorem ok_X11_set : xm_ok mt_X11_set 2 := ⟨plainFor_of_name (by decide +kernel), ms_2 (List.mem_of_getElem? (i := 162) (by decide +kernel)) rfl, ms_1 (List.mem_of_getElem? (i := 1) (by decide +kernel)) rfl, by decide +kernel, by decide +kernel, by decide +kernel⟩
theorem im_X11_set : Cond.instanceMethod yX11_set ∈ xm_tb := ms_2 (List.mem_of_getElem? (i := 160) (by decide +kernel)) rfl
theorem se_X11_set : Cond.selects RX11 yX11_set yX11_set ∈ xm_tb := ms_2 (List.mem_of_getElem? (i := 161) (by decide +kernel)) rfl
abbrev mt_X11_at : xm_M := (yX11_at, cX11_at, 2, (some .long), 1, 21)
theorem ok_X11_at : xm_ok mt_X11_at 1 := ⟨plainFor_of_name (by decide +kernel), ms_2 (List.mem_of_getElem? (i := 171) (by decide +kernel)) rfl, ms_1 (List.mem_of_getElem? (i := 1) (by decide +kernel)) rfl, by decide +kernel, by decide +kernel, by decide +kernel⟩
theorem im_X11_at : Cond.instanceMethod yX11_at ∈ xm_tb := ms_2 (List.mem_of_getElem? (i := 169) (by decide +kernel)) rfl
theorem se_X11_at : Cond.selects RX11 yX11_at yX11_at ∈ xm_tb := ms_2 (List.mem_of_getElem? (i := 170) (by decide +kernel)) rfl
abbrev mt_X11_isTurns : xm_M := (yX11_isTurns, cX11_isTurns, 1, (some .boolean), 0, 0)
theorem ok_X11_isTurns : xm_ok mt_X11_isTurns 1 := ⟨plainFor_of_name (by decide +kernel), ms_2 (List.mem_of_getElem? (i := 178) (by decide +kernel)) rfl, ms_1 (List.mem_of_getElem? (i := 1) (by decide +kernel)) rfl, by decide +kernel, by decide +kernel, by decide +kernel⟩
theorem st_X11_isTurns : Cond.static yX11_isTurns ∈ xm_tb := ms_2 (List.mem_of_getElem? (i := 177) (by decide +kernel)) rfl
abbrev mt_X7_chosen : xm_M := (yX7_chosen, cX7_chosen, 3, (some .int), 2, 43)
theorem ok_X7_chosen : xm_ok mt_X7_chosen 1 := ⟨plainFor_of_name (by decide +kernel), ms_2 (List.mem_of_getElem? (i := 186) (by decide +kernel)) rfl, ms_1 (List.mem_of_getElem? (i := 2) (by decide +kernel)) rfl, by decide +kernel, by decide +kernel, by decide +kernel⟩
theorem im_X7_chosen : Cond.instanceMethod yX7_chosen ∈ xm_tb := ms_2 (List.mem_of_getElem? (i := 184) (by decide +kernel)) rfl
theorem se_X7_chosen : Cond.selects RX7 yX7_chosen yX7_chosen ∈ xm_tb := ms_2 (List.mem_of_getElem? (i := 185) (by decide +kernel)) rfl
abbrev mt_X7_step : xm_M := (yX7_step, cX7_step, 3, (some .int), 3, 65)
theorem ok_X7_step : xm_ok mt_X7_step 1 := ⟨plainFor_of_name (by decide +kernel), ms_2 (List.mem_of_getElem? (i := 182) (by decide +kernel)) rfl, ms_1 (List.mem_of_getElem? (i := 2) (by decide +kernel)) rfl, by decide +kernel, by decide +kernel, by decide +kernel⟩
theorem im_X7_step : Cond.instanceMethod yX7_step ∈ xm_tb := ms_2 (List.mem_of_getElem? (i := 180) (by decide +kernel)) rfl
theorem se_X7_step : Cond.selects RX7 yX7_step yX7_step ∈ xm_tb := ms_2 (List.mem_of_getElem? (i := 181) (by decide +kernel)) rfl
abbrev mt_X11_run : xm_M := (yX11_run, cX11_run, 4, (some .int), 4, 87)
theorem ok_X11_run : xm_ok mt_X11_run 1 := ⟨plainFor_of_name (by decide +kernel), ms_2 (List.mem_of_getElem? (i := 175) (by decide +kernel)) rfl, ms_1 (List.mem_of_getElem? (i := 1) (by decide +kernel)) rfl, by decide +kernel, by decide +kernel, by decide +kernel⟩
theorem im_X11_run : Cond.instanceMethod yX11_run ∈ xm_tb := ms_2 (List.mem_of_getElem? (i := 173) (by decide +kernel)) rfl
theorem se_X11_run : Cond.selects RX11 yX11_run yX11_run ∈ xm_tb := ms_2 (List.mem_of_getElem? (i := 174) (by decide +kernel)) rfl
abbrev mt_X11_turn : xm_M := (yX11_turn, cX11_turn, 1, (some .int), 3, 65)
theorem ok_X11_turn : xm_ok mt_X11_turn 0 := ⟨plainFor_of_name (by decide +kernel), ms_2 (List.mem_of_getElem? (i := 206) (by decide +kernel)) rfl, ms_1 (List.mem_of_getElem? (i := 1) (by decide +kernel)) rfl, by decide +kernel, by decide +kernel, by decide +kernel⟩
theorem im_X11_turn : Cond.instanceMethod yX11_turn ∈ xm_tb := ms_2 (List.mem_of_getElem? (i := 204) (by decide +kernel)) rfl
theorem se_X11_turn : Cond.selects RX11 yX11_turn yX11_turn ∈ xm_tb := ms_2 (List.mem_of_getElem? (i := 205) (by decide +kernel)) rfl
abbrev mt_X4_copy : xm_M := (yX4_copy, cX4_copy, 2, none, 1, 26)
theorem ok_X4_copy : xm_ok mt_X4_copy 2 := ⟨plainFor_of_name (by decide +kernel), ms_2 (List.mem_of_getElem? (i := 222) (by decide +kernel)) rfl, ms_1 (List.mem_of_getElem? (i := 6) (by decide +kernel)) rfl, by decide +kernel, by decide +kernel, by decide +kernel⟩
theorem st_X4_copy : Cond.static yX4_copy ∈ xm_tb := ms_2 (List.mem_of_getElem? (i := 221) (by decide +kernel)) rfl
abbrev mt_X4_isSame : xm_M := (yX4_isSame, cX4_isSame, 1, (some .boolean), 0, 0)
theorem ok_X4_isSame : xm_ok mt_X4_isSame 0 := ⟨plainFor_of_name (by decide +kernel), ms_2 (List.mem_of_getElem? (i := 230) (by decide +kernel)) rfl, ms_1 (List.mem_of_getElem? (i := 6) (by decide +kernel)) rfl, by decide +kernel, by decide +kernel, by decide +kernel⟩
theorem im_X4_isSame : Cond.instanceMethod yX4_isSame ∈ xm_tb := ms_2 (List.mem_of_getElem? (i := 229) (by decide +kernel)) rfl
theorem se_X4_isSame : Cond.selects RX4 yX4_isSame yX4_isSame ∈ xm_tb := List.mem_filter.mpr ⟨List.mem_append_left _ (List.mem_of_getElem? (i := 3) (by decide +kernel)), rfl⟩
abbrev mt_X4_lengthWithin : xm_M := (yX4_lengthWithin, cX4_lengthWithin, 7, (some .int), 4, 87)
theorem ok_X4_lengthWithin : xm_ok mt_X4_lengthWithin 3 := ⟨plainFor_of_name (by decide +kernel), ms_2 (List.mem_of_getElem? (i := 219) (by decide +kernel)) rfl, ms_1 (List.mem_of_getElem? (i := 6) (by decide +kernel)) rfl, by decide +kernel, by decide +kernel, by decide +kernel⟩
theorem im_X4_lengthWithin : Cond.instanceMethod yX4_lengthWithin ∈ xm_tb := ms_2 (List.mem_of_getElem? (i := 218) (by decide +kernel)) rfl
theorem se_X4_lengthWithin : Cond.selects RX4 yX4_lengthWithin yX4_lengthWithin ∈ xm_tb := List.mem_filter.mpr ⟨List.mem_append_left _ (List.mem_of_getElem? (i := 2) (by decide +kernel)), rfl⟩
abbrev mt_X4_leadOf : xm_M := (yX4_leadOf, cX4_leadOf, 6, (some .int), 4, 87)
theorem ok_X4_leadOf : xm_ok mt_X4_leadOf 4 := ⟨plainFor_of_name (by decide +kernel), ms_2 (List.mem_of_getElem? (i := 234) (by decide +kernel)) rfl, ms_1 (List.mem_of_getElem? (i := 6) (by decide +kernel)) rfl, by decide +kernel, by decide +kernel, by decide +kernel⟩
theorem im_X4_leadOf : Cond.instanceMethod yX4_leadOf ∈ xm_tb := ms_2 (List.mem_of_getElem? (i := 233) (by decide +kernel)) rfl
theorem se_X4_leadOf : Cond.selects RX4 yX4_leadOf yX4_leadOf ∈ xm_tb := List.mem_filter.mpr ⟨List.mem_append_left _ (List.mem_of_getElem? (i := 4) (by decide +kernel)), rfl⟩
abbrev mt_X4_findRing : xm_M := (yX4_findRing, cX4_findRing, 6, (some .int), 5, 113)
theorem ok_X4_findRing : xm_ok mt_X4_findRing 3 := ⟨plainFor_of_name (by decide +kernel), ms_2 (List.mem_of_getElem? (i := 215) (by decide +kernel)) rfl, ms_1 (List.mem_of_getElem? (i := 6) (by decide +kernel)) rfl, by decide +kernel, by decide +kernel, by decide +kernel⟩
theorem im_X4_findRing : Cond.instanceMethod yX4_findRing ∈ xm_tb := ms_2 (List.mem_of_getElem? (i := 213) (by decide +kernel)) rfl
theorem se_X4_findRing : Cond.selects RX4 yX4_findRing yX4_findRing ∈ xm_tb := ms_2 (List.mem_of_getElem? (i := 214) (by decide +kernel)) rfl
abbrev mt_X11_ring : xm_M := (yX11_ring, cX11_ring, 2, (some .int), 6, 138)
theorem ok_X11_ring : xm_ok mt_X11_ring 1 := ⟨plainFor_of_name (by decide +kernel), ms_2 (List.mem_of_getElem? (i := 211) (by decide +kernel)) rfl, ms_1 (List.mem_of_getElem? (i := 1) (by decide +kernel)) rfl, by decide +kernel, by decide +kernel, by decide +kernel⟩
theorem im_X11_ring : Cond.instanceMethod yX11_ring ∈ xm_tb := ms_2 (List.mem_of_getElem? (i := 209) (by decide +kernel)) rfl
theorem se_X11_ring : Cond.selects RX11 yX11_ring yX11_ring ∈ xm_tb := ms_2 (List.mem_of_getElem? (i := 210) (by decide +kernel)) rfl
abbrev mt_X11_ahead : xm_M := (yX11_ahead, cX11_ahead, 1, (some .int), 0, 0)
theorem ok_X11_ahead : xm_ok mt_X11_ahead 0 := ⟨plainFor_of_name (by decide +kernel), ms_2 (List.mem_of_getElem? (i := 238) (by decide +kernel)) rfl, ms_1 (List.mem_of_getElem? (i := 1) (by decide +kernel)) rfl, by decide +kernel, by decide +kernel, by decide +kernel⟩
theorem im_X11_ahead : Cond.instanceMethod yX11_ahead ∈ xm_tb := ms_2 (List.mem_of_getElem? (i := 236) (by decide +kernel)) rfl
theorem se_X11_ahead : Cond.selects RX11 yX11_ahead yX11_ahead ∈ xm_tb := ms_2 (List.mem_of_getElem? (i := 237) (by decide +kernel)) rfl
abbrev mt_X11_ask : xm_M := (yX11_ask, cX11_ask, 5, (some .boolean), 0, 0)
theorem ok_X11_ask : xm_ok mt_X11_ask 3 := ⟨plainFor_of_name (by decide +kernel), ms_3 (List.mem_of_getElem? (i := 6) (by decide +kernel)) rfl, ms_1 (List.mem_of_getElem? (i := 1) (by decide +kernel)) rfl, by decide +kernel, by decide +kernel, by decide +kernel⟩
theorem im_X11_ask : Cond.instanceMethod yX11_ask ∈ xm_tb := ms_3 (List.mem_of_getElem? (i := 5) (by decide +kernel)) rfl
theorem se_X11_ask : Cond.selects RX11 yX11_ask yX11_ask ∈ xm_tb := List.mem_filter.mpr ⟨List.mem_append_left _ (List.mem_of_getElem? (i := 5) (by decide +kernel)), rfl⟩
abbrev mt_X9_addPlane : xm_M := (yX9_addPlane, cX9_addPlane, 9, none, 0, 0)
theorem ok_X9_addPlane : xm_ok mt_X9_addPlane 4 := ⟨plainFor_of_name (by decide +kernel), ms_3 (List.mem_of_getElem? (i := 22) (by decide +kernel)) rfl, ms_1 (List.mem_of_getElem? (i := 9) (by decide +kernel)) rfl, by decide +kernel, by decide +kernel, by decide +kernel⟩
theorem im_X9_addPlane : Cond.instanceMethod yX9_addPlane ∈ xm_tb := ms_3 (List.mem_of_getElem? (i := 21) (by decide +kernel)) rfl
theorem se_X9_addPlane : Cond.selects RX9 yX9_addPlane yX9_addPlane ∈ xm_tb := List.mem_filter.mpr ⟨List.mem_append_left _ (List.mem_of_getElem? (i := 8) (by decide +kernel)), rfl⟩
abbrev mt_X9_addAxisPlane : xm_M := (yX9_addAxisPlane, cX9_addAxisPlane, 6, none, 1, 28)
theorem ok_X9_addAxisPlane : xm_ok mt_X9_addAxisPlane 3 := ⟨plainFor_of_name (by decide +kernel), ms_3 (List.mem_of_getElem? (i := 31) (by decide +kernel)) rfl, ms_1 (List.mem_of_getElem? (i := 9) (by decide +kernel)) rfl, by decide +kernel, by decide +kernel, by decide +kernel⟩
theorem im_X9_addAxisPlane : Cond.instanceMethod yX9_addAxisPlane ∈ xm_tb := ms_3 (List.mem_of_getElem? (i := 30) (by decide +kernel)) rfl
theorem se_X9_addAxisPlane : Cond.selects RX9 yX9_addAxisPlane yX9_addAxisPlane ∈ xm_tb := List.mem_filter.mpr ⟨List.mem_append_left _ (List.mem_of_getElem? (i := 9) (by decide +kernel)), rfl⟩
abbrev mt_X9_gather : xm_M := (yX9_gather, cX9_gather, 5, none, 2, 53)
theorem ok_X9_gather : xm_ok mt_X9_gather 2 := ⟨plainFor_of_name (by decide +kernel), ms_3 (List.mem_of_getElem? (i := 18) (by decide +kernel)) rfl, ms_1 (List.mem_of_getElem? (i := 9) (by decide +kernel)) rfl, by decide +kernel, by decide +kernel, by decide +kernel⟩
theorem im_X9_gather : Cond.instanceMethod yX9_gather ∈ xm_tb := ms_3 (List.mem_of_getElem? (i := 17) (by decide +kernel)) rfl
theorem se_X9_gather : Cond.selects RX9 yX9_gather yX9_gather ∈ xm_tb := List.mem_filter.mpr ⟨List.mem_append_left _ (List.mem_of_getElem? (i := 7) (by decide +kernel)), rfl⟩
abbrev mt_X6_empty : xm_M := (yX6_empty, cX6_empty, 1, none, 0, 0)
theorem ok_X6_empty : xm_ok mt_X6_empty 0 := ⟨plainFor_of_name (by decide +kernel), ms_3 (List.mem_of_getElem? (i := 36) (by decide +kernel)) rfl, ms_1 (List.mem_of_getElem? (i := 4) (by decide +kernel)) rfl, by decide +kernel, by decide +kernel, by decide +kernel⟩
theorem im_X6_empty : Cond.instanceMethod yX6_empty ∈ xm_tb := ms_3 (List.mem_of_getElem? (i := 34) (by decide +kernel)) rfl
theorem se_X6_empty : Cond.selects RX6 yX6_empty yX6_empty ∈ xm_tb := ms_3 (List.mem_of_getElem? (i := 35) (by decide +kernel)) rfl
abbrev mt_X9_cross : xm_M := (yX9_cross, cX9_cross, 6, (some .long), 0, 0)
theorem ok_X9_cross : xm_ok mt_X9_cross 3 := ⟨plainFor_of_name (by decide +kernel), ms_3 (List.mem_of_getElem? (i := 48) (by decide +kernel)) rfl, ms_1 (List.mem_of_getElem? (i := 9) (by decide +kernel)) rfl, by decide +kernel, by decide +kernel, by decide +kernel⟩
theorem im_X9_cross : Cond.instanceMethod yX9_cross ∈ xm_tb := ms_3 (List.mem_of_getElem? (i := 47) (by decide +kernel)) rfl
theorem se_X9_cross : Cond.selects RX9 yX9_cross yX9_cross ∈ xm_tb := List.mem_filter.mpr ⟨List.mem_append_left _ (List.mem_of_getElem? (i := 12) (by decide +kernel)), rfl⟩
abbrev mt_X9_meet : xm_M := (yX9_meet, cX9_meet, 18, (some .boolean), 1, 25)
theorem ok_X9_meet : xm_ok mt_X9_meet 3 := ⟨plainFor_of_name (by decide +kernel), ms_3 (List.mem_of_getElem? (i := 44) (by decide +kernel)) rfl, ms_1 (List.mem_of_getElem? (i := 9) (by decide +kernel)) rfl, by decide +kernel, by decide +kernel, by decide +kernel⟩
theorem im_X9_meet : Cond.instanceMethod yX9_meet ∈ xm_tb := ms_3 (List.mem_of_getElem? (i := 43) (by decide +kernel)) rfl
theorem se_X9_meet : Cond.selects RX9 yX9_meet yX9_meet ∈ xm_tb := List.mem_filter.mpr ⟨List.mem_append_left _ (List.mem_of_getElem? (i := 11) (by decide +kernel)), rfl⟩
abbrev mt_X9_isInside : xm_M := (yX9_isInside, cX9_isInside, 2, (some .boolean), 0, 0)
theorem ok_X9_isInside : xm_ok mt_X9_isInside 0 := ⟨plainFor_of_name (by decide +kernel), ms_3 (List.mem_of_getElem? (i := 55) (by decide +kernel)) rfl, ms_1 (List.mem_of_getElem? (i := 9) (by decide +kernel)) rfl, by decide +kernel, by decide +kernel, by decide +kernel⟩
theorem im_X9_isInside : Cond.instanceMethod yX9_isInside ∈ xm_tb := ms_3 (List.mem_of_getElem? (i := 54) (by decide +kernel)) rfl
theorem se_X9_isInside : Cond.selects RX9 yX9_isInside yX9_isInside ∈ xm_tb := List.mem_filter.mpr ⟨List.mem_append_left _ (List.mem_of_getElem? (i := 13) (by decide +kernel)), rfl⟩
abbrev mt_X9_commonPart : xm_M := (yX9_commonPart, cX9_commonPart, 11, (some .long), 0, 0)
theorem ok_X9_commonPart : xm_ok mt_X9_commonPart 2 := ⟨plainFor_of_name (by decide +kernel), ms_3 (List.mem_of_getElem? (i := 62) (by decide +kernel)) rfl, ms_1 (List.mem_of_getElem? (i := 9) (by decide +kernel)) rfl, by decide +kernel, by decide +kernel, by decide +kernel⟩
theorem st_X9_commonPart : Cond.static yX9_commonPart ∈ xm_tb := ms_3 (List.mem_of_getElem? (i := 61) (by decide +kernel)) rfl
abbrev mt_X9_shrink : xm_M := (yX9_shrink, cX9_shrink, 4, none, 1, 30)
theorem ok_X9_shrink : xm_ok mt_X9_shrink 0 := ⟨plainFor_of_name (by decide +kernel), ms_3 (List.mem_of_getElem? (i := 59) (by decide +kernel)) rfl, ms_1 (List.mem_of_getElem? (i := 9) (by decide +kernel)) rfl, by decide +kernel, by decide +kernel, by decide +kernel⟩
theorem im_X9_shrink : Cond.instanceMethod yX9_shrink ∈ xm_tb := ms_3 (List.mem_of_getElem? (i := 58) (by decide +kernel)) rfl
theorem se_X9_shrink : Cond.selects RX9 yX9_shrink yX9_shrink ∈ xm_tb := List.mem_filter.mpr ⟨List.mem_append_left _ (List.mem_of_getElem? (i := 14) (by decide +kernel)), rfl⟩
abbrev mt_X6_hasPoint : xm_M := (yX6_hasPoint, cX6_hasPoint, 3, (some .boolean), 0, 0)
theorem ok_X6_hasPoint : xm_ok mt_X6_hasPoint 1 := ⟨plainFor_of_name (by decide +kernel), ms_3 (List.mem_of_getElem? (i := 70) (by decide +kernel)) rfl, ms_1 (List.mem_of_getElem? (i := 4) (by decide +kernel)) rfl, by decide +kernel, by decide +kernel, by decide +kernel⟩
theorem im_X6_hasPoint : Cond.instanceMethod yX6_hasPoint ∈ xm_tb := ms_3 (List.mem_of_getElem? (i := 69) (by decide +kernel)) rfl
theorem se_X6_hasPoint : Cond.selects RX6 yX6_hasPoint yX6_hasPoint ∈ xm_tb := List.mem_filter.mpr ⟨List.mem_append_left _ (List.mem_of_getElem? (i := 15) (by decide +kernel)), rfl⟩
abbrev mt_X6_add : xm_M := (yX6_add, cX6_add, 2, none, 1, 26)
theorem ok_X6_add : xm_ok mt_X6_add 1 := ⟨plainFor_of_name (by decide +kernel), ms_3 (List.mem_of_getElem? (i := 66) (by decide +kernel)) rfl, ms_1 (List.mem_of_getElem? (i := 4) (by decide +kernel)) rfl, by decide +kernel, by decide +kernel, by decide +kernel⟩
theorem im_X6_add : Cond.instanceMethod yX6_add ∈ xm_tb := ms_3 (List.mem_of_getElem? (i := 64) (by decide +kernel)) rfl
theorem se_X6_add : Cond.selects RX6 yX6_add yX6_add ∈ xm_tb := ms_3 (List.mem_of_getElem? (i := 65) (by decide +kernel)) rfl
abbrev mt_X9_findCorners : xm_M := (yX9_findCorners, cX9_findCorners, 5, none, 2, 62)
theorem ok_X9_findCorners : xm_ok mt_X9_findCorners 1 := ⟨plainFor_of_name (by decide +kernel), ms_3 (List.mem_of_getElem? (i := 40) (by decide +kernel)) rfl, ms_1 (List.mem_of_getElem? (i := 9) (by decide +kernel)) rfl, by decide +kernel, by decide +kernel, by decide +kernel⟩
theorem im_X9_findCorners : Cond.instanceMethod yX9_findCorners ∈ xm_tb := ms_3 (List.mem_of_getElem? (i := 39) (by decide +kernel)) rfl
theorem se_X9_findCorners : Cond.selects RX9 yX9_findCorners yX9_findCorners ∈ xm_tb := List.mem_filter.mpr ⟨List.mem_append_left _ (List.mem_of_getElem? (i := 10) (by decide +kernel)), rfl⟩
abbrev mt_X6_isEmpty : xm_M := (yX6_isEmpty, cX6_isEmpty, 1, (some .boolean), 0, 0)
theorem ok_X6_isEmpty : xm_ok mt_X6_isEmpty 0 := ⟨plainFor_of_name (by decide +kernel), ms_3 (List.mem_of_getElem? (i := 75) (by decide +kernel)) rfl, ms_1 (List.mem_of_getElem? (i := 4) (by decide +kernel)) rfl, by decide +kernel, by decide +kernel, by decide +kernel⟩
theorem im_X6_isEmpty : Cond.instanceMethod yX6_isEmpty ∈ xm_tb := ms_3 (List.mem_of_getElem? (i := 73) (by decide +kernel)) rfl
theorem se_X6_isEmpty : Cond.selects RX6 yX6_isEmpty yX6_isEmpty ∈ xm_tb := ms_3 (List.mem_of_getElem? (i := 74) (by decide +kernel)) rfl
abbrev mt_X9_follow : xm_M := (yX9_follow, cX9_follow, 4, (some .boolean), 1, 25)
theorem ok_X9_follow : xm_ok mt_X9_follow 3 := ⟨plainFor_of_name (by decide +kernel), ms_3 (List.mem_of_getElem? (i := 83) (by decide +kernel)) rfl, ms_1 (List.mem_of_getElem? (i := 9) (by decide +kernel)) rfl, by decide +kernel, by decide +kernel, by decide +kernel⟩
theorem im_X9_follow : Cond.instanceMethod yX9_follow ∈ xm_tb := ms_3 (List.mem_of_getElem? (i := 82) (by decide +kernel)) rfl
theorem se_X9_follow : Cond.selects RX9 yX9_follow yX9_follow ∈ xm_tb := List.mem_filter.mpr ⟨List.mem_append_left _ (List.mem_of_getElem? (i := 17) (by decide +kernel)), rfl⟩
abbrev mt_X9_findDirections : xm_M := (yX9_findDirections, cX9_findDirections, 5, none, 2, 53)
theorem ok_X9_findDirections : xm_ok mt_X9_findDirections 1 := ⟨plainFor_of_name (by decide +kernel), ms_3 (List.mem_of_getElem? (i := 79) (by decide +kernel)) rfl, ms_1 (List.mem_of_getElem? (i := 9) (by decide +kernel)) rfl, by decide +kernel, by decide +kernel, by decide +kernel⟩
theorem im_X9_findDirections : Cond.instanceMethod yX9_findDirections ∈ xm_tb := ms_3 (List.mem_of_getElem? (i := 78) (by decide +kernel)) rfl
theorem se_X9_findDirections : Cond.selects RX9 yX9_findDirections yX9_findDirections ∈ xm_tb := List.mem_filter.mpr ⟨List.mem_append_left _ (List.mem_of_getElem? (i := 16) (by decide +kernel)), rfl⟩
abbrev mt_X9_shape : xm_M := (yX9_shape, cX9_shape, 4, none, 3, 86)
theorem ok_X9_shape : xm_ok mt_X9_shape 2 := ⟨plainFor_of_name (by decide +kernel), ms_3 (List.mem_of_getElem? (i := 14) (by decide +kernel)) rfl, ms_1 (List.mem_of_getElem? (i := 9) (by decide +kernel)) rfl, by decide +kernel, by decide +kernel, by decide +kernel⟩
theorem im_X9_shape : Cond.instanceMethod yX9_shape ∈ xm_tb := ms_3 (List.mem_of_getElem? (i := 12) (by decide +kernel)) rfl
theorem se_X9_shape : Cond.selects RX9 yX9_shape yX9_shape ∈ xm_tb := ms_3 (List.mem_of_getElem? (i := 13) (by decide +kernel)) rfl
abbrev mt_X11_learnPlaces : xm_M := (yX11_learnPlaces, cX11_learnPlaces, 3, none, 4, 109)
theorem ok_X11_learnPlaces : xm_ok mt_X11_learnPlaces 0 := ⟨plainFor_of_name (by decide +kernel), ms_3 (List.mem_of_getElem? (i := 10) (by decide +kernel)) rfl, ms_1 (List.mem_of_getElem? (i := 1) (by decide +kernel)) rfl, by decide +kernel, by decide +kernel, by decide +kernel⟩
theorem im_X11_learnPlaces : Cond.instanceMethod yX11_learnPlaces ∈ xm_tb := ms_3 (List.mem_of_getElem? (i := 9) (by decide +kernel)) rfl
theorem se_X11_learnPlaces : Cond.selects RX11 yX11_learnPlaces yX11_learnPlaces ∈ xm_tb := List.mem_filter.mpr ⟨List.mem_append_left _ (List.mem_of_getElem? (i := 6) (by decide +kernel)), rfl⟩
abbrev mt_X7_isRankedBy : xm_M := (yX7_isRankedBy, cX7_isRankedBy, 3, (some .boolean), 3, 72)
theorem ok_X7_isRankedBy : xm_ok mt_X7_isRankedBy 1 := ⟨plainFor_of_name (by decide +kernel), ms_3 (List.mem_of_getElem? (i := 87) (by decide +kernel)) rfl, ms_1 (List.mem_of_getElem? (i := 2) (by decide +kernel)) rfl, by decide +kernel, by decide +kernel, by decide +kernel⟩
theorem im_X7_isRankedBy : Cond.instanceMethod yX7_isRankedBy ∈ xm_tb := ms_3 (List.mem_of_getElem? (i := 85) (by decide +kernel)) rfl
theorem se_X7_isRankedBy : Cond.selects RX7 yX7_isRankedBy yX7_isRankedBy ∈ xm_tb := ms_3 (List.mem_of_getElem? (i := 86) (by decide +kernel)) rfl
abbrev mt_X11_ranks : xm_M := (yX11_ranks, cX11_ranks, 4, (some .int), 5, 131)
theorem ok_X11_ranks : xm_ok mt_X11_ranks 3 := ⟨plainFor_of_name (by decide +kernel), ms_3 (List.mem_of_getElem? (i := 2) (by decide +kernel)) rfl, ms_1 (List.mem_of_getElem? (i := 1) (by decide +kernel)) rfl, by decide +kernel, by decide +kernel, by decide +kernel⟩
theorem im_X11_ranks : Cond.instanceMethod yX11_ranks ∈ xm_tb := ms_3 (List.mem_of_getElem? (i := 0) (by decide +kernel)) rfl
theorem se_X11_ranks : Cond.selects RX11 yX11_ranks yX11_ranks ∈ xm_tb := ms_3 (List.mem_of_getElem? (i := 1) (by decide +kernel)) rfl
abbrev mt_X11_tells : xm_M := (yX11_tells, cX11_tells, 7, (some .int), 5, 131)
theorem ok_X11_tells : xm_ok mt_X11_tells 4 := ⟨plainFor_of_name (by decide +kernel), ms_3 (List.mem_of_getElem? (i := 111) (by decide +kernel)) rfl, ms_1 (List.mem_of_getElem? (i := 1) (by decide +kernel)) rfl, by decide +kernel, by decide +kernel, by decide +kernel⟩
theorem im_X11_tells : Cond.instanceMethod yX11_tells ∈ xm_tb := ms_3 (List.mem_of_getElem? (i := 109) (by decide +kernel)) rfl
theorem se_X11_tells : Cond.selects RX11 yX11_tells yX11_tells ∈ xm_tb := ms_3 (List.mem_of_getElem? (i := 110) (by decide +kernel)) rfl
abbrev mt_X6_floorOf : xm_M := (yX6_floorOf, cX6_floorOf, 9, (some .long), 1, 25)
theorem ok_X6_floorOf : xm_ok mt_X6_floorOf 1 := ⟨plainFor_of_name (by decide +kernel), ms_3 (List.mem_of_getElem? (i := 127) (by decide +kernel)) rfl, ms_1 (List.mem_of_getElem? (i := 4) (by decide +kernel)) rfl, by decide +kernel, by decide +kernel, by decide +kernel⟩
theorem im_X6_floorOf : Cond.instanceMethod yX6_floorOf ∈ xm_tb := ms_3 (List.mem_of_getElem? (i := 125) (by decide +kernel)) rfl
theorem se_X6_floorOf : Cond.selects RX6 yX6_floorOf yX6_floorOf ∈ xm_tb := ms_3 (List.mem_of_getElem? (i := 126) (by decide +kernel)) rfl
abbrev mt_X7_floorOf : xm_M := (yX7_floorOf, cX7_floorOf, 9, (some .long), 2, 53)
theorem ok_X7_floorOf : xm_ok mt_X7_floorOf 1 := ⟨plainFor_of_name (by decide +kernel), ms_3 (List.mem_of_getElem? (i := 122) (by decide +kernel)) rfl, ms_1 (List.mem_of_getElem? (i := 2) (by decide +kernel)) rfl, by decide +kernel, by decide +kernel, by decide +kernel⟩
theorem im_X7_floorOf : Cond.instanceMethod yX7_floorOf ∈ xm_tb := ms_3 (List.mem_of_getElem? (i := 120) (by decide +kernel)) rfl
theorem se_X7_floorOf : Cond.selects RX7 yX7_floorOf yX7_floorOf ∈ xm_tb := ms_3 (List.mem_of_getElem? (i := 121) (by decide +kernel)) rfl
abbrev mt_X11_floor : xm_M := (yX11_floor, cX11_floor, 4, (some .long), 5, 131)
theorem ok_X11_floor : xm_ok mt_X11_floor 3 := ⟨plainFor_of_name (by decide +kernel), ms_3 (List.mem_of_getElem? (i := 117) (by decide +kernel)) rfl, ms_1 (List.mem_of_getElem? (i := 1) (by decide +kernel)) rfl, by decide +kernel, by decide +kernel, by decide +kernel⟩
theorem im_X11_floor : Cond.instanceMethod yX11_floor ∈ xm_tb := ms_3 (List.mem_of_getElem? (i := 115) (by decide +kernel)) rfl
theorem se_X11_floor : Cond.selects RX11 yX11_floor yX11_floor ∈ xm_tb := ms_3 (List.mem_of_getElem? (i := 116) (by decide +kernel)) rfl
abbrev mt_X11_isSize : xm_M := (yX11_isSize, cX11_isSize, 1, (some .boolean), 0, 0)
theorem ok_X11_isSize : xm_ok mt_X11_isSize 1 := ⟨plainFor_of_name (by decide +kernel), ms_3 (List.mem_of_getElem? (i := 141) (by decide +kernel)) rfl, ms_1 (List.mem_of_getElem? (i := 1) (by decide +kernel)) rfl, by decide +kernel, by decide +kernel, by decide +kernel⟩
theorem st_X11_isSize : Cond.static yX11_isSize ∈ xm_tb := ms_3 (List.mem_of_getElem? (i := 140) (by decide +kernel)) rfl
abbrev mt_X5_keep : xm_M := (yX5_keep, cX5_keep, 2, none, 1, 26)
theorem ok_X5_keep : xm_ok mt_X5_keep 1 := ⟨plainFor_of_name (by decide +kernel), ms_3 (List.mem_of_getElem? (i := 167) (by decide +kernel)) rfl, ms_1 (List.mem_of_getElem? (i := 10) (by decide +kernel)) rfl, by decide +kernel, by decide +kernel, by decide +kernel⟩
theorem im_X5_keep : Cond.instanceMethod yX5_keep ∈ xm_tb := ms_3 (List.mem_of_getElem? (i := 166) (by decide +kernel)) rfl
theorem se_X5_keep : Cond.selects RX5 yX5_keep yX5_keep ∈ xm_tb := List.mem_filter.mpr ⟨List.mem_append_left _ (List.mem_of_getElem? (i := 20) (by decide +kernel)), rfl⟩
abbrev mt_X5_seekRank : xm_M := (yX5_seekRank, cX5_seekRank, 4, (some .boolean), 4, 94)
theorem ok_X5_seekRank : xm_ok mt_X5_seekRank 2 := ⟨plainFor_of_name (by decide +kernel), ms_3 (List.mem_of_getElem? (i := 145) (by decide +kernel)) rfl, ms_1 (List.mem_of_getElem? (i := 10) (by decide +kernel)) rfl, by decide +kernel, by decide +kernel, by decide +kernel⟩
theorem im_X5_seekRank : Cond.instanceMethod yX5_seekRank ∈ xm_tb := ms_3 (List.mem_of_getElem? (i := 143) (by decide +kernel)) rfl
theorem se_X5_seekRank : Cond.selects RX5 yX5_seekRank yX5_seekRank ∈ xm_tb := ms_3 (List.mem_of_getElem? (i := 144) (by decide +kernel)) rfl
abbrev mt_X11_rank : xm_M := (yX11_rank, cX11_rank, 2, (some .int), 5, 131)
theorem ok_X11_rank : xm_ok mt_X11_rank 1 := ⟨plainFor_of_name (by decide +kernel), ms_3 (List.mem_of_getElem? (i := 138) (by decide +kernel)) rfl, ms_1 (List.mem_of_getElem? (i := 1) (by decide +kernel)) rfl, by decide +kernel, by decide +kernel, by decide +kernel⟩
theorem im_X11_rank : Cond.instanceMethod yX11_rank ∈ xm_tb := ms_3 (List.mem_of_getElem? (i := 136) (by decide +kernel)) rfl
theorem se_X11_rank : Cond.selects RX11 yX11_rank yX11_rank ∈ xm_tb := ms_3 (List.mem_of_getElem? (i := 137) (by decide +kernel)) rfl
abbrev mt_X5_isRow : xm_M := (yX5_isRow, cX5_isRow, 6, (some .boolean), 3, 72)
theorem ok_X5_isRow : xm_ok mt_X5_isRow 2 := ⟨plainFor_of_name (by decide +kernel), ms_3 (List.mem_of_getElem? (i := 183) (by decide +kernel)) rfl, ms_1 (List.mem_of_getElem? (i := 10) (by decide +kernel)) rfl, by decide +kernel, by decide +kernel, by decide +kernel⟩
theorem im_X5_isRow : Cond.instanceMethod yX5_isRow ∈ xm_tb := ms_3 (List.mem_of_getElem? (i := 182) (by decide +kernel)) rfl
theorem se_X5_isRow : Cond.selects RX5 yX5_isRow yX5_isRow ∈ xm_tb := List.mem_filter.mpr ⟨List.mem_append_left _ (List.mem_of_getElem? (i := 22) (by decide +kernel)), rfl⟩
abbrev mt_X5_seekRow : xm_M := (yX5_seekRow, cX5_seekRow, 4, (some .boolean), 4, 97)
theorem ok_X5_seekRow : xm_ok mt_X5_seekRow 2 := ⟨plainFor_of_name (by decide +kernel), ms_3 (List.mem_of_getElem? (i := 179) (by decide +kernel)) rfl, ms_1 (List.mem_of_getElem? (i := 10) (by decide +kernel)) rfl, by decide +kernel, by decide +kernel, by decide +kernel⟩
theorem im_X5_seekRow : Cond.instanceMethod yX5_seekRow ∈ xm_tb := ms_3 (List.mem_of_getElem? (i := 178) (by decide +kernel)) rfl
theorem se_X5_seekRow : Cond.selects RX5 yX5_seekRow yX5_seekRow ∈ xm_tb := List.mem_filter.mpr ⟨List.mem_append_left _ (List.mem_of_getElem? (i := 21) (by decide +kernel)), rfl⟩
abbrev mt_X5_release : xm_M := (yX5_release, cX5_release, 5, (some .int), 3, 72)
theorem ok_X5_release : xm_ok mt_X5_release 2 := ⟨plainFor_of_name (by decide +kernel), ms_3 (List.mem_of_getElem? (i := 189) (by decide +kernel)) rfl, ms_1 (List.mem_of_getElem? (i := 10) (by decide +kernel)) rfl, by decide +kernel, by decide +kernel, by decide +kernel⟩
theorem im_X5_release : Cond.instanceMethod yX5_release ∈ xm_tb := ms_3 (List.mem_of_getElem? (i := 188) (by decide +kernel)) rfl
theorem se_X5_release : Cond.selects RX5 yX5_release yX5_release ∈ xm_tb := List.mem_filter.mpr ⟨List.mem_append_left _ (List.mem_of_getElem? (i := 23) (by decide +kernel)), rfl⟩
abbrev mt_X5_seekRows : xm_M := (yX5_seekRows, cX5_seekRows, 5, (some .int), 5, 120)
theorem ok_X5_seekRows : xm_ok mt_X5_seekRows 2 := ⟨plainFor_of_name (by decide +kernel), ms_3 (List.mem_of_getElem? (i := 175) (by decide +kernel)) rfl, ms_1 (List.mem_of_getElem? (i := 10) (by decide +kernel)) rfl, by decide +kernel, by decide +kernel, by decide +kernel⟩
theorem im_X5_seekRows : Cond.instanceMethod yX5_seekRows ∈ xm_tb := ms_3 (List.mem_of_getElem? (i := 173) (by decide +kernel)) rfl
theorem se_X5_seekRows : Cond.selects RX5 yX5_seekRows yX5_seekRows ∈ xm_tb := ms_3 (List.mem_of_getElem? (i := 174) (by decide +kernel)) rfl
abbrev mt_X11_rows : xm_M := (yX11_rows, cX11_rows, 2, (some .int), 6, 144)
theorem ok_X11_rows : xm_ok mt_X11_rows 1 := ⟨plainFor_of_name (by decide +kernel), ms_3 (List.mem_of_getElem? (i := 171) (by decide +kernel)) rfl, ms_1 (List.mem_of_getElem? (i := 1) (by decide +kernel)) rfl, by decide +kernel, by decide +kernel, by decide +kernel⟩
theorem im_X11_rows : Cond.instanceMethod yX11_rows ∈ xm_tb := ms_3 (List.mem_of_getElem? (i := 169) (by decide +kernel)) rfl
theorem se_X11_rows : Cond.selects RX11 yX11_rows yX11_rows ∈ xm_tb := ms_3 (List.mem_of_getElem? (i := 170) (by decide +kernel)) rfl
abbrev mt_X5_weightOf : xm_M := (yX5_weightOf, cX5_weightOf, 3, (some .int), 0, 0)
theorem ok_X5_weightOf : xm_ok mt_X5_weightOf 2 := ⟨plainFor_of_name (by decide +kernel), ms_3 (List.mem_of_getElem? (i := 197) (by decide +kernel)) rfl, ms_1 (List.mem_of_getElem? (i := 10) (by decide +kernel)) rfl, by decide +kernel, by decide +kernel, by decide +kernel⟩
theorem im_X5_weightOf : Cond.instanceMethod yX5_weightOf ∈ xm_tb := ms_3 (List.mem_of_getElem? (i := 195) (by decide +kernel)) rfl
theorem se_X5_weightOf : Cond.selects RX5 yX5_weightOf yX5_weightOf ∈ xm_tb := ms_3 (List.mem_of_getElem? (i := 196) (by decide +kernel)) rfl
abbrev mt_X11_found : xm_M := (yX11_found, cX11_found, 3, (some .int), 1, 22)
theorem ok_X11_found : xm_ok mt_X11_found 2 := ⟨plainFor_of_name (by decide +kernel), ms_3 (List.mem_of_getElem? (i := 193) (by decide +kernel)) rfl, ms_1 (List.mem_of_getElem? (i := 1) (by decide +kernel)) rfl, by decide +kernel, by decide +kernel, by decide +kernel⟩
theorem im_X11_found : Cond.instanceMethod yX11_found ∈ xm_tb := ms_3 (List.mem_of_getElem? (i := 191) (by decide +kernel)) rfl
theorem se_X11_found : Cond.selects RX11 yX11_found yX11_found ∈ xm_tb := ms_3 (List.mem_of_getElem? (i := 192) (by decide +kernel)) rfl
abbrev mt_X11_by : xm_M := (yX11_by, cX11_by, 2, (some .int), 1, 21)
theorem ok_X11_by : xm_ok mt_X11_by 1 := ⟨plainFor_of_name (by decide +kernel), ms_3 (List.mem_of_getElem? (i := 201) (by decide +kernel)) rfl, ms_1 (List.mem_of_getElem? (i := 1) (by decide +kernel)) rfl, by decide +kernel, by decide +kernel, by decide +kernel⟩
theorem im_X11_by : Cond.instanceMethod yX11_by ∈ xm_tb := ms_3 (List.mem_of_getElem? (i := 199) (by decide +kernel)) rfl
theorem se_X11_by : Cond.selects RX11 yX11_by yX11_by ∈ xm_tb := ms_3 (List.mem_of_getElem? (i := 200) (by decide +kernel)) rfl
abbrev mt_X2_encloses : xm_M := (yX2_encloses, cX2_encloses, 7, (some .boolean), 1, 22)
theorem ok_X2_encloses : xm_ok mt_X2_encloses 1 := ⟨plainFor_of_name (by decide +kernel), ms_3 (List.mem_of_getElem? (i := 210) (by decide +kernel)) rfl, ms_1 (List.mem_of_getElem? (i := 7) (by decide +kernel)) rfl, by decide +kernel, by decide +kernel, by decide +kernel⟩
theorem im_X2_encloses : Cond.instanceMethod yX2_encloses ∈ xm_tb := ms_3 (List.mem_of_getElem? (i := 208) (by decide +kernel)) rfl
theorem se_X2_encloses : Cond.selects RX2 yX2_encloses yX2_encloses ∈ xm_tb := ms_3 (List.mem_of_getElem? (i := 209) (by decide +kernel)) rfl
abbrev mt_X5_rankingAt : xm_M := (yX5_rankingAt, cX5_rankingAt, 2, (some .long), 0, 0)
theorem ok_X5_rankingAt : xm_ok mt_X5_rankingAt 1 := ⟨plainFor_of_name (by decide +kernel), ms_3 (List.mem_of_getElem? (i := 216) (by decide +kernel)) rfl, ms_1 (List.mem_of_getElem? (i := 10) (by decide +kernel)) rfl, by decide +kernel, by decide +kernel, by decide +kernel⟩
theorem im_X5_rankingAt : Cond.instanceMethod yX5_rankingAt ∈ xm_tb := ms_3 (List.mem_of_getElem? (i := 214) (by decide +kernel)) rfl
theorem se_X5_rankingAt : Cond.selects RX5 yX5_rankingAt yX5_rankingAt ∈ xm_tb := ms_3 (List.mem_of_getElem? (i := 215) (by decide +kernel)) rfl
abbrev mt_X11_bound : xm_M := (yX11_bound, cX11_bound, 1, (some .long), 2, 48)
theorem ok_X11_bound : xm_ok mt_X11_bound 0 := ⟨plainFor_of_name (by decide +kernel), ms_3 (List.mem_of_getElem? (i := 205) (by decide +kernel)) rfl, ms_1 (List.mem_of_getElem? (i := 1) (by decide +kernel)) rfl, by decide +kernel, by decide +kernel, by decide +kernel⟩
theorem im_X11_bound : Cond.instanceMethod yX11_bound ∈ xm_tb := ms_3 (List.mem_of_getElem? (i := 203) (by decide +kernel)) rfl
theorem se_X11_bound : Cond.selects RX11 yX11_bound yX11_bound ∈ xm_tb := ms_3 (List.mem_of_getElem? (i := 204) (by decide +kernel)) rfl
abbrev mt_X11_isSide : xm_M := (yX11_isSide, cX11_isSide, 1, (some .boolean), 0, 0)
theorem ok_X11_isSide : xm_ok mt_X11_isSide 1 := ⟨plainFor_of_name (by decide +kernel), ms_3 (List.mem_of_getElem? (i := 226) (by decide +kernel)) rfl, ms_1 (List.mem_of_getElem? (i := 1) (by decide +kernel)) rfl, by decide +kernel, by decide +kernel, by decide +kernel⟩
theorem st_X11_isSide : Cond.static yX11_isSide ∈ xm_tb := ms_3 (List.mem_of_getElem? (i := 225) (by decide +kernel)) rfl
abbrev mt_X2_put : xm_M := (yX2_put, cX2_put, 5, none, 0, 0)
theorem ok_X2_put : xm_ok mt_X2_put 3 := ⟨plainFor_of_name (by decide +kernel), ms_3 (List.mem_of_getElem? (i := 232) (by decide +kernel)) rfl, ms_1 (List.mem_of_getElem? (i := 7) (by decide +kernel)) rfl, by decide +kernel, by decide +kernel, by decide +kernel⟩
theorem im_X2_put : Cond.instanceMethod yX2_put ∈ xm_tb := ms_3 (List.mem_of_getElem? (i := 230) (by decide +kernel)) rfl
theorem se_X2_put : Cond.selects RX2 yX2_put yX2_put ∈ xm_tb := ms_3 (List.mem_of_getElem? (i := 231) (by decide +kernel)) rfl
abbrev mt_X11_begin : xm_M := (yX11_begin, cX11_begin, 4, (some .int), 1, 24)
theorem ok_X11_begin : xm_ok mt_X11_begin 3 := ⟨plainFor_of_name (by decide +kernel), ms_3 (List.mem_of_getElem? (i := 223) (by decide +kernel)) rfl, ms_1 (List.mem_of_getElem? (i := 1) (by decide +kernel)) rfl, by decide +kernel, by decide +kernel, by decide +kernel⟩
theorem im_X11_begin : Cond.instanceMethod yX11_begin ∈ xm_tb := ms_3 (List.mem_of_getElem? (i := 221) (by decide +kernel)) rfl
theorem se_X11_begin : Cond.selects RX11 yX11_begin yX11_begin ∈ xm_tb := ms_3 (List.mem_of_getElem? (i := 222) (by decide +kernel)) rfl
abbrev mt_X2_isCrossed : xm_M := (yX2_isCrossed, cX2_isCrossed, 6, (some .boolean), 1, 22)
theorem ok_X2_isCrossed : xm_ok mt_X2_isCrossed 0 := ⟨plainFor_of_name (by decide +kernel), ms_4 (List.mem_of_getElem? (i := 0) (by decide +kernel)) rfl, ms_1 (List.mem_of_getElem? (i := 7) (by decide +kernel)) rfl, by decide +kernel, by decide +kernel, by decide +kernel⟩
theorem im_X2_isCrossed : Cond.instanceMethod yX2_isCrossed ∈ xm_tb := ms_3 (List.mem_of_getElem? (i := 238) (by decide +kernel)) rfl
theorem se_X2_isCrossed : Cond.selects RX2 yX2_isCrossed yX2_isCrossed ∈ xm_tb := ms_3 (List.mem_of_getElem? (i := 239) (by decide +kernel)) rfl
abbrev mt_X2_copyFrom : xm_M := (yX2_copyFrom, cX2_copyFrom, 2, none, 1, 26)
theorem ok_X2_copyFrom : xm_ok mt_X2_copyFrom 1 := ⟨plainFor_of_name (by decide +kernel), ms_4 (List.mem_of_getElem? (i := 8) (by decide +kernel)) rfl, ms_1 (List.mem_of_getElem? (i := 7) (by decide +kernel)) rfl, by decide +kernel, by decide +kernel, by decide +kernel⟩
theorem im_X2_copyFrom : Cond.instanceMethod yX2_copyFrom ∈ xm_tb := ms_4 (List.mem_of_getElem? (i := 6) (by decide +kernel)) rfl
theorem se_X2_copyFrom : Cond.selects RX2 yX2_copyFrom yX2_copyFrom ∈ xm_tb := ms_4 (List.mem_of_getElem? (i := 7) (by decide +kernel)) rfl
abbrev mt_X2_widen : xm_M := (yX2_widen, cX2_widen, 7, none, 1, 24)
theorem ok_X2_widen : xm_ok mt_X2_widen 3 := ⟨plainFor_of_name (by decide +kernel), ms_4 (List.mem_of_getElem? (i := 29) (by decide +kernel)) rfl, ms_1 (List.mem_of_getElem? (i := 7) (by decide +kernel)) rfl, by decide +kernel, by decide +kernel, by decide +kernel⟩
theorem im_X2_widen : Cond.instanceMethod yX2_widen ∈ xm_tb := ms_4 (List.mem_of_getElem? (i := 27) (by decide +kernel)) rfl
theorem se_X2_widen : Cond.selects RX2 yX2_widen yX2_widen ∈ xm_tb := ms_4 (List.mem_of_getElem? (i := 28) (by decide +kernel)) rfl
abbrev mt_X8_lookAtBodies : xm_M := (yX8_lookAtBodies, cX8_lookAtBodies, 5, none, 3, 73)
theorem ok_X8_lookAtBodies : xm_ok mt_X8_lookAtBodies 1 := ⟨plainFor_of_name (by decide +kernel), ms_4 (List.mem_of_getElem? (i := 13) (by decide +kernel)) rfl, ms_1 (List.mem_of_getElem? (i := 8) (by decide +kernel)) rfl, by decide +kernel, by decide +kernel, by decide +kernel⟩
theorem im_X8_lookAtBodies : Cond.instanceMethod yX8_lookAtBodies ∈ xm_tb := ms_4 (List.mem_of_getElem? (i := 12) (by decide +kernel)) rfl
theorem se_X8_lookAtBodies : Cond.selects RX8 yX8_lookAtBodies yX8_lookAtBodies ∈ xm_tb := List.mem_filter.mpr ⟨List.mem_append_left _ (List.mem_of_getElem? (i := 24) (by decide +kernel)), rfl⟩
abbrev mt_X8_settle : xm_M := (yX8_settle, cX8_settle, 4, (some .boolean), 0, 0)
theorem ok_X8_settle : xm_ok mt_X8_settle 1 := ⟨plainFor_of_name (by decide +kernel), ms_4 (List.mem_of_getElem? (i := 36) (by decide +kernel)) rfl, ms_1 (List.mem_of_getElem? (i := 8) (by decide +kernel)) rfl, by decide +kernel, by decide +kernel, by decide +kernel⟩
theorem im_X8_settle : Cond.instanceMethod yX8_settle ∈ xm_tb := ms_4 (List.mem_of_getElem? (i := 35) (by decide +kernel)) rfl
theorem se_X8_settle : Cond.selects RX8 yX8_settle yX8_settle ∈ xm_tb := List.mem_filter.mpr ⟨List.mem_append_left _ (List.mem_of_getElem? (i := 25) (by decide +kernel)), rfl⟩
abbrev mt_X2_isOut : xm_M := (yX2_isOut, cX2_isOut, 2, (some .boolean), 1, 23)
theorem ok_X2_isOut : xm_ok mt_X2_isOut 0 := ⟨plainFor_of_name (by decide +kernel), ms_4 (List.mem_of_getElem? (i := 41) (by decide +kernel)) rfl, ms_1 (List.mem_of_getElem? (i := 7) (by decide +kernel)) rfl, by decide +kernel, by decide +kernel, by decide +kernel⟩
theorem im_X2_isOut : Cond.instanceMethod yX2_isOut ∈ xm_tb := ms_4 (List.mem_of_getElem? (i := 39) (by decide +kernel)) rfl
theorem se_X2_isOut : Cond.selects RX2 yX2_isOut yX2_isOut ∈ xm_tb := ms_4 (List.mem_of_getElem? (i := 40) (by decide +kernel)) rfl
abbrev mt_X8_goRound : xm_M := (yX8_goRound, cX8_goRound, 6, (some .int), 4, 97)
theorem ok_X8_goRound : xm_ok mt_X8_goRound 3 := ⟨plainFor_of_name (by decide +kernel), ms_4 (List.mem_of_getElem? (i := 4) (by decide +kernel)) rfl, ms_1 (List.mem_of_getElem? (i := 8) (by decide +kernel)) rfl, by decide +kernel, by decide +kernel, by decide +kernel⟩
theorem im_X8_goRound : Cond.instanceMethod yX8_goRound ∈ xm_tb := ms_4 (List.mem_of_getElem? (i := 2) (by decide +kernel)) rfl
theorem se_X8_goRound : Cond.selects RX8 yX8_goRound yX8_goRound ∈ xm_tb := ms_4 (List.mem_of_getElem? (i := 3) (by decide +kernel)) rfl
abbrev mt_X11_round : xm_M := (yX11_round, cX11_round, 3, (some .int), 5, 122)
theorem ok_X11_round : xm_ok mt_X11_round 1 := ⟨plainFor_of_name (by decide +kernel), ms_3 (List.mem_of_getElem? (i := 236) (by decide +kernel)) rfl, ms_1 (List.mem_of_getElem? (i := 1) (by decide +kernel)) rfl, by decide +kernel, by decide +kernel, by decide +kernel⟩
theorem im_X11_round : Cond.instanceMethod yX11_round ∈ xm_tb := ms_3 (List.mem_of_getElem? (i := 234) (by decide +kernel)) rfl
theorem se_X11_round : Cond.selects RX11 yX11_round yX11_round ∈ xm_tb := ms_3 (List.mem_of_getElem? (i := 235) (by decide +kernel)) rfl
abbrev mt_X11_box : xm_M := (yX11_box, cX11_box, 3, (some .long), 1, 22)
theorem ok_X11_box : xm_ok mt_X11_box 2 := ⟨plainFor_of_name (by decide +kernel), ms_4 (List.mem_of_getElem? (i := 48) (by decide +kernel)) rfl, ms_1 (List.mem_of_getElem? (i := 1) (by decide +kernel)) rfl, by decide +kernel, by decide +kernel, by decide +kernel⟩
theorem im_X11_box : Cond.instanceMethod yX11_box ∈ xm_tb := ms_4 (List.mem_of_getElem? (i := 46) (by decide +kernel)) rfl
theorem se_X11_box : Cond.selects RX11 yX11_box yX11_box ∈ xm_tb := ms_4 (List.mem_of_getElem? (i := 47) (by decide +kernel)) rfl
abbrev mt_X11_open : xm_M := (yX11_open, cX11_open, 1, (some .int), 2, 42)
theorem ok_X11_open : xm_ok mt_X11_open 0 := ⟨plainFor_of_name (by decide +kernel), ms_4 (List.mem_of_getElem? (i := 53) (by decide +kernel)) rfl, ms_1 (List.mem_of_getElem? (i := 1) (by decide +kernel)) rfl, by decide +kernel, by decide +kernel, by decide +kernel⟩
theorem im_X11_open : Cond.instanceMethod yX11_open ∈ xm_tb := ms_4 (List.mem_of_getElem? (i := 51) (by decide +kernel)) rfl
theorem se_X11_open : Cond.selects RX11 yX11_open yX11_open ∈ xm_tb := ms_4 (List.mem_of_getElem? (i := 52) (by decide +kernel)) rfl
abbrev mt_X11_isFunction : xm_M := (yX11_isFunction, cX11_isFunction, 1, (some .boolean), 0, 0)
theorem ok_X11_isFunction : xm_ok mt_X11_isFunction 1 := ⟨plainFor_of_name (by decide +kernel), ms_4 (List.mem_of_getElem? (i := 60) (by decide +kernel)) rfl, ms_1 (List.mem_of_getElem? (i := 1) (by decide +kernel)) rfl, by decide +kernel, by decide +kernel, by decide +kernel⟩
theorem st_X11_isFunction : Cond.static yX11_isFunction ∈ xm_tb := ms_4 (List.mem_of_getElem? (i := 59) (by decide +kernel)) rfl
abbrev mt_X3_masksOf : xm_M := (yX3_masksOf, cX3_masksOf, 5, (some .int), 0, 0)
theorem ok_X3_masksOf : xm_ok mt_X3_masksOf 1 := ⟨plainFor_of_name (by decide +kernel), ms_4 (List.mem_of_getElem? (i := 68) (by decide +kernel)) rfl, ms_1 (List.mem_of_getElem? (i := 13) (by decide +kernel)) rfl, by decide +kernel, by decide +kernel, by decide +kernel⟩
theorem st_X3_masksOf : Cond.static yX3_masksOf ∈ xm_tb := ms_4 (List.mem_of_getElem? (i := 67) (by decide +kernel)) rfl
abbrev mt_X3_packed : xm_M := (yX3_packed, cX3_packed, 3, (some .long), 0, 0)
theorem ok_X3_packed : xm_ok mt_X3_packed 3 := ⟨plainFor_of_name (by decide +kernel), ms_4 (List.mem_of_getElem? (i := 71) (by decide +kernel)) rfl, ms_1 (List.mem_of_getElem? (i := 13) (by decide +kernel)) rfl, by decide +kernel, by decide +kernel, by decide +kernel⟩
theorem st_X3_packed : Cond.static yX3_packed ∈ xm_tb := ms_4 (List.mem_of_getElem? (i := 70) (by decide +kernel)) rfl
abbrev mt_X3_add : xm_M := (yX3_add, cX3_add, 4, (some .int), 1, 24)
theorem ok_X3_add : xm_ok mt_X3_add 3 := ⟨plainFor_of_name (by decide +kernel), ms_4 (List.mem_of_getElem? (i := 65) (by decide +kernel)) rfl, ms_1 (List.mem_of_getElem? (i := 13) (by decide +kernel)) rfl, by decide +kernel, by decide +kernel, by decide +kernel⟩
theorem im_X3_add : Cond.instanceMethod yX3_add ∈ xm_tb := ms_4 (List.mem_of_getElem? (i := 63) (by decide +kernel)) rfl
theorem se_X3_add : Cond.selects RX3 yX3_add yX3_add ∈ xm_tb := ms_4 (List.mem_of_getElem? (i := 64) (by decide +kernel)) rfl
abbrev mt_X11_call : xm_M := (yX11_call, cX11_call, 4, (some .int), 2, 47)
theorem ok_X11_call : xm_ok mt_X11_call 3 := ⟨plainFor_of_name (by decide +kernel), ms_4 (List.mem_of_getElem? (i := 57) (by decide +kernel)) rfl, ms_1 (List.mem_of_getElem? (i := 1) (by decide +kernel)) rfl, by decide +kernel, by decide +kernel, by decide +kernel⟩
theorem im_X11_call : Cond.instanceMethod yX11_call ∈ xm_tb := ms_4 (List.mem_of_getElem? (i := 55) (by decide +kernel)) rfl
theorem se_X11_call : Cond.selects RX11 yX11_call yX11_call ∈ xm_tb := ms_4 (List.mem_of_getElem? (i := 56) (by decide +kernel)) rfl
abbrev mt_X3_removeAll : xm_M := (yX3_removeAll, cX3_removeAll, 2, (some .int), 0, 0)
theorem ok_X3_removeAll : xm_ok mt_X3_removeAll 0 := ⟨plainFor_of_name (by decide +kernel), ms_4 (List.mem_of_getElem? (i := 80) (by decide +kernel)) rfl, ms_1 (List.mem_of_getElem? (i := 13) (by decide +kernel)) rfl, by decide +kernel, by decide +kernel, by decide +kernel⟩
theorem im_X3_removeAll : Cond.instanceMethod yX3_removeAll ∈ xm_tb := ms_4 (List.mem_of_getElem? (i := 78) (by decide +kernel)) rfl
theorem se_X3_removeAll : Cond.selects RX3 yX3_removeAll yX3_removeAll ∈ xm_tb := ms_4 (List.mem_of_getElem? (i := 79) (by decide +kernel)) rfl
abbrev mt_X11_clear : xm_M := (yX11_clear, cX11_clear, 1, (some .int), 1, 21)
theorem ok_X11_clear : xm_ok mt_X11_clear 0 := ⟨plainFor_of_name (by decide +kernel), ms_4 (List.mem_of_getElem? (i := 76) (by decide +kernel)) rfl, ms_1 (List.mem_of_getElem? (i := 1) (by decide +kernel)) rfl, by decide +kernel, by decide +kernel, by decide +kernel⟩
theorem im_X11_clear : Cond.instanceMethod yX11_clear ∈ xm_tb := ms_4 (List.mem_of_getElem? (i := 74) (by decide +kernel)) rfl
theorem se_X11_clear : Cond.selects RX11 yX11_clear yX11_clear ∈ xm_tb := ms_4 (List.mem_of_getElem? (i := 75) (by decide +kernel)) rfl
abbrev mt_X3_keep : xm_M := (yX3_keep, cX3_keep, 5, (some .boolean), 0, 0)
theorem ok_X3_keep : xm_ok mt_X3_keep 1 := ⟨plainFor_of_name (by decide +kernel), ms_4 (List.mem_of_getElem? (i := 97) (by decide +kernel)) rfl, ms_1 (List.mem_of_getElem? (i := 13) (by decide +kernel)) rfl, by decide +kernel, by decide +kernel, by decide +kernel⟩
theorem im_X3_keep : Cond.instanceMethod yX3_keep ∈ xm_tb := ms_4 (List.mem_of_getElem? (i := 96) (by decide +kernel)) rfl
theorem se_X3_keep : Cond.selects RX3 yX3_keep yX3_keep ∈ xm_tb := List.mem_filter.mpr ⟨List.mem_append_left _ (List.mem_of_getElem? (i := 27) (by decide +kernel)), rfl⟩
abbrev mt_X3_toOf : xm_M := (yX3_toOf, cX3_toOf, 2, (some .int), 0, 0)
theorem ok_X3_toOf : xm_ok mt_X3_toOf 1 := ⟨plainFor_of_name (by decide +kernel), ms_4 (List.mem_of_getElem? (i := 101) (by decide +kernel)) rfl, ms_1 (List.mem_of_getElem? (i := 13) (by decide +kernel)) rfl, by decide +kernel, by decide +kernel, by decide +kernel⟩
theorem st_X3_toOf : Cond.static yX3_toOf ∈ xm_tb := ms_4 (List.mem_of_getElem? (i := 100) (by decide +kernel)) rfl
abbrev mt_X3_fromOf : xm_M := (yX3_fromOf, cX3_fromOf, 2, (some .int), 0, 0)
theorem ok_X3_fromOf : xm_ok mt_X3_fromOf 1 := ⟨plainFor_of_name (by decide +kernel), ms_4 (List.mem_of_getElem? (i := 104) (by decide +kernel)) rfl, ms_1 (List.mem_of_getElem? (i := 13) (by decide +kernel)) rfl, by decide +kernel, by decide +kernel, by decide +kernel⟩
theorem st_X3_fromOf : Cond.static yX3_fromOf ∈ xm_tb := ms_4 (List.mem_of_getElem? (i := 103) (by decide +kernel)) rfl
abbrev mt_X3_toldOf : xm_M := (yX3_toldOf, cX3_toldOf, 2, (some .int), 0, 0)
theorem ok_X3_toldOf : xm_ok mt_X3_toldOf 1 := ⟨plainFor_of_name (by decide +kernel), ms_4 (List.mem_of_getElem? (i := 110) (by decide +kernel)) rfl, ms_1 (List.mem_of_getElem? (i := 13) (by decide +kernel)) rfl, by decide +kernel, by decide +kernel, by decide +kernel⟩
theorem st_X3_toldOf : Cond.static yX3_toldOf ∈ xm_tb := ms_4 (List.mem_of_getElem? (i := 109) (by decide +kernel)) rfl
abbrev mt_X3_lessOf : xm_M := (yX3_lessOf, cX3_lessOf, 2, (some .int), 0, 0)
theorem ok_X3_lessOf : xm_ok mt_X3_lessOf 1 := ⟨plainFor_of_name (by decide +kernel), ms_4 (List.mem_of_getElem? (i := 114) (by decide +kernel)) rfl, ms_1 (List.mem_of_getElem? (i := 13) (by decide +kernel)) rfl, by decide +kernel, by decide +kernel, by decide +kernel⟩
theorem st_X3_lessOf : Cond.static yX3_lessOf ∈ xm_tb := ms_4 (List.mem_of_getElem? (i := 113) (by decide +kernel)) rfl
abbrev mt_X3_together : xm_M := (yX3_together, cX3_together, 11, (some .long), 1, 22)
theorem ok_X3_together : xm_ok mt_X3_together 2 := ⟨plainFor_of_name (by decide +kernel), ms_4 (List.mem_of_getElem? (i := 107) (by decide +kernel)) rfl, ms_1 (List.mem_of_getElem? (i := 13) (by decide +kernel)) rfl, by decide +kernel, by decide +kernel, by decide +kernel⟩
theorem st_X3_together : Cond.static yX3_together ∈ xm_tb := ms_4 (List.mem_of_getElem? (i := 106) (by decide +kernel)) rfl
abbrev mt_X3_makeAll : xm_M := (yX3_makeAll, cX3_makeAll, 4, (some .boolean), 2, 52)
theorem ok_X3_makeAll : xm_ok mt_X3_makeAll 0 := ⟨plainFor_of_name (by decide +kernel), ms_4 (List.mem_of_getElem? (i := 92) (by decide +kernel)) rfl, ms_1 (List.mem_of_getElem? (i := 13) (by decide +kernel)) rfl, by decide +kernel, by decide +kernel, by decide +kernel⟩
theorem im_X3_makeAll : Cond.instanceMethod yX3_makeAll ∈ xm_tb := ms_4 (List.mem_of_getElem? (i := 91) (by decide +kernel)) rfl
theorem se_X3_makeAll : Cond.selects RX3 yX3_makeAll yX3_makeAll ∈ xm_tb := List.mem_filter.mpr ⟨List.mem_append_left _ (List.mem_of_getElem? (i := 26) (by decide +kernel)), rfl⟩
abbrev mt_X3_isFault : xm_M := (yX3_isFault, cX3_isFault, 3, (some .boolean), 2, 52)
theorem ok_X3_isFault : xm_ok mt_X3_isFault 1 := ⟨plainFor_of_name (by decide +kernel), ms_4 (List.mem_of_getElem? (i := 121) (by decide +kernel)) rfl, ms_1 (List.mem_of_getElem? (i := 13) (by decide +kernel)) rfl, by decide +kernel, by decide +kernel, by decide +kernel⟩
theorem st_X3_isFault : Cond.static yX3_isFault ∈ xm_tb := ms_4 (List.mem_of_getElem? (i := 120) (by decide +kernel)) rfl
abbrev mt_X3_numberOf : xm_M := (yX3_numberOf, cX3_numberOf, 4, (some .int), 1, 21)
theorem ok_X3_numberOf : xm_ok mt_X3_numberOf 1 := ⟨plainFor_of_name (by decide +kernel), ms_4 (List.mem_of_getElem? (i := 127) (by decide +kernel)) rfl, ms_1 (List.mem_of_getElem? (i := 13) (by decide +kernel)) rfl, by decide +kernel, by decide +kernel, by decide +kernel⟩
theorem st_X3_numberOf : Cond.static yX3_numberOf ∈ xm_tb := ms_4 (List.mem_of_getElem? (i := 126) (by decide +kernel)) rfl
abbrev mt_X3_isAhead : xm_M := (yX3_isAhead, cX3_isAhead, 4, (some .boolean), 2, 44)
theorem ok_X3_isAhead : xm_ok mt_X3_isAhead 2 := ⟨plainFor_of_name (by decide +kernel), ms_4 (List.mem_of_getElem? (i := 124) (by decide +kernel)) rfl, ms_1 (List.mem_of_getElem? (i := 13) (by decide +kernel)) rfl, by decide +kernel, by decide +kernel, by decide +kernel⟩
theorem st_X3_isAhead : Cond.static yX3_isAhead ∈ xm_tb := ms_4 (List.mem_of_getElem? (i := 123) (by decide +kernel)) rfl
abbrev mt_X3_firstFault : xm_M := (yX3_firstFault, cX3_firstFault, 3, (some .int), 3, 74)
theorem ok_X3_firstFault : xm_ok mt_X3_firstFault 0 := ⟨plainFor_of_name (by decide +kernel), ms_4 (List.mem_of_getElem? (i := 118) (by decide +kernel)) rfl, ms_1 (List.mem_of_getElem? (i := 13) (by decide +kernel)) rfl, by decide +kernel, by decide +kernel, by decide +kernel⟩
theorem im_X3_firstFault : Cond.instanceMethod yX3_firstFault ∈ xm_tb := ms_4 (List.mem_of_getElem? (i := 117) (by decide +kernel)) rfl
theorem se_X3_firstFault : Cond.selects RX3 yX3_firstFault yX3_firstFault ∈ xm_tb := List.mem_filter.mpr ⟨List.mem_append_left _ (List.mem_of_getElem? (i := 28) (by decide +kernel)), rfl⟩
abbrev mt_X3_judge : xm_M := (yX3_judge, cX3_judge, 2, (some .int), 4, 96)
theorem ok_X3_judge : xm_ok mt_X3_judge 0 := ⟨plainFor_of_name (by decide +kernel), ms_4 (List.mem_of_getElem? (i := 88) (by decide +kernel)) rfl, ms_1 (List.mem_of_getElem? (i := 13) (by decide +kernel)) rfl, by decide +kernel, by decide +kernel, by decide +kernel⟩
theorem im_X3_judge : Cond.instanceMethod yX3_judge ∈ xm_tb := ms_4 (List.mem_of_getElem? (i := 86) (by decide +kernel)) rfl
theorem se_X3_judge : Cond.selects RX3 yX3_judge yX3_judge ∈ xm_tb := ms_4 (List.mem_of_getElem? (i := 87) (by decide +kernel)) rfl
abbrev mt_X11_ending : xm_M := (yX11_ending, cX11_ending, 1, (some .int), 5, 117)
theorem ok_X11_ending : xm_ok mt_X11_ending 0 := ⟨plainFor_of_name (by decide +kernel), ms_4 (List.mem_of_getElem? (i := 84) (by decide +kernel)) rfl, ms_1 (List.mem_of_getElem? (i := 1) (by decide +kernel)) rfl, by decide +kernel, by decide +kernel, by decide +kernel⟩
theorem im_X11_ending : Cond.instanceMethod yX11_ending ∈ xm_tb := ms_4 (List.mem_of_getElem? (i := 82) (by decide +kernel)) rfl
theorem se_X11_ending : Cond.selects RX11 yX11_ending yX11_ending ∈ xm_tb := ms_4 (List.mem_of_getElem? (i := 83) (by decide +kernel)) rfl
abbrev mt_X11_made : xm_M := (yX11_made, cX11_made, 1, (some .int), 0, 0)
theorem ok_X11_made : xm_ok mt_X11_made 0 := ⟨plainFor_of_name (by decide +kernel), ms_4 (List.mem_of_getElem? (i := 131) (by decide +kernel)) rfl, ms_1 (List.mem_of_getElem? (i := 1) (by decide +kernel)) rfl, by decide +kernel, by decide +kernel, by decide +kernel⟩
theorem im_X11_made : Cond.instanceMethod yX11_made ∈ xm_tb := ms_4 (List.mem_of_getElem? (i := 129) (by decide +kernel)) rfl
theorem se_X11_made : Cond.selects RX11 yX11_made yX11_made ∈ xm_tb := ms_4 (List.mem_of_getElem? (i := 130) (by decide +kernel)) rfl
abbrev mt_X11_witness : xm_M := (yX11_witness, cX11_witness, 2, (some .int), 0, 0)
theorem ok_X11_witness : xm_ok mt_X11_witness 1 := ⟨plainFor_of_name (by decide +kernel), ms_4 (List.mem_of_getElem? (i := 135) (by decide +kernel)) rfl, ms_1 (List.mem_of_getElem? (i := 1) (by decide +kernel)) rfl, by decide +kernel, by decide +kernel, by decide +kernel⟩
theorem im_X11_witness : Cond.instanceMethod yX11_witness ∈ xm_tb := ms_4 (List.mem_of_getElem? (i := 133) (by decide +kernel)) rfl
theorem se_X11_witness : Cond.selects RX11 yX11_witness yX11_witness ∈ xm_tb := ms_4 (List.mem_of_getElem? (i := 134) (by decide +kernel)) rfl
abbrev mt_X12_openAll : xm_M := (yX12_openAll, cX12_openAll, 2, none, 0, 0)
theorem ok_X12_openAll : xm_ok mt_X12_openAll 0 := ⟨plainFor_of_name (by decide +kernel), ms_4 (List.mem_of_getElem? (i := 146) (by decide +kernel)) rfl, ms_1 (List.mem_of_getElem? (i := 14) (by decide +kernel)) rfl, by decide +kernel, by decide +kernel, by decide +kernel⟩
theorem im_X12_openAll : Cond.instanceMethod yX12_openAll ∈ xm_tb := ms_4 (List.mem_of_getElem? (i := 145) (by decide +kernel)) rfl
theorem se_X12_openAll : Cond.selects RX12 yX12_openAll yX12_openAll ∈ xm_tb := List.mem_filter.mpr ⟨List.mem_append_left _ (List.mem_of_getElem? (i := 29) (by decide +kernel)), rfl⟩
abbrev mt_X12_loop : xm_M := (yX12_loop, cX12_loop, 4, (some .int), 1, 21)
theorem ok_X12_loop : xm_ok mt_X12_loop 1 := ⟨plainFor_of_name (by decide +kernel), ms_5 (List.mem_of_getElem? (i := 62) (by decide +kernel)) rfl, ms_1 (List.mem_of_getElem? (i := 14) (by decide +kernel)) rfl, by decide +kernel, by decide +kernel, by decide +kernel⟩
theorem im_X12_loop : Cond.instanceMethod yX12_loop ∈ xm_tb := ms_5 (List.mem_of_getElem? (i := 60) (by decide +kernel)) rfl
theorem se_X12_loop : Cond.selects RX12 yX12_loop yX12_loop ∈ xm_tb := ms_5 (List.mem_of_getElem? (i := 61) (by decide +kernel)) rfl
abbrev mt_X12_body : xm_M := (yX12_body, cX12_body, 4, (some .int), 1, 21)
theorem ok_X12_body : xm_ok mt_X12_body 0 := ⟨plainFor_of_name (by decide +kernel), ms_5 (List.mem_of_getElem? (i := 66) (by decide +kernel)) rfl, ms_1 (List.mem_of_getElem? (i := 14) (by decide +kernel)) rfl, by decide +kernel, by decide +kernel, by decide +kernel⟩
theorem im_X12_body : Cond.instanceMethod yX12_body ∈ xm_tb := ms_5 (List.mem_of_getElem? (i := 64) (by decide +kernel)) rfl
theorem se_X12_body : Cond.selects RX12 yX12_body yX12_body ∈ xm_tb := ms_5 (List.mem_of_getElem? (i := 65) (by decide +kernel)) rfl
abbrev mt_X12_areWeights : xm_M := (yX12_areWeights, cX12_areWeights, 2, (some .boolean), 0, 0)
theorem ok_X12_areWeights : xm_ok mt_X12_areWeights 2 := ⟨plainFor_of_name (by decide +kernel), ms_5 (List.mem_of_getElem? (i := 77) (by decide +kernel)) rfl, ms_1 (List.mem_of_getElem? (i := 14) (by decide +kernel)) rfl, by decide +kernel, by decide +kernel, by decide +kernel⟩
theorem st_X12_areWeights : Cond.static yX12_areWeights ∈ xm_tb := ms_5 (List.mem_of_getElem? (i := 76) (by decide +kernel)) rfl
abbrev mt_X12_lay : xm_M := (yX12_lay, cX12_lay, 6, none, 0, 0)
theorem ok_X12_lay : xm_ok mt_X12_lay 4 := ⟨plainFor_of_name (by decide +kernel), ms_5 (List.mem_of_getElem? (i := 82) (by decide +kernel)) rfl, ms_1 (List.mem_of_getElem? (i := 14) (by decide +kernel)) rfl, by decide +kernel, by decide +kernel, by decide +kernel⟩
theorem im_X12_lay : Cond.instanceMethod yX12_lay ∈ xm_tb := ms_5 (List.mem_of_getElem? (i := 81) (by decide +kernel)) rfl
theorem se_X12_lay : Cond.selects RX12 yX12_lay yX12_lay ∈ xm_tb := List.mem_filter.mpr ⟨List.mem_append_left _ (List.mem_of_getElem? (i := 31) (by decide +kernel)), rfl⟩
abbrev mt_X12_isBody : xm_M := (yX12_isBody, cX12_isBody, 2, (some .boolean), 0, 0)
theorem ok_X12_isBody : xm_ok mt_X12_isBody 1 := ⟨plainFor_of_name (by decide +kernel), ms_5 (List.mem_of_getElem? (i := 74) (by decide +kernel)) rfl, ms_1 (List.mem_of_getElem? (i := 14) (by decide +kernel)) rfl, by decide +kernel, by decide +kernel, by decide +kernel⟩
theorem im_X12_isBody : Cond.instanceMethod yX12_isBody ∈ xm_tb := ms_5 (List.mem_of_getElem? (i := 73) (by decide +kernel)) rfl
theorem se_X12_isBody : Cond.selects RX12 yX12_isBody yX12_isBody ∈ xm_tb := List.mem_filter.mpr ⟨List.mem_append_left _ (List.mem_of_getElem? (i := 30) (by decide +kernel)), rfl⟩
abbrev mt_X12_guard : xm_M := (yX12_guard, cX12_guard, 4, (some .int), 1, 25)
theorem ok_X12_guard : xm_ok mt_X12_guard 3 := ⟨plainFor_of_name (by decide +kernel), ms_5 (List.mem_of_getElem? (i := 70) (by decide +kernel)) rfl, ms_1 (List.mem_of_getElem? (i := 14) (by decide +kernel)) rfl, by decide +kernel, by decide +kernel, by decide +kernel⟩
theorem im_X12_guard : Cond.instanceMethod yX12_guard ∈ xm_tb := ms_5 (List.mem_of_getElem? (i := 68) (by decide +kernel)) rfl
theorem se_X12_guard : Cond.selects RX12 yX12_guard yX12_guard ∈ xm_tb := ms_5 (List.mem_of_getElem? (i := 69) (by decide +kernel)) rfl
abbrev mt_X12_rule : xm_M := (yX12_rule, cX12_rule, 5, (some .int), 1, 25)
theorem ok_X12_rule : xm_ok mt_X12_rule 4 := ⟨plainFor_of_name (by decide +kernel), ms_5 (List.mem_of_getElem? (i := 86) (by decide +kernel)) rfl, ms_1 (List.mem_of_getElem? (i := 14) (by decide +kernel)) rfl, by decide +kernel, by decide +kernel, by decide +kernel⟩
theorem im_X12_rule : Cond.instanceMethod yX12_rule ∈ xm_tb := ms_5 (List.mem_of_getElem? (i := 84) (by decide +kernel)) rfl
theorem se_X12_rule : Cond.selects RX12 yX12_rule yX12_rule ∈ xm_tb := ms_5 (List.mem_of_getElem? (i := 85) (by decide +kernel)) rfl
abbrev mt_X12_many : xm_M := (yX12_many, cX12_many, 2, (some .int), 1, 21)
theorem ok_X12_many : xm_ok mt_X12_many 1 := ⟨plainFor_of_name (by decide +kernel), ms_5 (List.mem_of_getElem? (i := 90) (by decide +kernel)) rfl, ms_1 (List.mem_of_getElem? (i := 14) (by decide +kernel)) rfl, by decide +kernel, by decide +kernel, by decide +kernel⟩
theorem im_X12_many : Cond.instanceMethod yX12_many ∈ xm_tb := ms_5 (List.mem_of_getElem? (i := 88) (by decide +kernel)) rfl
theorem se_X12_many : Cond.selects RX12 yX12_many yX12_many ∈ xm_tb := ms_5 (List.mem_of_getElem? (i := 89) (by decide +kernel)) rfl
abbrev mt_X12_set : xm_M := (yX12_set, cX12_set, 3, (some .int), 0, 0)
theorem ok_X12_set : xm_ok mt_X12_set 2 := ⟨plainFor_of_name (by decide +kernel), ms_5 (List.mem_of_getElem? (i := 94) (by decide +kernel)) rfl, ms_1 (List.mem_of_getElem? (i := 14) (by decide +kernel)) rfl, by decide +kernel, by decide +kernel, by decide +kernel⟩
theorem im_X12_set : Cond.instanceMethod yX12_set ∈ xm_tb := ms_5 (List.mem_of_getElem? (i := 92) (by decide +kernel)) rfl
theorem se_X12_set : Cond.selects RX12 yX12_set yX12_set ∈ xm_tb := ms_5 (List.mem_of_getElem? (i := 93) (by decide +kernel)) rfl
abbrev mt_X12_at : xm_M := (yX12_at, cX12_at, 2, (some .long), 0, 0)
theorem ok_X12_at : xm_ok mt_X12_at 1 := ⟨plainFor_of_name (by decide +kernel), ms_5 (List.mem_of_getElem? (i := 100) (by decide +kernel)) rfl, ms_1 (List.mem_of_getElem? (i := 14) (by decide +kernel)) rfl, by decide +kernel, by decide +kernel, by decide +kernel⟩
theorem im_X12_at : Cond.instanceMethod yX12_at ∈ xm_tb := ms_5 (List.mem_of_getElem? (i := 98) (by decide +kernel)) rfl
theorem se_X12_at : Cond.selects RX12 yX12_at yX12_at ∈ xm_tb := ms_5 (List.mem_of_getElem? (i := 99) (by decide +kernel)) rfl
abbrev mt_X12_of : xm_M := (yX12_of, cX12_of, 3, (some .long), 0, 0)
theorem ok_X12_of : xm_ok mt_X12_of 3 := ⟨plainFor_of_name (by decide +kernel), ms_5 (List.mem_of_getElem? (i := 115) (by decide +kernel)) rfl, ms_1 (List.mem_of_getElem? (i := 14) (by decide +kernel)) rfl, by decide +kernel, by decide +kernel, by decide +kernel⟩
theorem st_X12_of : Cond.static yX12_of ∈ xm_tb := ms_5 (List.mem_of_getElem? (i := 114) (by decide +kernel)) rfl
abbrev mt_X12_turnAt : xm_M := (yX12_turnAt, cX12_turnAt, 5, (some .int), 1, 22)
theorem ok_X12_turnAt : xm_ok mt_X12_turnAt 1 := ⟨plainFor_of_name (by decide +kernel), ms_5 (List.mem_of_getElem? (i := 112) (by decide +kernel)) rfl, ms_1 (List.mem_of_getElem? (i := 14) (by decide +kernel)) rfl, by decide +kernel, by decide +kernel, by decide +kernel⟩
theorem im_X12_turnAt : Cond.instanceMethod yX12_turnAt ∈ xm_tb := ms_5 (List.mem_of_getElem? (i := 111) (by decide +kernel)) rfl
theorem se_X12_turnAt : Cond.selects RX12 yX12_turnAt yX12_turnAt ∈ xm_tb := List.mem_filter.mpr ⟨List.mem_append_left _ (List.mem_of_getElem? (i := 33) (by decide +kernel)), rfl⟩
abbrev mt_X12_isFar : xm_M := (yX12_isFar, cX12_isFar, 2, (some .boolean), 0, 0)
theorem ok_X12_isFar : xm_ok mt_X12_isFar 1 := ⟨plainFor_of_name (by decide +kernel), ms_5 (List.mem_of_getElem? (i := 118) (by decide +kernel)) rfl, ms_1 (List.mem_of_getElem? (i := 14) (by decide +kernel)) rfl, by decide +kernel, by decide +kernel, by decide +kernel⟩
theorem st_X12_isFar : Cond.static yX12_isFar ∈ xm_tb := ms_5 (List.mem_of_getElem? (i := 117) (by decide +kernel)) rfl
abbrev mt_X12_turnFrom : xm_M := (yX12_turnFrom, cX12_turnFrom, 4, (some .int), 2, 46)
theorem ok_X12_turnFrom : xm_ok mt_X12_turnFrom 1 := ⟨plainFor_of_name (by decide +kernel), ms_5 (List.mem_of_getElem? (i := 108) (by decide +kernel)) rfl, ms_1 (List.mem_of_getElem? (i := 14) (by decide +kernel)) rfl, by decide +kernel, by decide +kernel, by decide +kernel⟩
theorem im_X12_turnFrom : Cond.instanceMethod yX12_turnFrom ∈ xm_tb := ms_5 (List.mem_of_getElem? (i := 107) (by decide +kernel)) rfl
theorem se_X12_turnFrom : Cond.selects RX12 yX12_turnFrom yX12_turnFrom ∈ xm_tb := List.mem_filter.mpr ⟨List.mem_append_left _ (List.mem_of_getElem? (i := 32) (by decide +kernel)), rfl⟩
abbrev mt_X12_run : xm_M := (yX12_run, cX12_run, 4, (some .int), 3, 69)
theorem ok_X12_run : xm_ok mt_X12_run 1 := ⟨plainFor_of_name (by decide +kernel), ms_5 (List.mem_of_getElem? (i := 104) (by decide +kernel)) rfl, ms_1 (List.mem_of_getElem? (i := 14) (by decide +kernel)) rfl, by decide +kernel, by decide +kernel, by decide +kernel⟩
theorem im_X12_run : Cond.instanceMethod yX12_run ∈ xm_tb := ms_5 (List.mem_of_getElem? (i := 102) (by decide +kernel)) rfl
theorem se_X12_run : Cond.selects RX12 yX12_run yX12_run ∈ xm_tb := ms_5 (List.mem_of_getElem? (i := 103) (by decide +kernel)) rfl
abbrev mt_X12_turn : xm_M := (yX12_turn, cX12_turn, 1, (some .int), 2, 46)
theorem ok_X12_turn : xm_ok mt_X12_turn 0 := ⟨plainFor_of_name (by decide +kernel), ms_5 (List.mem_of_getElem? (i := 124) (by decide +kernel)) rfl, ms_1 (List.mem_of_getElem? (i := 14) (by decide +kernel)) rfl, by decide +kernel, by decide +kernel, by decide +kernel⟩
theorem im_X12_turn : Cond.instanceMethod yX12_turn ∈ xm_tb := ms_5 (List.mem_of_getElem? (i := 122) (by decide +kernel)) rfl
theorem se_X12_turn : Cond.selects RX12 yX12_turn yX12_turn ∈ xm_tb := ms_5 (List.mem_of_getElem? (i := 123) (by decide +kernel)) rfl
abbrev mt_X12_keep : xm_M := (yX12_keep, cX12_keep, 7, (some .int), 0, 0)
theorem ok_X12_keep : xm_ok mt_X12_keep 2 := ⟨plainFor_of_name (by decide +kernel), ms_5 (List.mem_of_getElem? (i := 132) (by decide +kernel)) rfl, ms_1 (List.mem_of_getElem? (i := 14) (by decide +kernel)) rfl, by decide +kernel, by decide +kernel, by decide +kernel⟩
theorem im_X12_keep : Cond.instanceMethod yX12_keep ∈ xm_tb := ms_5 (List.mem_of_getElem? (i := 131) (by decide +kernel)) rfl
theorem se_X12_keep : Cond.selects RX12 yX12_keep yX12_keep ∈ xm_tb := List.mem_filter.mpr ⟨List.mem_append_left _ (List.mem_of_getElem? (i := 34) (by decide +kernel)), rfl⟩
abbrev mt_X12_ring : xm_M := (yX12_ring, cX12_ring, 5, (some .int), 3, 69)
theorem ok_X12_ring : xm_ok mt_X12_ring 1 := ⟨plainFor_of_name (by decide +kernel), ms_5 (List.mem_of_getElem? (i := 128) (by decide +kernel)) rfl, ms_1 (List.mem_of_getElem? (i := 14) (by decide +kernel)) rfl, by decide +kernel, by decide +kernel, by decide +kernel⟩
theorem im_X12_ring : Cond.instanceMethod yX12_ring ∈ xm_tb := ms_5 (List.mem_of_getElem? (i := 126) (by decide +kernel)) rfl
theorem se_X12_ring : Cond.selects RX12 yX12_ring yX12_ring ∈ xm_tb := ms_5 (List.mem_of_getElem? (i := 127) (by decide +kernel)) rfl
abbrev mt_X12_ahead : xm_M := (yX12_ahead, cX12_ahead, 1, (some .int), 0, 0)
theorem ok_X12_ahead : xm_ok mt_X12_ahead 0 := ⟨plainFor_of_name (by decide +kernel), ms_5 (List.mem_of_getElem? (i := 139) (by decide +kernel)) rfl, ms_1 (List.mem_of_getElem? (i := 14) (by decide +kernel)) rfl, by decide +kernel, by decide +kernel, by decide +kernel⟩
theorem im_X12_ahead : Cond.instanceMethod yX12_ahead ∈ xm_tb := ms_5 (List.mem_of_getElem? (i := 137) (by decide +kernel)) rfl
theorem se_X12_ahead : Cond.selects RX12 yX12_ahead yX12_ahead ∈ xm_tb := ms_5 (List.mem_of_getElem? (i := 138) (by decide +kernel)) rfl
abbrev mt_X12_addSide : xm_M := (yX12_addSide, cX12_addSide, 9, none, 0, 0)
theorem ok_X12_addSide : xm_ok mt_X12_addSide 4 := ⟨plainFor_of_name (by decide +kernel), ms_5 (List.mem_of_getElem? (i := 163) (by decide +kernel)) rfl, ms_1 (List.mem_of_getElem? (i := 14) (by decide +kernel)) rfl, by decide +kernel, by decide +kernel, by decide +kernel⟩
theorem im_X12_addSide : Cond.instanceMethod yX12_addSide ∈ xm_tb := ms_5 (List.mem_of_getElem? (i := 162) (by decide +kernel)) rfl
theorem se_X12_addSide : Cond.selects RX12 yX12_addSide yX12_addSide ∈ xm_tb := List.mem_filter.mpr ⟨List.mem_append_left _ (List.mem_of_getElem? (i := 39) (by decide +kernel)), rfl⟩
abbrev mt_X12_isZero : xm_M := (yX12_isZero, cX12_isZero, 2, (some .boolean), 0, 0)
theorem ok_X12_isZero : xm_ok mt_X12_isZero 1 := ⟨plainFor_of_name (by decide +kernel), ms_5 (List.mem_of_getElem? (i := 168) (by decide +kernel)) rfl, ms_1 (List.mem_of_getElem? (i := 14) (by decide +kernel)) rfl, by decide +kernel, by decide +kernel, by decide +kernel⟩
theorem im_X12_isZero : Cond.instanceMethod yX12_isZero ∈ xm_tb := ms_5 (List.mem_of_getElem? (i := 167) (by decide +kernel)) rfl
theorem se_X12_isZero : Cond.selects RX12 yX12_isZero yX12_isZero ∈ xm_tb := List.mem_filter.mpr ⟨List.mem_append_left _ (List.mem_of_getElem? (i := 40) (by decide +kernel)), rfl⟩
abbrev mt_X12_cross : xm_M := (yX12_cross, cX12_cross, 6, (some .long), 0, 0)
theorem ok_X12_cross : xm_ok mt_X12_cross 3 := ⟨plainFor_of_name (by decide +kernel), ms_5 (List.mem_of_getElem? (i := 180) (by decide +kernel)) rfl, ms_1 (List.mem_of_getElem? (i := 14) (by decide +kernel)) rfl, by decide +kernel, by decide +kernel, by decide +kernel⟩
theorem im_X12_cross : Cond.instanceMethod yX12_cross ∈ xm_tb := ms_5 (List.mem_of_getElem? (i := 179) (by decide +kernel)) rfl
theorem se_X12_cross : Cond.selects RX12 yX12_cross yX12_cross ∈ xm_tb := List.mem_filter.mpr ⟨List.mem_append_left _ (List.mem_of_getElem? (i := 43) (by decide +kernel)), rfl⟩
abbrev mt_X12_areParallel : xm_M := (yX12_areParallel, cX12_areParallel, 3, (some .boolean), 1, 25)
theorem ok_X12_areParallel : xm_ok mt_X12_areParallel 2 := ⟨plainFor_of_name (by decide +kernel), ms_5 (List.mem_of_getElem? (i := 176) (by decide +kernel)) rfl, ms_1 (List.mem_of_getElem? (i := 14) (by decide +kernel)) rfl, by decide +kernel, by decide +kernel, by decide +kernel⟩
theorem im_X12_areParallel : Cond.instanceMethod yX12_areParallel ∈ xm_tb := ms_5 (List.mem_of_getElem? (i := 175) (by decide +kernel)) rfl
theorem se_X12_areParallel : Cond.selects RX12 yX12_areParallel yX12_areParallel ∈ xm_tb := List.mem_filter.mpr ⟨List.mem_append_left _ (List.mem_of_getElem? (i := 42) (by decide +kernel)), rfl⟩
abbrev mt_X12_twoLeaveNothing : xm_M := (yX12_twoLeaveNothing, cX12_twoLeaveNothing, 8, (some .boolean), 2, 47)
theorem ok_X12_twoLeaveNothing : xm_ok mt_X12_twoLeaveNothing 2 := ⟨plainFor_of_name (by decide +kernel), ms_5 (List.mem_of_getElem? (i := 172) (by decide +kernel)) rfl, ms_1 (List.mem_of_getElem? (i := 14) (by decide +kernel)) rfl, by decide +kernel, by decide +kernel, by decide +kernel⟩
theorem im_X12_twoLeaveNothing : Cond.instanceMethod yX12_twoLeaveNothing ∈ xm_tb := ms_5 (List.mem_of_getElem? (i := 171) (by decide +kernel)) rfl
theorem se_X12_twoLeaveNothing : Cond.selects RX12 yX12_twoLeaveNothing yX12_twoLeaveNothing ∈ xm_tb := List.mem_filter.mpr ⟨List.mem_append_left _ (List.mem_of_getElem? (i := 41) (by decide +kernel)), rfl⟩
abbrev mt_X12_determinant : xm_M := (yX12_determinant, cX12_determinant, 4, (some .long), 1, 25)
theorem ok_X12_determinant : xm_ok mt_X12_determinant 3 := ⟨plainFor_of_name (by decide +kernel), ms_5 (List.mem_of_getElem? (i := 189) (by decide +kernel)) rfl, ms_1 (List.mem_of_getElem? (i := 14) (by decide +kernel)) rfl, by decide +kernel, by decide +kernel, by decide +kernel⟩
theorem im_X12_determinant : Cond.instanceMethod yX12_determinant ∈ xm_tb := ms_5 (List.mem_of_getElem? (i := 188) (by decide +kernel)) rfl
theorem se_X12_determinant : Cond.selects RX12 yX12_determinant yX12_determinant ∈ xm_tb := List.mem_filter.mpr ⟨List.mem_append_left _ (List.mem_of_getElem? (i := 45) (by decide +kernel)), rfl⟩
abbrev mt_X12_leaveNothing : xm_M := (yX12_leaveNothing, cX12_leaveNothing, 17, (some .boolean), 0, 0)
theorem ok_X12_leaveNothing : xm_ok mt_X12_leaveNothing 8 := ⟨plainFor_of_name (by decide +kernel), ms_5 (List.mem_of_getElem? (i := 193) (by decide +kernel)) rfl, ms_1 (List.mem_of_getElem? (i := 14) (by decide +kernel)) rfl, by decide +kernel, by decide +kernel, by decide +kernel⟩
theorem im_X12_leaveNothing : Cond.instanceMethod yX12_leaveNothing ∈ xm_tb := ms_5 (List.mem_of_getElem? (i := 192) (by decide +kernel)) rfl
theorem se_X12_leaveNothing : Cond.selects RX12 yX12_leaveNothing yX12_leaveNothing ∈ xm_tb := List.mem_filter.mpr ⟨List.mem_append_left _ (List.mem_of_getElem? (i := 46) (by decide +kernel)), rfl⟩
abbrev mt_X12_threeLeaveNothing : xm_M := (yX12_threeLeaveNothing, cX12_threeLeaveNothing, 11, (some .boolean), 2, 48)
theorem ok_X12_threeLeaveNothing : xm_ok mt_X12_threeLeaveNothing 3 := ⟨plainFor_of_name (by decide +kernel), ms_5 (List.mem_of_getElem? (i := 185) (by decide +kernel)) rfl, ms_1 (List.mem_of_getElem? (i := 14) (by decide +kernel)) rfl, by decide +kernel, by decide +kernel, by decide +kernel⟩
theorem im_X12_threeLeaveNothing : Cond.instanceMethod yX12_threeLeaveNothing ∈ xm_tb := ms_5 (List.mem_of_getElem? (i := 184) (by decide +kernel)) rfl
theorem se_X12_threeLeaveNothing : Cond.selects RX12 yX12_threeLeaveNothing yX12_threeLeaveNothing ∈ xm_tb := List.mem_filter.mpr ⟨List.mem_append_left _ (List.mem_of_getElem? (i := 44) (by decide +kernel)), rfl⟩
abbrev mt_X12_fourLeaveNothing : xm_M := (yX12_fourLeaveNothing, cX12_fourLeaveNothing, 13, (some .boolean), 2, 48)
theorem ok_X12_fourLeaveNothing : xm_ok mt_X12_fourLeaveNothing 4 := ⟨plainFor_of_name (by decide +kernel), ms_5 (List.mem_of_getElem? (i := 197) (by decide +kernel)) rfl, ms_1 (List.mem_of_getElem? (i := 14) (by decide +kernel)) rfl, by decide +kernel, by decide +kernel, by decide +kernel⟩
theorem im_X12_fourLeaveNothing : Cond.instanceMethod yX12_fourLeaveNothing ∈ xm_tb := ms_5 (List.mem_of_getElem? (i := 196) (by decide +kernel)) rfl
theorem se_X12_fourLeaveNothing : Cond.selects RX12 yX12_fourLeaveNothing yX12_fourLeaveNothing ∈ xm_tb := List.mem_filter.mpr ⟨List.mem_append_left _ (List.mem_of_getElem? (i := 47) (by decide +kernel)), rfl⟩
abbrev mt_X12_laySides : xm_M := (yX12_laySides, cX12_laySides, 6, none, 3, 80)
theorem ok_X12_laySides : xm_ok mt_X12_laySides 1 := ⟨plainFor_of_name (by decide +kernel), ms_5 (List.mem_of_getElem? (i := 159) (by decide +kernel)) rfl, ms_1 (List.mem_of_getElem? (i := 14) (by decide +kernel)) rfl, by decide +kernel, by decide +kernel, by decide +kernel⟩
theorem im_X12_laySides : Cond.instanceMethod yX12_laySides ∈ xm_tb := ms_5 (List.mem_of_getElem? (i := 158) (by decide +kernel)) rfl
theorem se_X12_laySides : Cond.selects RX12 yX12_laySides yX12_laySides ∈ xm_tb := List.mem_filter.mpr ⟨List.mem_append_left _ (List.mem_of_getElem? (i := 38) (by decide +kernel)), rfl⟩
abbrev mt_X12_isAbove : xm_M := (yX12_isAbove, cX12_isAbove, 16, (some .boolean), 1, 25)
theorem ok_X12_isAbove : xm_ok mt_X12_isAbove 6 := ⟨plainFor_of_name (by decide +kernel), ms_5 (List.mem_of_getElem? (i := 221) (by decide +kernel)) rfl, ms_1 (List.mem_of_getElem? (i := 14) (by decide +kernel)) rfl, by decide +kernel, by decide +kernel, by decide +kernel⟩
theorem st_X12_isAbove : Cond.static yX12_isAbove ∈ xm_tb := ms_5 (List.mem_of_getElem? (i := 220) (by decide +kernel)) rfl
abbrev mt_X12_offer : xm_M := (yX12_offer, cX12_offer, 23, none, 2, 60)
theorem ok_X12_offer : xm_ok mt_X12_offer 7 := ⟨plainFor_of_name (by decide +kernel), ms_5 (List.mem_of_getElem? (i := 213) (by decide +kernel)) rfl, ms_1 (List.mem_of_getElem? (i := 14) (by decide +kernel)) rfl, by decide +kernel, by decide +kernel, by decide +kernel⟩
theorem im_X12_offer : Cond.instanceMethod yX12_offer ∈ xm_tb := ms_5 (List.mem_of_getElem? (i := 212) (by decide +kernel)) rfl
theorem se_X12_offer : Cond.selects RX12 yX12_offer yX12_offer ∈ xm_tb := List.mem_filter.mpr ⟨List.mem_append_left _ (List.mem_of_getElem? (i := 51) (by decide +kernel)), rfl⟩
abbrev mt_X12_crossWanted : xm_M := (yX12_crossWanted, cX12_crossWanted, 5, (some .long), 0, 0)
theorem ok_X12_crossWanted : xm_ok mt_X12_crossWanted 2 := ⟨plainFor_of_name (by decide +kernel), ms_5 (List.mem_of_getElem? (i := 209) (by decide +kernel)) rfl, ms_1 (List.mem_of_getElem? (i := 14) (by decide +kernel)) rfl, by decide +kernel, by decide +kernel, by decide +kernel⟩
theorem im_X12_crossWanted : Cond.instanceMethod yX12_crossWanted ∈ xm_tb := ms_5 (List.mem_of_getElem? (i := 208) (by decide +kernel)) rfl
theorem se_X12_crossWanted : Cond.selects RX12 yX12_crossWanted yX12_crossWanted ∈ xm_tb := List.mem_filter.mpr ⟨List.mem_append_left _ (List.mem_of_getElem? (i := 50) (by decide +kernel)), rfl⟩
abbrev mt_X12_determinantWanted : xm_M := (yX12_determinantWanted, cX12_determinantWanted, 3, (some .long), 1, 25)
theorem ok_X12_determinantWanted : xm_ok mt_X12_determinantWanted 2 := ⟨plainFor_of_name (by decide +kernel), ms_5 (List.mem_of_getElem? (i := 229) (by decide +kernel)) rfl, ms_1 (List.mem_of_getElem? (i := 14) (by decide +kernel)) rfl, by decide +kernel, by decide +kernel, by decide +kernel⟩
theorem im_X12_determinantWanted : Cond.instanceMethod yX12_determinantWanted ∈ xm_tb := ms_5 (List.mem_of_getElem? (i := 228) (by decide +kernel)) rfl
theorem se_X12_determinantWanted : Cond.selects RX12 yX12_determinantWanted yX12_determinantWanted ∈ xm_tb := List.mem_filter.mpr ⟨List.mem_append_left _ (List.mem_of_getElem? (i := 53) (by decide +kernel)), rfl⟩
abbrev mt_X12_byOne : xm_M := (yX12_byOne, cX12_byOne, 3, none, 3, 102)
theorem ok_X12_byOne : xm_ok mt_X12_byOne 1 := ⟨plainFor_of_name (by decide +kernel), ms_5 (List.mem_of_getElem? (i := 205) (by decide +kernel)) rfl, ms_1 (List.mem_of_getElem? (i := 14) (by decide +kernel)) rfl, by decide +kernel, by decide +kernel, by decide +kernel⟩
theorem im_X12_byOne : Cond.instanceMethod yX12_byOne ∈ xm_tb := ms_5 (List.mem_of_getElem? (i := 204) (by decide +kernel)) rfl
theorem se_X12_byOne : Cond.selects RX12 yX12_byOne yX12_byOne ∈ xm_tb := List.mem_filter.mpr ⟨List.mem_append_left _ (List.mem_of_getElem? (i := 49) (by decide +kernel)), rfl⟩
abbrev mt_X12_byTwo : xm_M := (yX12_byTwo, cX12_byTwo, 6, none, 3, 102)
theorem ok_X12_byTwo : xm_ok mt_X12_byTwo 2 := ⟨plainFor_of_name (by decide +kernel), ms_5 (List.mem_of_getElem? (i := 225) (by decide +kernel)) rfl, ms_1 (List.mem_of_getElem? (i := 14) (by decide +kernel)) rfl, by decide +kernel, by decide +kernel, by decide +kernel⟩
theorem im_X12_byTwo : Cond.instanceMethod yX12_byTwo ∈ xm_tb := ms_5 (List.mem_of_getElem? (i := 224) (by decide +kernel)) rfl
theorem se_X12_byTwo : Cond.selects RX12 yX12_byTwo yX12_byTwo ∈ xm_tb := List.mem_filter.mpr ⟨List.mem_append_left _ (List.mem_of_getElem? (i := 52) (by decide +kernel)), rfl⟩
abbrev mt_X12_findLeast : xm_M := (yX12_findLeast, cX12_findLeast, 6, none, 4, 127)
theorem ok_X12_findLeast : xm_ok mt_X12_findLeast 0 := ⟨plainFor_of_name (by decide +kernel), ms_5 (List.mem_of_getElem? (i := 201) (by decide +kernel)) rfl, ms_1 (List.mem_of_getElem? (i := 14) (by decide +kernel)) rfl, by decide +kernel, by decide +kernel, by decide +kernel⟩
theorem im_X12_findLeast : Cond.instanceMethod yX12_findLeast ∈ xm_tb := ms_5 (List.mem_of_getElem? (i := 200) (by decide +kernel)) rfl
theorem se_X12_findLeast : Cond.selects RX12 yX12_findLeast yX12_findLeast ∈ xm_tb := List.mem_filter.mpr ⟨List.mem_append_left _ (List.mem_of_getElem? (i := 48) (by decide +kernel)), rfl⟩
abbrev mt_X12_isLeastAtLeast : xm_M := (yX12_isLeastAtLeast, cX12_isLeastAtLeast, 3, (some .boolean), 2, 68)
theorem ok_X12_isLeastAtLeast : xm_ok mt_X12_isLeastAtLeast 1 := ⟨plainFor_of_name (by decide +kernel), ms_5 (List.mem_of_getElem? (i := 233) (by decide +kernel)) rfl, ms_1 (List.mem_of_getElem? (i := 14) (by decide +kernel)) rfl, by decide +kernel, by decide +kernel, by decide +kernel⟩
theorem im_X12_isLeastAtLeast : Cond.instanceMethod yX12_isLeastAtLeast ∈ xm_tb := ms_5 (List.mem_of_getElem? (i := 232) (by decide +kernel)) rfl
theorem se_X12_isLeastAtLeast : Cond.selects RX12 yX12_isLeastAtLeast yX12_isLeastAtLeast ∈ xm_tb := List.mem_filter.mpr ⟨List.mem_append_left _ (List.mem_of_getElem? (i := 54) (by decide +kernel)), rfl⟩
abbrev mt_X12_isSum : xm_M := (yX12_isSum, cX12_isSum, 7, (some .boolean), 0, 0)
theorem ok_X12_isSum : xm_ok mt_X12_isSum 3 := ⟨plainFor_of_name (by decide +kernel), ms_5 (List.mem_of_getElem? (i := 147) (by decide +kernel)) rfl, ms_1 (List.mem_of_getElem? (i := 14) (by decide +kernel)) rfl, by decide +kernel, by decide +kernel, by decide +kernel⟩
theorem im_X12_isSum : Cond.instanceMethod yX12_isSum ∈ xm_tb := ms_5 (List.mem_of_getElem? (i := 146) (by decide +kernel)) rfl
theorem se_X12_isSum : Cond.selects RX12 yX12_isSum yX12_isSum ∈ xm_tb := List.mem_filter.mpr ⟨List.mem_append_left _ (List.mem_of_getElem? (i := 35) (by decide +kernel)), rfl⟩
abbrev mt_X12_tellsOf : xm_M := (yX12_tellsOf, cX12_tellsOf, 12, (some .int), 5, 152)
theorem ok_X12_tellsOf : xm_ok mt_X12_tellsOf 4 := ⟨plainFor_of_name (by decide +kernel), ms_5 (List.mem_of_getElem? (i := 155) (by decide +kernel)) rfl, ms_1 (List.mem_of_getElem? (i := 14) (by decide +kernel)) rfl, by decide +kernel, by decide +kernel, by decide +kernel⟩
theorem im_X12_tellsOf : Cond.instanceMethod yX12_tellsOf ∈ xm_tb := ms_5 (List.mem_of_getElem? (i := 154) (by decide +kernel)) rfl
theorem se_X12_tellsOf : Cond.selects RX12 yX12_tellsOf yX12_tellsOf ∈ xm_tb := List.mem_filter.mpr ⟨List.mem_append_left _ (List.mem_of_getElem? (i := 37) (by decide +kernel)), rfl⟩
abbrev mt_X12_doesRank : xm_M := (yX12_doesRank, cX12_doesRank, 6, (some .boolean), 6, 183)
theorem ok_X12_doesRank : xm_ok mt_X12_doesRank 3 := ⟨plainFor_of_name (by decide +kernel), ms_5 (List.mem_of_getElem? (i := 151) (by decide +kernel)) rfl, ms_1 (List.mem_of_getElem? (i := 14) (by decide +kernel)) rfl, by decide +kernel, by decide +kernel, by decide +kernel⟩
theorem im_X12_doesRank : Cond.instanceMethod yX12_doesRank ∈ xm_tb := ms_5 (List.mem_of_getElem? (i := 150) (by decide +kernel)) rfl
theorem se_X12_doesRank : Cond.selects RX12 yX12_doesRank yX12_doesRank ∈ xm_tb := List.mem_filter.mpr ⟨List.mem_append_left _ (List.mem_of_getElem? (i := 36) (by decide +kernel)), rfl⟩
abbrev mt_X12_ranks : xm_M := (yX12_ranks, cX12_ranks, 4, (some .int), 7, 208)
theorem ok_X12_ranks : xm_ok mt_X12_ranks 3 := ⟨plainFor_of_name (by decide +kernel), ms_5 (List.mem_of_getElem? (i := 143) (by decide +kernel)) rfl, ms_1 (List.mem_of_getElem? (i := 14) (by decide +kernel)) rfl, by decide +kernel, by decide +kernel, by decide +kernel⟩
theorem im_X12_ranks : Cond.instanceMethod yX12_ranks ∈ xm_tb := ms_5 (List.mem_of_getElem? (i := 141) (by decide +kernel)) rfl
theorem se_X12_ranks : Cond.selects RX12 yX12_ranks yX12_ranks ∈ xm_tb := ms_5 (List.mem_of_getElem? (i := 142) (by decide +kernel)) rfl
abbrev mt_X12_tells : xm_M := (yX12_tells, cX12_tells, 5, (some .int), 6, 183)
theorem ok_X12_tells : xm_ok mt_X12_tells 4 := ⟨plainFor_of_name (by decide +kernel), ms_5 (List.mem_of_getElem? (i := 237) (by decide +kernel)) rfl, ms_1 (List.mem_of_getElem? (i := 14) (by decide +kernel)) rfl, by decide +kernel, by decide +kernel, by decide +kernel⟩
theorem im_X12_tells : Cond.instanceMethod yX12_tells ∈ xm_tb := ms_5 (List.mem_of_getElem? (i := 235) (by decide +kernel)) rfl
theorem se_X12_tells : Cond.selects RX12 yX12_tells yX12_tells ∈ xm_tb := ms_5 (List.mem_of_getElem? (i := 236) (by decide +kernel)) rfl
abbrev mt_X12_floorOf : xm_M := (yX12_floorOf, cX12_floorOf, 10, (some .long), 5, 152)
theorem ok_X12_floorOf : xm_ok mt_X12_floorOf 3 := ⟨plainFor_of_name (by decide +kernel), ms_6 (List.mem_of_getElem? (i := 5) (by decide +kernel)) rfl, ms_1 (List.mem_of_getElem? (i := 14) (by decide +kernel)) rfl, by decide +kernel, by decide +kernel, by decide +kernel⟩
theorem im_X12_floorOf : Cond.instanceMethod yX12_floorOf ∈ xm_tb := ms_6 (List.mem_of_getElem? (i := 4) (by decide +kernel)) rfl
theorem se_X12_floorOf : Cond.selects RX12 yX12_floorOf yX12_floorOf ∈ xm_tb := List.mem_filter.mpr ⟨List.mem_append_left _ (List.mem_of_getElem? (i := 55) (by decide +kernel)), rfl⟩
abbrev mt_X12_floor : xm_M := (yX12_floor, cX12_floor, 4, (some .long), 7, 208)
theorem ok_X12_floor : xm_ok mt_X12_floor 3 := ⟨plainFor_of_name (by decide +kernel), ms_6 (List.mem_of_getElem? (i := 1) (by decide +kernel)) rfl, ms_1 (List.mem_of_getElem? (i := 14) (by decide +kernel)) rfl, by decide +kernel, by decide +kernel, by decide +kernel⟩
theorem im_X12_floor : Cond.instanceMethod yX12_floor ∈ xm_tb := ms_5 (List.mem_of_getElem? (i := 239) (by decide +kernel)) rfl
theorem se_X12_floor : Cond.selects RX12 yX12_floor yX12_floor ∈ xm_tb := ms_6 (List.mem_of_getElem? (i := 0) (by decide +kernel)) rfl
abbrev mt_X12_step : xm_M := (yX12_step, cX12_step, 3, (some .boolean), 0, 0)
theorem ok_X12_step : xm_ok mt_X12_step 1 := ⟨plainFor_of_name (by decide +kernel), ms_6 (List.mem_of_getElem? (i := 26) (by decide +kernel)) rfl, ms_1 (List.mem_of_getElem? (i := 14) (by decide +kernel)) rfl, by decide +kernel, by decide +kernel, by decide +kernel⟩
theorem im_X12_step : Cond.instanceMethod yX12_step ∈ xm_tb := ms_6 (List.mem_of_getElem? (i := 25) (by decide +kernel)) rfl
theorem se_X12_step : Cond.selects RX12 yX12_step yX12_step ∈ xm_tb := List.mem_filter.mpr ⟨List.mem_append_left _ (List.mem_of_getElem? (i := 58) (by decide +kernel)), rfl⟩
abbrev mt_X12_nextSum : xm_M := (yX12_nextSum, cX12_nextSum, 4, (some .boolean), 1, 22)
theorem ok_X12_nextSum : xm_ok mt_X12_nextSum 1 := ⟨plainFor_of_name (by decide +kernel), ms_6 (List.mem_of_getElem? (i := 21) (by decide +kernel)) rfl, ms_1 (List.mem_of_getElem? (i := 14) (by decide +kernel)) rfl, by decide +kernel, by decide +kernel, by decide +kernel⟩
theorem im_X12_nextSum : Cond.instanceMethod yX12_nextSum ∈ xm_tb := ms_6 (List.mem_of_getElem? (i := 20) (by decide +kernel)) rfl
theorem se_X12_nextSum : Cond.selects RX12 yX12_nextSum yX12_nextSum ∈ xm_tb := List.mem_filter.mpr ⟨List.mem_append_left _ (List.mem_of_getElem? (i := 57) (by decide +kernel)), rfl⟩
abbrev mt_X12_firstSum : xm_M := (yX12_firstSum, cX12_firstSum, 3, none, 2, 45)
theorem ok_X12_firstSum : xm_ok mt_X12_firstSum 1 := ⟨plainFor_of_name (by decide +kernel), ms_6 (List.mem_of_getElem? (i := 17) (by decide +kernel)) rfl, ms_1 (List.mem_of_getElem? (i := 14) (by decide +kernel)) rfl, by decide +kernel, by decide +kernel, by decide +kernel⟩
theorem im_X12_firstSum : Cond.instanceMethod yX12_firstSum ∈ xm_tb := ms_6 (List.mem_of_getElem? (i := 16) (by decide +kernel)) rfl
theorem se_X12_firstSum : Cond.selects RX12 yX12_firstSum yX12_firstSum ∈ xm_tb := List.mem_filter.mpr ⟨List.mem_append_left _ (List.mem_of_getElem? (i := 56) (by decide +kernel)), rfl⟩
abbrev mt_X12_isSize : xm_M := (yX12_isSize, cX12_isSize, 1, (some .boolean), 0, 0)
theorem ok_X12_isSize : xm_ok mt_X12_isSize 1 := ⟨plainFor_of_name (by decide +kernel), ms_6 (List.mem_of_getElem? (i := 13) (by decide +kernel)) rfl, ms_1 (List.mem_of_getElem? (i := 14) (by decide +kernel)) rfl, by decide +kernel, by decide +kernel, by decide +kernel⟩
theorem st_X12_isSize : Cond.static yX12_isSize ∈ xm_tb := ms_6 (List.mem_of_getElem? (i := 12) (by decide +kernel)) rfl
abbrev mt_X12_rank : xm_M := (yX12_rank, cX12_rank, 4, (some .int), 7, 208)
theorem ok_X12_rank : xm_ok mt_X12_rank 1 := ⟨plainFor_of_name (by decide +kernel), ms_6 (List.mem_of_getElem? (i := 10) (by decide +kernel)) rfl, ms_1 (List.mem_of_getElem? (i := 14) (by decide +kernel)) rfl, by decide +kernel, by decide +kernel, by decide +kernel⟩
theorem im_X12_rank : Cond.instanceMethod yX12_rank ∈ xm_tb := ms_6 (List.mem_of_getElem? (i := 8) (by decide +kernel)) rfl
theorem se_X12_rank : Cond.selects RX12 yX12_rank yX12_rank ∈ xm_tb := ms_6 (List.mem_of_getElem? (i := 9) (by decide +kernel)) rfl
abbrev mt_X12_takes : xm_M := (yX12_takes, cX12_takes, 5, (some .boolean), 6, 183)
theorem ok_X12_takes : xm_ok mt_X12_takes 0 := ⟨plainFor_of_name (by decide +kernel), ms_6 (List.mem_of_getElem? (i := 34) (by decide +kernel)) rfl, ms_1 (List.mem_of_getElem? (i := 14) (by decide +kernel)) rfl, by decide +kernel, by decide +kernel, by decide +kernel⟩
theorem im_X12_takes : Cond.instanceMethod yX12_takes ∈ xm_tb := ms_6 (List.mem_of_getElem? (i := 33) (by decide +kernel)) rfl
theorem se_X12_takes : Cond.selects RX12 yX12_takes yX12_takes ∈ xm_tb := List.mem_filter.mpr ⟨List.mem_append_left _ (List.mem_of_getElem? (i := 59) (by decide +kernel)), rfl⟩
abbrev mt_X12_rows : xm_M := (yX12_rows, cX12_rows, 7, (some .int), 7, 207)
theorem ok_X12_rows : xm_ok mt_X12_rows 1 := ⟨plainFor_of_name (by decide +kernel), ms_6 (List.mem_of_getElem? (i := 30) (by decide +kernel)) rfl, ms_1 (List.mem_of_getElem? (i := 14) (by decide +kernel)) rfl, by decide +kernel, by decide +kernel, by decide +kernel⟩
theorem im_X12_rows : Cond.instanceMethod yX12_rows ∈ xm_tb := ms_6 (List.mem_of_getElem? (i := 28) (by decide +kernel)) rfl
theorem se_X12_rows : Cond.selects RX12 yX12_rows yX12_rows ∈ xm_tb := ms_6 (List.mem_of_getElem? (i := 29) (by decide +kernel)) rfl
abbrev mt_X12_found : xm_M := (yX12_found, cX12_found, 3, (some .int), 0, 0)
theorem ok_X12_found : xm_ok mt_X12_found 2 := ⟨plainFor_of_name (by decide +kernel), ms_6 (List.mem_of_getElem? (i := 38) (by decide +kernel)) rfl, ms_1 (List.mem_of_getElem? (i := 14) (by decide +kernel)) rfl, by decide +kernel, by decide +kernel, by decide +kernel⟩
theorem im_X12_found : Cond.instanceMethod yX12_found ∈ xm_tb := ms_6 (List.mem_of_getElem? (i := 36) (by decide +kernel)) rfl
theorem se_X12_found : Cond.selects RX12 yX12_found yX12_found ∈ xm_tb := ms_6 (List.mem_of_getElem? (i := 37) (by decide +kernel)) rfl
abbrev mt_X12_by : xm_M := (yX12_by, cX12_by, 2, (some .int), 1, 21)
theorem ok_X12_by : xm_ok mt_X12_by 1 := ⟨plainFor_of_name (by decide +kernel), ms_6 (List.mem_of_getElem? (i := 42) (by decide +kernel)) rfl, ms_1 (List.mem_of_getElem? (i := 14) (by decide +kernel)) rfl, by decide +kernel, by decide +kernel, by decide +kernel⟩
theorem im_X12_by : Cond.instanceMethod yX12_by ∈ xm_tb := ms_6 (List.mem_of_getElem? (i := 40) (by decide +kernel)) rfl
theorem se_X12_by : Cond.selects RX12 yX12_by yX12_by ∈ xm_tb := ms_6 (List.mem_of_getElem? (i := 41) (by decide +kernel)) rfl
abbrev mt_X12_bound : xm_M := (yX12_bound, cX12_bound, 4, (some .long), 6, 181)
theorem ok_X12_bound : xm_ok mt_X12_bound 0 := ⟨plainFor_of_name (by decide +kernel), ms_6 (List.mem_of_getElem? (i := 46) (by decide +kernel)) rfl, ms_1 (List.mem_of_getElem? (i := 14) (by decide +kernel)) rfl, by decide +kernel, by decide +kernel, by decide +kernel⟩
theorem im_X12_bound : Cond.instanceMethod yX12_bound ∈ xm_tb := ms_6 (List.mem_of_getElem? (i := 44) (by decide +kernel)) rfl
theorem se_X12_bound : Cond.selects RX12 yX12_bound yX12_bound ∈ xm_tb := ms_6 (List.mem_of_getElem? (i := 45) (by decide +kernel)) rfl
abbrev mt_X12_begin : xm_M := (yX12_begin, cX12_begin, 4, (some .int), 0, 0)
theorem ok_X12_begin : xm_ok mt_X12_begin 3 := ⟨plainFor_of_name (by decide +kernel), ms_6 (List.mem_of_getElem? (i := 51) (by decide +kernel)) rfl, ms_1 (List.mem_of_getElem? (i := 14) (by decide +kernel)) rfl, by decide +kernel, by decide +kernel, by decide +kernel⟩
theorem im_X12_begin : Cond.instanceMethod yX12_begin ∈ xm_tb := ms_6 (List.mem_of_getElem? (i := 49) (by decide +kernel)) rfl
theorem se_X12_begin : Cond.selects RX12 yX12_begin yX12_begin ∈ xm_tb := ms_6 (List.mem_of_getElem? (i := 50) (by decide +kernel)) rfl
abbrev mt_X12_reach : xm_M := (yX12_reach, cX12_reach, 7, none, 0, 0)
theorem ok_X12_reach : xm_ok mt_X12_reach 3 := ⟨plainFor_of_name (by decide +kernel), ms_6 (List.mem_of_getElem? (i := 68) (by decide +kernel)) rfl, ms_1 (List.mem_of_getElem? (i := 14) (by decide +kernel)) rfl, by decide +kernel, by decide +kernel, by decide +kernel⟩
theorem im_X12_reach : Cond.instanceMethod yX12_reach ∈ xm_tb := ms_6 (List.mem_of_getElem? (i := 67) (by decide +kernel)) rfl
theorem se_X12_reach : Cond.selects RX12 yX12_reach yX12_reach ∈ xm_tb := List.mem_filter.mpr ⟨List.mem_append_left _ (List.mem_of_getElem? (i := 62) (by decide +kernel)), rfl⟩
abbrev mt_X12_isPassed : xm_M := (yX12_isPassed, cX12_isPassed, 4, (some .boolean), 1, 26)
theorem ok_X12_isPassed : xm_ok mt_X12_isPassed 1 := ⟨plainFor_of_name (by decide +kernel), ms_6 (List.mem_of_getElem? (i := 64) (by decide +kernel)) rfl, ms_1 (List.mem_of_getElem? (i := 14) (by decide +kernel)) rfl, by decide +kernel, by decide +kernel, by decide +kernel⟩
theorem im_X12_isPassed : Cond.instanceMethod yX12_isPassed ∈ xm_tb := ms_6 (List.mem_of_getElem? (i := 63) (by decide +kernel)) rfl
theorem se_X12_isPassed : Cond.selects RX12 yX12_isPassed yX12_isPassed ∈ xm_tb := List.mem_filter.mpr ⟨List.mem_append_left _ (List.mem_of_getElem? (i := 61) (by decide +kernel)), rfl⟩
abbrev mt_X12_isChanged : xm_M := (yX12_isChanged, cX12_isChanged, 2, (some .boolean), 0, 0)
theorem ok_X12_isChanged : xm_ok mt_X12_isChanged 1 := ⟨plainFor_of_name (by decide +kernel), ms_6 (List.mem_of_getElem? (i := 72) (by decide +kernel)) rfl, ms_1 (List.mem_of_getElem? (i := 14) (by decide +kernel)) rfl, by decide +kernel, by decide +kernel, by decide +kernel⟩
theorem im_X12_isChanged : Cond.instanceMethod yX12_isChanged ∈ xm_tb := ms_6 (List.mem_of_getElem? (i := 71) (by decide +kernel)) rfl
theorem se_X12_isChanged : Cond.selects RX12 yX12_isChanged yX12_isChanged ∈ xm_tb := List.mem_filter.mpr ⟨List.mem_append_left _ (List.mem_of_getElem? (i := 63) (by decide +kernel)), rfl⟩
abbrev mt_X12_goRound : xm_M := (yX12_goRound, cX12_goRound, 4, (some .boolean), 2, 49)
theorem ok_X12_goRound : xm_ok mt_X12_goRound 0 := ⟨plainFor_of_name (by decide +kernel), ms_6 (List.mem_of_getElem? (i := 60) (by decide +kernel)) rfl, ms_1 (List.mem_of_getElem? (i := 14) (by decide +kernel)) rfl, by decide +kernel, by decide +kernel, by decide +kernel⟩
theorem im_X12_goRound : Cond.instanceMethod yX12_goRound ∈ xm_tb := ms_6 (List.mem_of_getElem? (i := 59) (by decide +kernel)) rfl
theorem se_X12_goRound : Cond.selects RX12 yX12_goRound yX12_goRound ∈ xm_tb := List.mem_filter.mpr ⟨List.mem_append_left _ (List.mem_of_getElem? (i := 60) (by decide +kernel)), rfl⟩
abbrev mt_X12_round : xm_M := (yX12_round, cX12_round, 5, (some .int), 3, 72)
theorem ok_X12_round : xm_ok mt_X12_round 1 := ⟨plainFor_of_name (by decide +kernel), ms_6 (List.mem_of_getElem? (i := 56) (by decide +kernel)) rfl, ms_1 (List.mem_of_getElem? (i := 14) (by decide +kernel)) rfl, by decide +kernel, by decide +kernel, by decide +kernel⟩
theorem im_X12_round : Cond.instanceMethod yX12_round ∈ xm_tb := ms_6 (List.mem_of_getElem? (i := 54) (by decide +kernel)) rfl
theorem se_X12_round : Cond.selects RX12 yX12_round yX12_round ∈ xm_tb := ms_6 (List.mem_of_getElem? (i := 55) (by decide +kernel)) rfl
abbrev mt_X12_box : xm_M := (yX12_box, cX12_box, 3, (some .long), 0, 0)
theorem ok_X12_box : xm_ok mt_X12_box 2 := ⟨plainFor_of_name (by decide +kernel), ms_6 (List.mem_of_getElem? (i := 78) (by decide +kernel)) rfl, ms_1 (List.mem_of_getElem? (i := 14) (by decide +kernel)) rfl, by decide +kernel, by decide +kernel, by decide +kernel⟩
theorem im_X12_box : Cond.instanceMethod yX12_box ∈ xm_tb := ms_6 (List.mem_of_getElem? (i := 76) (by decide +kernel)) rfl
theorem se_X12_box : Cond.selects RX12 yX12_box yX12_box ∈ xm_tb := ms_6 (List.mem_of_getElem? (i := 77) (by decide +kernel)) rfl
abbrev mt_X12_open : xm_M := (yX12_open, cX12_open, 1, (some .int), 1, 21)
theorem ok_X12_open : xm_ok mt_X12_open 0 := ⟨plainFor_of_name (by decide +kernel), ms_6 (List.mem_of_getElem? (i := 83) (by decide +kernel)) rfl, ms_1 (List.mem_of_getElem? (i := 14) (by decide +kernel)) rfl, by decide +kernel, by decide +kernel, by decide +kernel⟩
theorem im_X12_open : Cond.instanceMethod yX12_open ∈ xm_tb := ms_6 (List.mem_of_getElem? (i := 81) (by decide +kernel)) rfl
theorem se_X12_open : Cond.selects RX12 yX12_open yX12_open ∈ xm_tb := ms_6 (List.mem_of_getElem? (i := 82) (by decide +kernel)) rfl
abbrev mt_X12_call : xm_M := (yX12_call, cX12_call, 4, (some .int), 0, 0)
theorem ok_X12_call : xm_ok mt_X12_call 3 := ⟨plainFor_of_name (by decide +kernel), ms_6 (List.mem_of_getElem? (i := 87) (by decide +kernel)) rfl, ms_1 (List.mem_of_getElem? (i := 14) (by decide +kernel)) rfl, by decide +kernel, by decide +kernel, by decide +kernel⟩
theorem im_X12_call : Cond.instanceMethod yX12_call ∈ xm_tb := ms_6 (List.mem_of_getElem? (i := 85) (by decide +kernel)) rfl
theorem se_X12_call : Cond.selects RX12 yX12_call yX12_call ∈ xm_tb := ms_6 (List.mem_of_getElem? (i := 86) (by decide +kernel)) rfl
abbrev mt_X12_clear : xm_M := (yX12_clear, cX12_clear, 2, (some .int), 0, 0)
theorem ok_X12_clear : xm_ok mt_X12_clear 0 := ⟨plainFor_of_name (by decide +kernel), ms_6 (List.mem_of_getElem? (i := 92) (by decide +kernel)) rfl, ms_1 (List.mem_of_getElem? (i := 14) (by decide +kernel)) rfl, by decide +kernel, by decide +kernel, by decide +kernel⟩
theorem im_X12_clear : Cond.instanceMethod yX12_clear ∈ xm_tb := ms_6 (List.mem_of_getElem? (i := 90) (by decide +kernel)) rfl
theorem se_X12_clear : Cond.selects RX12 yX12_clear yX12_clear ∈ xm_tb := ms_6 (List.mem_of_getElem? (i := 91) (by decide +kernel)) rfl
abbrev mt_X12_spread : xm_M := (yX12_spread, cX12_spread, 4, none, 0, 0)
theorem ok_X12_spread : xm_ok mt_X12_spread 2 := ⟨plainFor_of_name (by decide +kernel), ms_6 (List.mem_of_getElem? (i := 111) (by decide +kernel)) rfl, ms_1 (List.mem_of_getElem? (i := 14) (by decide +kernel)) rfl, by decide +kernel, by decide +kernel, by decide +kernel⟩
theorem st_X12_spread : Cond.static yX12_spread ∈ xm_tb := ms_6 (List.mem_of_getElem? (i := 110) (by decide +kernel)) rfl
abbrev mt_X12_together : xm_M := (yX12_together, cX12_together, 11, (some .int), 1, 23)
theorem ok_X12_together : xm_ok mt_X12_together 2 := ⟨plainFor_of_name (by decide +kernel), ms_6 (List.mem_of_getElem? (i := 108) (by decide +kernel)) rfl, ms_1 (List.mem_of_getElem? (i := 14) (by decide +kernel)) rfl, by decide +kernel, by decide +kernel, by decide +kernel⟩
theorem im_X12_together : Cond.instanceMethod yX12_together ∈ xm_tb := ms_6 (List.mem_of_getElem? (i := 107) (by decide +kernel)) rfl
theorem se_X12_together : Cond.selects RX12 yX12_together yX12_together ∈ xm_tb := List.mem_filter.mpr ⟨List.mem_append_left _ (List.mem_of_getElem? (i := 66) (by decide +kernel)), rfl⟩
abbrev mt_X12_make : xm_M := (yX12_make, cX12_make, 5, (some .boolean), 0, 0)
theorem ok_X12_make : xm_ok mt_X12_make 3 := ⟨plainFor_of_name (by decide +kernel), ms_6 (List.mem_of_getElem? (i := 104) (by decide +kernel)) rfl, ms_1 (List.mem_of_getElem? (i := 14) (by decide +kernel)) rfl, by decide +kernel, by decide +kernel, by decide +kernel⟩
theorem im_X12_make : Cond.instanceMethod yX12_make ∈ xm_tb := ms_6 (List.mem_of_getElem? (i := 103) (by decide +kernel)) rfl
theorem se_X12_make : Cond.selects RX12 yX12_make yX12_make ∈ xm_tb := List.mem_filter.mpr ⟨List.mem_append_left _ (List.mem_of_getElem? (i := 65) (by decide +kernel)), rfl⟩
abbrev mt_X12_makeAll : xm_M := (yX12_makeAll, cX12_makeAll, 4, (some .boolean), 2, 53)
theorem ok_X12_makeAll : xm_ok mt_X12_makeAll 0 := ⟨plainFor_of_name (by decide +kernel), ms_6 (List.mem_of_getElem? (i := 100) (by decide +kernel)) rfl, ms_1 (List.mem_of_getElem? (i := 14) (by decide +kernel)) rfl, by decide +kernel, by decide +kernel, by decide +kernel⟩
theorem im_X12_makeAll : Cond.instanceMethod yX12_makeAll ∈ xm_tb := ms_6 (List.mem_of_getElem? (i := 99) (by decide +kernel)) rfl
theorem se_X12_makeAll : Cond.selects RX12 yX12_makeAll yX12_makeAll ∈ xm_tb := List.mem_filter.mpr ⟨List.mem_append_left _ (List.mem_of_getElem? (i := 64) (by decide +kernel)), rfl⟩
abbrev mt_X12_isAsked : xm_M := (yX12_isAsked, cX12_isAsked, 2, (some .boolean), 2, 53)
theorem ok_X12_isAsked : xm_ok mt_X12_isAsked 1 := ⟨plainFor_of_name (by decide +kernel), ms_6 (List.mem_of_getElem? (i := 115) (by decide +kernel)) rfl, ms_1 (List.mem_of_getElem? (i := 14) (by decide +kernel)) rfl, by decide +kernel, by decide +kernel, by decide +kernel⟩
theorem im_X12_isAsked : Cond.instanceMethod yX12_isAsked ∈ xm_tb := ms_6 (List.mem_of_getElem? (i := 114) (by decide +kernel)) rfl
theorem se_X12_isAsked : Cond.selects RX12 yX12_isAsked yX12_isAsked ∈ xm_tb := List.mem_filter.mpr ⟨List.mem_append_left _ (List.mem_of_getElem? (i := 67) (by decide +kernel)), rfl⟩
abbrev mt_X12_ending : xm_M := (yX12_ending, cX12_ending, 3, (some .int), 3, 76)
theorem ok_X12_ending : xm_ok mt_X12_ending 0 := ⟨plainFor_of_name (by decide +kernel), ms_6 (List.mem_of_getElem? (i := 96) (by decide +kernel)) rfl, ms_1 (List.mem_of_getElem? (i := 14) (by decide +kernel)) rfl, by decide +kernel, by decide +kernel, by decide +kernel⟩
theorem im_X12_ending : Cond.instanceMethod yX12_ending ∈ xm_tb := ms_6 (List.mem_of_getElem? (i := 94) (by decide +kernel)) rfl
theorem se_X12_ending : Cond.selects RX12 yX12_ending yX12_ending ∈ xm_tb := ms_6 (List.mem_of_getElem? (i := 95) (by decide +kernel)) rfl
abbrev mt_X12_made : xm_M := (yX12_made, cX12_made, 1, (some .int), 0, 0)
theorem ok_X12_made : xm_ok mt_X12_made 0 := ⟨plainFor_of_name (by decide +kernel), ms_6 (List.mem_of_getElem? (i := 119) (by decide +kernel)) rfl, ms_1 (List.mem_of_getElem? (i := 14) (by decide +kernel)) rfl, by decide +kernel, by decide +kernel, by decide +kernel⟩
theorem im_X12_made : Cond.instanceMethod yX12_made ∈ xm_tb := ms_6 (List.mem_of_getElem? (i := 117) (by decide +kernel)) rfl
theorem se_X12_made : Cond.selects RX12 yX12_made yX12_made ∈ xm_tb := ms_6 (List.mem_of_getElem? (i := 118) (by decide +kernel)) rfl
abbrev mt_X12_witness : xm_M := (yX12_witness, cX12_witness, 2, (some .int), 0, 0)
theorem ok_X12_witness : xm_ok mt_X12_witness 1 := ⟨plainFor_of_name (by decide +kernel), ms_6 (List.mem_of_getElem? (i := 123) (by decide +kernel)) rfl, ms_1 (List.mem_of_getElem? (i := 14) (by decide +kernel)) rfl, by decide +kernel, by decide +kernel, by decide +kernel⟩
theorem im_X12_witness : Cond.instanceMethod yX12_witness ∈ xm_tb := ms_6 (List.mem_of_getElem? (i := 121) (by decide +kernel)) rfl
theorem se_X12_witness : Cond.selects RX12 yX12_witness yX12_witness ∈ xm_tb := ms_6 (List.mem_of_getElem? (i := 122) (by decide +kernel)) rfl

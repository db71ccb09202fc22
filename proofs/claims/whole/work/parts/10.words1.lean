section TB
variable {w : Cond}
theorem tb_0 (h : w ∈ k2_sels lw_privs) : w ∈ lw_tbl := List.mem_append_left _ h
theorem tb_1 (h : w ∈ tables_1_1) : w ∈ lw_tbl := List.mem_append_right _ (show w ∈ tables_1 from List.mem_append_left _ h)
theorem tb_2 (h : w ∈ tables_1_2) : w ∈ lw_tbl := List.mem_append_right _ (show w ∈ tables_1 from List.mem_append_right _ (List.mem_append_left _ h))
theorem tb_3 (h : w ∈ tables_1_3) : w ∈ lw_tbl := List.mem_append_right _ (show w ∈ tables_1 from List.mem_append_right _ (List.mem_append_right _ (List.mem_append_left _ h)))
theorem tb_4 (h : w ∈ tables_1_4) : w ∈ lw_tbl := List.mem_append_right _ (show w ∈ tables_1 from List.mem_append_right _ (List.mem_append_right _ (List.mem_append_right _ (List.mem_append_left _ h))))
theorem tb_5 (h : w ∈ tables_1_5) : w ∈ lw_tbl := List.mem_append_right _ (show w ∈ tables_1 from List.mem_append_right _ (List.mem_append_right _ (List.mem_append_right _ (List.mem_append_right _ (List.mem_append_left _ h)))))
theorem tb_6 (h : w ∈ tables_1_6) : w ∈ lw_tbl := List.mem_append_right _ (show w ∈ tables_1 from List.mem_append_right _ (List.mem_append_right _ (List.mem_append_right _ (List.mem_append_right _ (List.mem_append_right _ (List.mem_append_left _ h))))))
theorem tb_7 (h : w ∈ tables_1_7) : w ∈ lw_tbl := List.mem_append_right _ (show w ∈ tables_1 from List.mem_append_right _ (List.mem_append_right _ (List.mem_append_right _ (List.mem_append_right _ (List.mem_append_right _ (List.mem_append_right _ (List.mem_append_left _ h)))))))
theorem tb_8 (h : w ∈ tables_1_8) : w ∈ lw_tbl := List.mem_append_right _ (show w ∈ tables_1 from List.mem_append_right _ (List.mem_append_right _ (List.mem_append_right _ (List.mem_append_right _ (List.mem_append_right _ (List.mem_append_right _ (List.mem_append_right _ (h))))))))
end TB
def m_J13_bitCount_95d88 : hm_D := (yJ13_bitCount_95d88, cJ13_bitCount_95d88, 2, (some .int))
def m_J6_bitCount_0f7a4 : hm_D := (yJ6_bitCount_0f7a4, cJ6_bitCount_0f7a4, 1, (some .int))
def m_J6_numberOfTrailingZeros_0f7a4 : hm_D := (yJ6_numberOfTrailingZeros_0f7a4, cJ6_numberOfTrailingZeros_0f7a4, 2, (some .int))
def m_J7_fill_53178 : hm_D := (yJ7_fill_53178, cJ7_fill_53178, 4, none)
def m_J7_fill_d0a16 : hm_D := (yJ7_fill_d0a16, cJ7_fill_d0a16, 5, none)
def m_X0_bestAsked : hm_D := (yX0_bestAsked, cX0_bestAsked, 7, (some .int))
def m_X0_bestPart : hm_D := (yX0_bestPart, cX0_bestPart, 5, (some .int))
def m_X0_costBetween : hm_D := (yX0_costBetween, cX0_costBetween, 3, (some .int))
def m_X0_costBy : hm_D := (yX0_costBy, cX0_costBy, 7, (some .int))
def m_X0_countRounds : hm_D := (yX0_countRounds, cX0_countRounds, 4, (some .int))
def m_X0_countWith : hm_D := (yX0_countWith, cX0_countWith, 8, (some .int))
def m_X0_draw : hm_D := (yX0_draw, cX0_draw, 6, none)
def m_X0_drawSeen : hm_D := (yX0_drawSeen, cX0_drawSeen, 8, (some .int))
def m_X0_everybody : hm_D := (yX0_everybody, cX0_everybody, 1, (some .int))
def m_X0_fallsApartWithout : hm_D := (yX0_fallsApartWithout, cX0_fallsApartWithout, 6, (some .boolean))
def m_X0_firstNext : hm_D := (yX0_firstNext, cX0_firstNext, 8, (some .int))
def m_X0_goFurther : hm_D := (yX0_goFurther, cX0_goFurther, 8, none)
def m_X0_hasRound : hm_D := (yX0_hasRound, cX0_hasRound, 2, (some .boolean))
def m_X0_inRow : hm_D := (yX0_inRow, cX0_inRow, 8, (some .int))
def m_X0_init : hm_D := (yX0_init, cX0_init, 2, none)
def m_X0_leastClosed : hm_D := (yX0_leastClosed, cX0_leastClosed, 5, (some .int))
def m_X0_leastRound : hm_D := (yX0_leastRound, cX0_leastRound, 5, (some .int))
def m_X0_leastTo : hm_D := (yX0_leastTo, cX0_leastTo, 3, (some .int))
def m_X0_leftAtMost : hm_D := (yX0_leftAtMost, cX0_leftAtMost, 5, (some .int))
def m_X0_lostInBoth : hm_D := (yX0_lostInBoth, cX0_lostInBoth, 4, (some .int))
def m_X0_mostKept : hm_D := (yX0_mostKept, cX0_mostKept, 4, (some .int))
def m_X0_offer : hm_D := (yX0_offer, cX0_offer, 6, none)
def m_X0_setCost : hm_D := (yX0_setCost, cX0_setCost, 4, none)
def m_X0_solve : hm_D := (yX0_solve, cX0_solve, 6, none)
def m_X0_spread : hm_D := (yX0_spread, cX0_spread, 7, (some .int))
def m_X0_tellRow : hm_D := (yX0_tellRow, cX0_tellRow, 4, (some .int))
def m_X0_together : hm_D := (yX0_together, cX0_together, 3, (some .int))
def m_X0_wayHome : hm_D := (yX0_wayHome, cX0_wayHome, 3, (some .int))
def m_X10_adds : hm_D := (yX10_adds, cX10_adds, 5, none)
def m_X10_apart : hm_D := (yX10_apart, cX10_apart, 2, (some .int))
def m_X10_areNear : hm_D := (yX10_areNear, cX10_areNear, 3, (some .boolean))
def m_X10_areNext : hm_D := (yX10_areNext, cX10_areNext, 7, (some .boolean))
def m_X10_areTwo : hm_D := (yX10_areTwo, cX10_areTwo, 3, (some .boolean))
def m_X10_ask : hm_D := (yX10_ask, cX10_ask, 8, (some .int))
def m_X10_asks : hm_D := (yX10_asks, cX10_asks, 4, (some .int))
def m_X10_back : hm_D := (yX10_back, cX10_back, 3, (some .int))
def m_X10_bestRing : hm_D := (yX10_bestRing, cX10_bestRing, 2, (some .int))
def m_X10_bothOf : hm_D := (yX10_bothOf, cX10_bothOf, 4, (some .boolean))
def m_X10_bounded : hm_D := (yX10_bounded, cX10_bounded, 4, (some .long))
def m_X10_canBe : hm_D := (yX10_canBe, cX10_canBe, 3, (some .boolean))
def m_X10_canHold : hm_D := (yX10_canHold, cX10_canHold, 3, (some .boolean))
def m_X10_canTake : hm_D := (yX10_canTake, cX10_canTake, 3, (some .boolean))
def m_X10_cellAt : hm_D := (yX10_cellAt, cX10_cellAt, 2, (some .int))
def m_X10_changesHold : hm_D := (yX10_changesHold, cX10_changesHold, 3, none)
def m_X10_codeAt : hm_D := (yX10_codeAt, cX10_codeAt, 2, (some .int))
def m_X10_comesTo : hm_D := (yX10_comesTo, cX10_comesTo, 6, (some .int))
def m_X10_compare : hm_D := (yX10_compare, cX10_compare, 4, (some .int))
def m_X10_count : hm_D := (yX10_count, cX10_count, 2, (some .int))
def m_X10_countsRing : hm_D := (yX10_countsRing, cX10_countsRing, 4, none)
def m_X10_dayIsDrawn : hm_D := (yX10_dayIsDrawn, cX10_dayIsDrawn, 5, none)
def m_X10_dayPasses : hm_D := (yX10_dayPasses, cX10_dayPasses, 2, none)
def m_X10_days : hm_D := (yX10_days, cX10_days, 5, (some .int))
def m_X10_drawn : hm_D := (yX10_drawn, cX10_drawn, 3, (some .int))
def m_X10_draws : hm_D := (yX10_draws, cX10_draws, 2, (some .int))
def m_X10_end : hm_D := (yX10_end, cX10_end, 2, (some .int))
def m_X10_farOf : hm_D := (yX10_farOf, cX10_farOf, 3, (some .int))
def m_X10_fault : hm_D := (yX10_fault, cX10_fault, 1, (some .int))
def m_X10_faults : hm_D := (yX10_faults, cX10_faults, 1, none)
def m_X10_feed : hm_D := (yX10_feed, cX10_feed, 7, (some .int))
def m_X10_few : hm_D := (yX10_few, cX10_few, 6, (some .long))
def m_X10_fine : hm_D := (yX10_fine, cX10_fine, 1, (some .boolean))
def m_X10_fits : hm_D := (yX10_fits, cX10_fits, 2, (some .int))
def m_X10_force : hm_D := (yX10_force, cX10_force, 3, (some .int))
def m_X10_forget : hm_D := (yX10_forget, cX10_forget, 2, (some .int))
def m_X10_gaps : hm_D := (yX10_gaps, cX10_gaps, 1, (some .int))
def m_X10_gloveOf : hm_D := (yX10_gloveOf, cX10_gloveOf, 3, (some .int))
def m_X10_gloves : hm_D := (yX10_gloves, cX10_gloves, 2, (some .int))
def m_X10_goesAlong : hm_D := (yX10_goesAlong, cX10_goesAlong, 5, none)
def m_X10_goesThrough : hm_D := (yX10_goesThrough, cX10_goesThrough, 4, none)
def m_X10_good : hm_D := (yX10_good, cX10_good, 2, (some .int))
def m_X10_goodOr : hm_D := (yX10_goodOr, cX10_goodOr, 2, (some .int))
def m_X10_greater : hm_D := (yX10_greater, cX10_greater, 2, (some .int))
def m_X10_holdMany : hm_D := (yX10_holdMany, cX10_holdMany, 3, (some .int))
def m_X10_image : hm_D := (yX10_image, cX10_image, 3, (some .int))
def m_X10_init : hm_D := (yX10_init, cX10_init, 1, none)
def m_X10_isBarred : hm_D := (yX10_isBarred, cX10_isBarred, 3, (some .boolean))
def m_X10_isDigit : hm_D := (yX10_isDigit, cX10_isDigit, 1, (some .boolean))
def m_X10_isIn : hm_D := (yX10_isIn, cX10_isIn, 2, (some .boolean))
def m_X10_isLaw : hm_D := (yX10_isLaw, cX10_isLaw, 2, (some .boolean))
def m_X10_isLit : hm_D := (yX10_isLit, cX10_isLit, 3, (some .boolean))
def m_X10_isPerson : hm_D := (yX10_isPerson, cX10_isPerson, 2, (some .boolean))
def m_X10_isSmall : hm_D := (yX10_isSmall, cX10_isSmall, 1, (some .boolean))
def m_X10_isSo : hm_D := (yX10_isSo, cX10_isSo, 3, (some .boolean))
def m_X10_isTerm : hm_D := (yX10_isTerm, cX10_isTerm, 2, (some .boolean))
def m_X10_keeps : hm_D := (yX10_keeps, cX10_keeps, 4, none)
def m_X10_kept : hm_D := (yX10_kept, cX10_kept, 4, (some .int))
def m_X10_law : hm_D := (yX10_law, cX10_law, 1, (some .int))
def m_X10_lays : hm_D := (yX10_lays, cX10_lays, 3, none)
def m_X10_laysAside : hm_D := (yX10_laysAside, cX10_laysAside, 3, none)
def m_X10_laysCosts : hm_D := (yX10_laysCosts, cX10_laysCosts, 4, none)
def m_X10_laysHolds : hm_D := (yX10_laysHolds, cX10_laysHolds, 2, none)
def m_X10_laysRings : hm_D := (yX10_laysRings, cX10_laysRings, 2, none)
def m_X10_laysRounds : hm_D := (yX10_laysRounds, cX10_laysRounds, 3, none)
def m_X10_leaf : hm_D := (yX10_leaf, cX10_leaf, 1, none)
def m_X10_lesser : hm_D := (yX10_lesser, cX10_lesser, 2, (some .int))
def m_X10_lies : hm_D := (yX10_lies, cX10_lies, 3, (some .boolean))
def m_X10_lights : hm_D := (yX10_lights, cX10_lights, 2, (some .int))
def m_X10_loose : hm_D := (yX10_loose, cX10_loose, 3, (some .int))
def m_X10_loosesAll : hm_D := (yX10_loosesAll, cX10_loosesAll, 4, (some .int))
def m_X10_loosesKept : hm_D := (yX10_loosesKept, cX10_loosesKept, 3, (some .int))
def m_X10_lostInAll : hm_D := (yX10_lostInAll, cX10_lostInAll, 4, (some .int))
def m_X10_lostOf : hm_D := (yX10_lostOf, cX10_lostOf, 3, (some .int))
def m_X10_lowest : hm_D := (yX10_lowest, cX10_lowest, 2, (some .int))
def m_X10_many : hm_D := (yX10_many, cX10_many, 1, (some .int))
def m_X10_must : hm_D := (yX10_must, cX10_must, 2, none)
def m_X10_mustNumber : hm_D := (yX10_mustNumber, cX10_mustNumber, 3, none)
def m_X10_narrow : hm_D := (yX10_narrow, cX10_narrow, 2, (some .int))
def m_X10_obeys : hm_D := (yX10_obeys, cX10_obeys, 4, (some .int))
def m_X10_of : hm_D := (yX10_of, cX10_of, 3, (some .int))
def m_X10_ones : hm_D := (yX10_ones, cX10_ones, 3, (some .int))
def m_X10_orderValue : hm_D := (yX10_orderValue, cX10_orderValue, 3, (some .int))
def m_X10_orders : hm_D := (yX10_orders, cX10_orders, 5, (some .int))
def m_X10_partOf : hm_D := (yX10_partOf, cX10_partOf, 4, (some .long))
def m_X10_parts : hm_D := (yX10_parts, cX10_parts, 4, (some .boolean))
def m_X10_pass : hm_D := (yX10_pass, cX10_pass, 1, (some .int))
def m_X10_passes0 : hm_D := (yX10_passes0, cX10_passes0, 3, (some .boolean))
def m_X10_passesKept : hm_D := (yX10_passesKept, cX10_passesKept, 1, (some .int))
def m_X10_pathOf : hm_D := (yX10_pathOf, cX10_pathOf, 7, (some .int))
def m_X10_person : hm_D := (yX10_person, cX10_person, 4, (some .int))
def m_X10_plainOf : hm_D := (yX10_plainOf, cX10_plainOf, 3, (some .boolean))
def m_X10_positiveOf : hm_D := (yX10_positiveOf, cX10_positiveOf, 7, (some .boolean))
def m_X10_readBoth : hm_D := (yX10_readBoth, cX10_readBoth, 2, none)
def m_X10_readClause : hm_D := (yX10_readClause, cX10_readClause, 1, none)
def m_X10_readOne : hm_D := (yX10_readOne, cX10_readOne, 1, none)
def m_X10_readOrder : hm_D := (yX10_readOrder, cX10_readOrder, 1, none)
def m_X10_readPart : hm_D := (yX10_readPart, cX10_readPart, 3, none)
def m_X10_readPlain : hm_D := (yX10_readPlain, cX10_readPlain, 4, none)
def m_X10_readSum : hm_D := (yX10_readSum, cX10_readSum, 2, none)
def m_X10_readTerm : hm_D := (yX10_readTerm, cX10_readTerm, 2, none)
def m_X10_readTest : hm_D := (yX10_readTest, cX10_readTest, 2, none)
def m_X10_readTwo : hm_D := (yX10_readTwo, cX10_readTwo, 2, none)
def m_X10_reads : hm_D := (yX10_reads, cX10_reads, 2, (some .boolean))
def m_X10_readsAs : hm_D := (yX10_readsAs, cX10_readsAs, 2, (some .boolean))
def m_X10_refuses : hm_D := (yX10_refuses, cX10_refuses, 2, (some .int))
def m_X10_ring : hm_D := (yX10_ring, cX10_ring, 2, (some .int))
def m_X10_rings : hm_D := (yX10_rings, cX10_rings, 1, (some .int))
def m_X10_row : hm_D := (yX10_row, cX10_row, 5, (some .int))
def m_X10_runs : hm_D := (yX10_runs, cX10_runs, 5, (some .boolean))
def m_X10_seen : hm_D := (yX10_seen, cX10_seen, 5, (some .int))
def m_X10_setsAsked : hm_D := (yX10_setsAsked, cX10_setsAsked, 3, none)
def m_X10_settled : hm_D := (yX10_settled, cX10_settled, 2, (some .int))
def m_X10_sign : hm_D := (yX10_sign, cX10_sign, 1, (some .int))
def m_X10_small : hm_D := (yX10_small, cX10_small, 2, (some .int))
def m_X10_splits : hm_D := (yX10_splits, cX10_splits, 6, none)
def m_X10_status : hm_D := (yX10_status, cX10_status, 1, (some .int))
def m_X10_stays : hm_D := (yX10_stays, cX10_stays, 3, (some .int))
def m_X10_stopped : hm_D := (yX10_stopped, cX10_stopped, 1, (some .int))
def m_X10_sumOf : hm_D := (yX10_sumOf, cX10_sumOf, 7, (some .long))
def m_X10_take : hm_D := (yX10_take, cX10_take, 3, (some .int))
def m_X10_takes0 : hm_D := (yX10_takes0, cX10_takes0, 3, (some .boolean))
def m_X10_takesBack : hm_D := (yX10_takesBack, cX10_takesBack, 3, none)
def m_X10_takesKept : hm_D := (yX10_takesKept, cX10_takesKept, 3, (some .int))
def m_X10_tells : hm_D := (yX10_tells, cX10_tells, 13, (some .int))
def m_X10_termAt : hm_D := (yX10_termAt, cX10_termAt, 1, (some .int))
def m_X10_termOf : hm_D := (yX10_termOf, cX10_termOf, 7, (some .long))
def m_X10_terms : hm_D := (yX10_terms, cX10_terms, 4, (some .int))
def m_X10_testOf : hm_D := (yX10_testOf, cX10_testOf, 4, (some .boolean))
def m_X10_tiresBy : hm_D := (yX10_tiresBy, cX10_tiresBy, 2, (some .int))
def m_X10_triesRing : hm_D := (yX10_triesRing, cX10_triesRing, 6, none)
def m_X10_two : hm_D := (yX10_two, cX10_two, 7, (some .int))
def m_X10_undo : hm_D := (yX10_undo, cX10_undo, 3, (some .int))
def m_X10_walk : hm_D := (yX10_walk, cX10_walk, 3, (some .int))
def m_X10_walksKept : hm_D := (yX10_walksKept, cX10_walksKept, 4, (some .int))
def m_X10_whoCan : hm_D := (yX10_whoCan, cX10_whoCan, 4, (some .int))
def m_X10_with : hm_D := (yX10_with, cX10_with, 5, (some .int))
def m_X10_wordOf : hm_D := (yX10_wordOf, cX10_wordOf, 8, (some .int))
def m_X1_doNoted : hm_D := (yX1_doNoted, cX1_doNoted, 7, (some .int))
def m_X1_doOne : hm_D := (yX1_doOne, cX1_doOne, 6, (some .int))
def m_X1_dropHolds : hm_D := (yX1_dropHolds, cX1_dropHolds, 5, (some .int))
def m_X1_init : hm_D := (yX1_init, cX1_init, 2, none)
def m_X1_looseHands : hm_D := (yX1_looseHands, cX1_looseHands, 4, (some .int))
def m_X1_passDay : hm_D := (yX1_passDay, cX1_passDay, 3, (some .int))
def m_X1_stepOn : hm_D := (yX1_stepOn, cX1_stepOn, 6, (some .int))
def m_X1_takeHands : hm_D := (yX1_takeHands, cX1_takeHands, 6, (some .int))
def m_X2_begin : hm_D := (yX2_begin, cX2_begin, 3, none)
def m_X2_init : hm_D := (yX2_init, cX2_init, 3, none)
def m_X2_runOnce : hm_D := (yX2_runOnce, cX2_runOnce, 12, (some .boolean))
def m_X2_setWords : hm_D := (yX2_setWords, cX2_setWords, 6, none)
def m_X2_takeBack : hm_D := (yX2_takeBack, cX2_takeBack, 3, none)
def m_X3_canBits : hm_D := (yX3_canBits, cX3_canBits, 6, (some .int))
def m_X3_canHold : hm_D := (yX3_canHold, cX3_canHold, 5, (some .boolean))
def m_X3_init : hm_D := (yX3_init, cX3_init, 1, none)
def m_X3_isBarred : hm_D := (yX3_isBarred, cX3_isBarred, 5, (some .boolean))
def m_X3_lastTold : hm_D := (yX3_lastTold, cX3_lastTold, 7, (some .int))
def m_X3_lostBetween : hm_D := (yX3_lostBetween, cX3_lostBetween, 6, (some .int))
def m_X3_lostInHolds : hm_D := (yX3_lostInHolds, cX3_lostInHolds, 5, (some .int))
def m_X3_setTwo : hm_D := (yX3_setTwo, cX3_setTwo, 6, none)
def m_X3_setWords : hm_D := (yX3_setWords, cX3_setWords, 4, none)
def m_X3_tiresBy : hm_D := (yX3_tiresBy, cX3_tiresBy, 5, (some .int))
def m_X4_init : hm_D := (yX4_init, cX4_init, 2, none)
def m_X4_run : hm_D := (yX4_run, cX4_run, 11, (some .int))
def m_X4_workOut : hm_D := (yX4_workOut, cX4_workOut, 5, (some .long))
def m_X5_clausePart : hm_D := (yX5_clausePart, cX5_clausePart, 4, (some .int))
def m_X5_clear : hm_D := (yX5_clear, cX5_clear, 1, none)
def m_X5_emit : hm_D := (yX5_emit, cX5_emit, 3, none)
def m_X5_init : hm_D := (yX5_init, cX5_init, 3, none)
def m_X5_leapToHere : hm_D := (yX5_leapToHere, cX5_leapToHere, 2, none)
def m_X5_setPart : hm_D := (yX5_setPart, cX5_setPart, 4, none)
def m_X5_trimmed : hm_D := (yX5_trimmed, cX5_trimmed, 2, (some (.object "HandRing$Program")))
def m_X6_close : hm_D := (yX6_close, cX6_close, 2, (some .boolean))
def m_X6_comparisonHere : hm_D := (yX6_comparisonHere, cX6_comparisonHere, 1, (some .int))
def m_X6_goOn : hm_D := (yX6_goOn, cX6_goOn, 1, none)
def m_X6_init : hm_D := (yX6_init, cX6_init, 1, none)
def m_X6_isDigit : hm_D := (yX6_isDigit, cX6_isDigit, 1, (some .boolean))
def m_X6_isLetter : hm_D := (yX6_isLetter, cX6_isLetter, 1, (some .boolean))
def m_X6_isNumber : hm_D := (yX6_isNumber, cX6_isNumber, 3, (some .boolean))
def m_X6_isSign : hm_D := (yX6_isSign, cX6_isSign, 2, (some .boolean))
def m_X6_open : hm_D := (yX6_open, cX6_open, 1, (some .boolean))
def m_X6_passJoin : hm_D := (yX6_passJoin, cX6_passJoin, 3, (some .boolean))
def m_X6_passWord : hm_D := (yX6_passWord, cX6_passWord, 3, (some .boolean))
def m_X6_placeIn : hm_D := (yX6_placeIn, cX6_placeIn, 5, (some .int))
def m_X6_readBoth : hm_D := (yX6_readBoth, cX6_readBoth, 3, (some .boolean))
def m_X6_readClause : hm_D := (yX6_readClause, cX6_readClause, 4, (some .boolean))
def m_X6_readPart : hm_D := (yX6_readPart, cX6_readPart, 2, (some .boolean))
def m_X6_readPlain : hm_D := (yX6_readPlain, cX6_readPlain, 3, (some .boolean))
def m_X6_readSum : hm_D := (yX6_readSum, cX6_readSum, 3, (some .boolean))
def m_X6_readTerm : hm_D := (yX6_readTerm, cX6_readTerm, 3, (some .boolean))
def m_X6_readTest : hm_D := (yX6_readTest, cX6_readTest, 3, (some .boolean))
def m_X6_readText : hm_D := (yX6_readText, cX6_readText, 5, (some .int))
def m_X6_readTimes : hm_D := (yX6_readTimes, cX6_readTimes, 1, (some .boolean))
def m_X6_readWhose : hm_D := (yX6_readWhose, cX6_readWhose, 2, (some .boolean))
def m_X6_standsAt : hm_D := (yX6_standsAt, cX6_standsAt, 4, (some .boolean))
def m_X7_clear : hm_D := (yX7_clear, cX7_clear, 1, none)
def m_X7_copyFrom : hm_D := (yX7_copyFrom, cX7_copyFrom, 3, none)
def m_X7_goBack : hm_D := (yX7_goBack, cX7_goBack, 3, (some .int))
def m_X7_init : hm_D := (yX7_init, cX7_init, 1, none)
def m_X7_keepNoted : hm_D := (yX7_keepNoted, cX7_keepNoted, 2, none)
def m_X7_note : hm_D := (yX7_note, cX7_note, 3, none)
def m_X8_addLaw : hm_D := (yX8_addLaw, cX8_addLaw, 2, (some .int))
def m_X8_addPerson : hm_D := (yX8_addPerson, cX8_addPerson, 4, (some .int))
def m_X8_addSeen : hm_D := (yX8_addSeen, cX8_addSeen, 4, (some .int))
def m_X8_comesTo : hm_D := (yX8_comesTo, cX8_comesTo, 1, (some .int))
def m_X8_copyFrom : hm_D := (yX8_copyFrom, cX8_copyFrom, 3, none)
def m_X8_countHolds : hm_D := (yX8_countHolds, cX8_countHolds, 3, (some .int))
def m_X8_farBetween : hm_D := (yX8_farBetween, cX8_farBetween, 5, (some .int))
def m_X8_has : hm_D := (yX8_has, cX8_has, 2, (some .boolean))
def m_X8_hasLaw : hm_D := (yX8_hasLaw, cX8_hasLaw, 2, (some .boolean))
def m_X8_holdHands : hm_D := (yX8_holdHands, cX8_holdHands, 3, (some .boolean))
def m_X8_holdsGoRound : hm_D := (yX8_holdsGoRound, cX8_holdsGoRound, 2, (some .boolean))
def m_X8_init : hm_D := (yX8_init, cX8_init, 1, none)
def m_X8_join : hm_D := (yX8_join, cX8_join, 3, none)
def m_X8_lawInForce : hm_D := (yX8_lawInForce, cX8_lawInForce, 1, (some (.object "HandRing$Program")))
def m_X8_part : hm_D := (yX8_part, cX8_part, 3, none)
def m_X8_withinReach : hm_D := (yX8_withinReach, cX8_withinReach, 3, (some .boolean))
def m_X9_ask : hm_D := (yX9_ask, cX9_ask, 4, (some .int))
def m_X9_asks : hm_D := (yX9_asks, cX9_asks, 4, (some .int))
def m_X9_back : hm_D := (yX9_back, cX9_back, 2, (some .int))
def m_X9_canBePerson : hm_D := (yX9_canBePerson, cX9_canBePerson, 3, (some .boolean))
def m_X9_compare : hm_D := (yX9_compare, cX9_compare, 2, (some .int))
def m_X9_count : hm_D := (yX9_count, cX9_count, 2, (some .int))
def m_X9_days : hm_D := (yX9_days, cX9_days, 8, (some .int))
def m_X9_drawn : hm_D := (yX9_drawn, cX9_drawn, 3, (some .int))
def m_X9_emptiedTape : hm_D := (yX9_emptiedTape, cX9_emptiedTape, 2, (some .int))
def m_X9_end : hm_D := (yX9_end, cX9_end, 2, (some .int))
def m_X9_fault : hm_D := (yX9_fault, cX9_fault, 1, (some .int))
def m_X9_feed : hm_D := (yX9_feed, cX9_feed, 6, (some .int))
def m_X9_few : hm_D := (yX9_few, cX9_few, 9, (some .long))
def m_X9_fits : hm_D := (yX9_fits, cX9_fits, 4, (some .int))
def m_X9_force : hm_D := (yX9_force, cX9_force, 3, (some .int))
def m_X9_forget : hm_D := (yX9_forget, cX9_forget, 2, (some .int))
def m_X9_gaps : hm_D := (yX9_gaps, cX9_gaps, 1, (some .int))
def m_X9_gloves : hm_D := (yX9_gloves, cX9_gloves, 2, (some .int))
def m_X9_granted : hm_D := (yX9_granted, cX9_granted, 2, (some .int))
def m_X9_image : hm_D := (yX9_image, cX9_image, 2, (some .int))
def m_X9_init : hm_D := (yX9_init, cX9_init, 2, none)
def m_X9_kept : hm_D := (yX9_kept, cX9_kept, 3, (some .int))
def m_X9_law : hm_D := (yX9_law, cX9_law, 2, (some .int))
def m_X9_lights : hm_D := (yX9_lights, cX9_lights, 2, (some .int))
def m_X9_loose : hm_D := (yX9_loose, cX9_loose, 3, (some .int))
def m_X9_narrow : hm_D := (yX9_narrow, cX9_narrow, 2, (some .int))
def m_X9_nextDraw : hm_D := (yX9_nextDraw, cX9_nextDraw, 1, (some .int))
def m_X9_of : hm_D := (yX9_of, cX9_of, 3, (some .int))
def m_X9_orders : hm_D := (yX9_orders, cX9_orders, 6, (some .int))
def m_X9_pass : hm_D := (yX9_pass, cX9_pass, 1, (some .int))
def m_X9_person : hm_D := (yX9_person, cX9_person, 4, (some .int))
def m_X9_putNumber : hm_D := (yX9_putNumber, cX9_putNumber, 3, none)
def m_X9_refused : hm_D := (yX9_refused, cX9_refused, 3, (some .int))
def m_X9_ring : hm_D := (yX9_ring, cX9_ring, 2, (some .int))
def m_X9_rings : hm_D := (yX9_rings, cX9_rings, 1, (some .int))
def m_X9_row : hm_D := (yX9_row, cX9_row, 5, (some .int))
def m_X9_seen : hm_D := (yX9_seen, cX9_seen, 4, (some .int))
def m_X9_status : hm_D := (yX9_status, cX9_status, 1, (some .int))
def m_X9_stays : hm_D := (yX9_stays, cX9_stays, 3, (some .int))
def m_X9_stopped : hm_D := (yX9_stopped, cX9_stopped, 1, (some .int))
def m_X9_take : hm_D := (yX9_take, cX9_take, 3, (some .int))
def m_X9_terms : hm_D := (yX9_terms, cX9_terms, 4, (some .int))
def m_X9_told : hm_D := (yX9_told, cX9_told, 2, (some .int))
def m_X9_two : hm_D := (yX9_two, cX9_two, 3, (some .int))
def m_X9_undo : hm_D := (yX9_undo, cX9_undo, 1, (some .int))
def m_X9_walk : hm_D := (yX9_walk, cX9_walk, 3, (some .int))
theorem kl_0 : hm_Kl 0 (RX0, TX0, 7) := by
  have h : u_ws RX0 TX0 7 = ([358, 360, 362, 364, 366, 368, 370] : List Nat).filterMap (fun i => lw_tbl[i]?) := by decide +kernel
  have h2 : (u_ws RX0 TX0 7).all goodWord = true := by decide +kernel
  refine ⟨rfl, by decide, fun w hw => hm_tb_in ?_ (List.all_eq_true.mp h2 w hw), rfl, ⟨tyX0, tyX0_ok⟩, nmX0⟩
  rw [show u_ws (RX0, TX0, 7).1 (RX0, TX0, 7).2.1 (RX0, TX0, 7).2.2 = _ from h] at hw
  obtain ⟨i, -, hi⟩ := List.mem_filterMap.mp hw
  exact List.mem_of_getElem? hi
theorem kl_1 : hm_Kl 1 (RX1, TX1, 2) := by
  have h : u_ws RX1 TX1 2 = ([304, 306] : List Nat).filterMap (fun i => lw_tbl[i]?) := by decide +kernel
  have h2 : (u_ws RX1 TX1 2).all goodWord = true := by decide +kernel
  refine ⟨rfl, by decide, fun w hw => hm_tb_in ?_ (List.all_eq_true.mp h2 w hw), rfl, ⟨tyX1, tyX1_ok⟩, nmX1⟩
  rw [show u_ws (RX1, TX1, 2).1 (RX1, TX1, 2).2.1 (RX1, TX1, 2).2.2 = _ from h] at hw
  obtain ⟨i, -, hi⟩ := List.mem_filterMap.mp hw
  exact List.mem_of_getElem? hi
theorem kl_2 : hm_Kl 2 (RX2, TX2, 7) := by
  have h : u_ws RX2 TX2 7 = ([329, 331, 333, 335, 337, 339, 341] : List Nat).filterMap (fun i => lw_tbl[i]?) := by decide +kernel
  have h2 : (u_ws RX2 TX2 7).all goodWord = true := by decide +kernel
  refine ⟨rfl, by decide, fun w hw => hm_tb_in ?_ (List.all_eq_true.mp h2 w hw), rfl, ⟨tyX2, tyX2_ok⟩, nmX2⟩
  rw [show u_ws (RX2, TX2, 7).1 (RX2, TX2, 7).2.1 (RX2, TX2, 7).2.2 = _ from h] at hw
  obtain ⟨i, -, hi⟩ := List.mem_filterMap.mp hw
  exact List.mem_of_getElem? hi
theorem kl_3 : hm_Kl 3 (RX3, TX3, 1) := by
  have h : u_ws RX3 TX3 1 = ([293] : List Nat).filterMap (fun i => lw_tbl[i]?) := by decide +kernel
  have h2 : (u_ws RX3 TX3 1).all goodWord = true := by decide +kernel
  refine ⟨rfl, by decide, fun w hw => hm_tb_in ?_ (List.all_eq_true.mp h2 w hw), rfl, ⟨tyX3, tyX3_ok⟩, nmX3⟩
  rw [show u_ws (RX3, TX3, 1).1 (RX3, TX3, 1).2.1 (RX3, TX3, 1).2.2 = _ from h] at hw
  obtain ⟨i, -, hi⟩ := List.mem_filterMap.mp hw
  exact List.mem_of_getElem? hi
theorem kl_4 : hm_Kl 4 (RX4, TX4, 3) := by
  have h : u_ws RX4 TX4 3 = ([285, 287, 289] : List Nat).filterMap (fun i => lw_tbl[i]?) := by decide +kernel
  have h2 : (u_ws RX4 TX4 3).all goodWord = true := by decide +kernel
  refine ⟨rfl, by decide, fun w hw => hm_tb_in ?_ (List.all_eq_true.mp h2 w hw), rfl, ⟨tyX4, tyX4_ok⟩, nmX4⟩
  rw [show u_ws (RX4, TX4, 3).1 (RX4, TX4, 3).2.1 (RX4, TX4, 3).2.2 = _ from h] at hw
  obtain ⟨i, -, hi⟩ := List.mem_filterMap.mp hw
  exact List.mem_of_getElem? hi
theorem kl_5 : hm_Kl 5 (RX5, TX5, 6) := by
  have h : u_ws RX5 TX5 6 = ([401, 403, 405, 407, 409, 411] : List Nat).filterMap (fun i => lw_tbl[i]?) := by decide +kernel
  have h2 : (u_ws RX5 TX5 6).all goodWord = true := by decide +kernel
  refine ⟨rfl, by decide, fun w hw => hm_tb_in ?_ (List.all_eq_true.mp h2 w hw), rfl, ⟨tyX5, tyX5_ok⟩, nmX5⟩
  rw [show u_ws (RX5, TX5, 6).1 (RX5, TX5, 6).2.1 (RX5, TX5, 6).2.2 = _ from h] at hw
  obtain ⟨i, -, hi⟩ := List.mem_filterMap.mp hw
  exact List.mem_of_getElem? hi
theorem kl_6 : hm_Kl 6 (RX6, TX6, 10) := by
  have h : u_ws RX6 TX6 10 = ([425, 427, 429, 431, 433, 435, 437, 439, 441, 443] : List Nat).filterMap (fun i => lw_tbl[i]?) := by decide +kernel
  have h2 : (u_ws RX6 TX6 10).all goodWord = true := by decide +kernel
  refine ⟨rfl, by decide, fun w hw => hm_tb_in ?_ (List.all_eq_true.mp h2 w hw), rfl, ⟨tyX6, tyX6_ok⟩, nmX6⟩
  rw [show u_ws (RX6, TX6, 10).1 (RX6, TX6, 10).2.1 (RX6, TX6, 10).2.2 = _ from h] at hw
  obtain ⟨i, -, hi⟩ := List.mem_filterMap.mp hw
  exact List.mem_of_getElem? hi
theorem kl_7 : hm_Kl 7 (RX7, TX7, 3) := by
  have h : u_ws RX7 TX7 3 = ([255, 257, 259] : List Nat).filterMap (fun i => lw_tbl[i]?) := by decide +kernel
  have h2 : (u_ws RX7 TX7 3).all goodWord = true := by decide +kernel
  refine ⟨rfl, by decide, fun w hw => hm_tb_in ?_ (List.all_eq_true.mp h2 w hw), rfl, ⟨tyX7, tyX7_ok⟩, nmX7⟩
  rw [show u_ws (RX7, TX7, 3).1 (RX7, TX7, 3).2.1 (RX7, TX7, 3).2.2 = _ from h] at hw
  obtain ⟨i, -, hi⟩ := List.mem_filterMap.mp hw
  exact List.mem_of_getElem? hi
theorem kl_8 : hm_Kl 8 (RX8, TX8, 13) := by
  have h : u_ws RX8 TX8 13 = ([214, 216, 218, 220, 222, 224, 226, 228, 230, 232, 234, 236, 238] : List Nat).filterMap (fun i => lw_tbl[i]?) := by decide +kernel
  have h2 : (u_ws RX8 TX8 13).all goodWord = true := by decide +kernel
  refine ⟨rfl, by decide, fun w hw => hm_tb_in ?_ (List.all_eq_true.mp h2 w hw), rfl, ⟨tyX8, tyX8_ok⟩, nmX8⟩
  rw [show u_ws (RX8, TX8, 13).1 (RX8, TX8, 13).2.1 (RX8, TX8, 13).2.2 = _ from h] at hw
  obtain ⟨i, -, hi⟩ := List.mem_filterMap.mp hw
  exact List.mem_of_getElem? hi
theorem kl_9 : hm_Kl 9 (RX9, TX9, 19) := by
  have h : u_ws RX9 TX9 19 = ([466, 468, 470, 472, 474, 476, 478, 480, 482, 484, 486, 488, 490, 492, 494, 496, 498, 500, 502] : List Nat).filterMap (fun i => lw_tbl[i]?) := by decide +kernel
  have h2 : (u_ws RX9 TX9 19).all goodWord = true := by decide +kernel
  refine ⟨rfl, by decide, fun w hw => hm_tb_in ?_ (List.all_eq_true.mp h2 w hw), rfl, ⟨tyX9, tyX9_ok⟩, nmX9⟩
  rw [show u_ws (RX9, TX9, 19).1 (RX9, TX9, 19).2.1 (RX9, TX9, 19).2.2 = _ from h] at hw
  obtain ⟨i, -, hi⟩ := List.mem_filterMap.mp hw
  exact List.mem_of_getElem? hi
theorem kl_10 : hm_Kl 10 (RX10, TX10, 56) := by
  have h : u_ws RX10 TX10 56 = ([1287, 1289, 1291, 1293, 1295, 1297, 1299, 1301, 1303, 1305, 1307, 1309, 1311, 1313, 1315, 1317, 1319, 1321, 1323, 1325, 1327, 1329, 1331, 1333, 1335, 1337, 1339, 1341, 1343, 1345, 1347, 1349, 1351, 1353, 1355, 1357, 1359, 1361, 1363, 1365, 1367, 1369, 1371, 1373, 1375, 1377, 1379, 1381, 1383, 1385, 1387, 1389, 1391, 1393, 1395, 1397] : List Nat).filterMap (fun i => lw_tbl[i]?) := by decide +kernel
  have h2 : (u_ws RX10 TX10 56).all goodWord = true := by decide +kernel
  refine ⟨rfl, by decide, fun w hw => hm_tb_in ?_ (List.all_eq_true.mp h2 w hw), rfl, ⟨tyX10, tyX10_ok⟩, nmX10⟩
  rw [show u_ws (RX10, TX10, 56).1 (RX10, TX10, 56).2.1 (RX10, TX10, 56).2.2 = _ from h] at hw
  obtain ⟨i, -, hi⟩ := List.mem_filterMap.mp hw
  exact List.mem_of_getElem? hi
theorem fl_HandRing_12 : hm_Fl RX9 12 9 0 true (.object "HandRing$Village") true := ⟨_, kl_9, by decide, hm_tb_in (tb_2 (List.mem_of_getElem? (i := 79) rfl)) rfl, rfl, by decide +kernel, rfl⟩
theorem fl_HandRing_16 : hm_Fl RX9 16 9 1 true (.array (.object "HandRing$Village")) true := ⟨_, kl_9, by decide, hm_tb_in (tb_2 (List.mem_of_getElem? (i := 80) rfl)) rfl, rfl, by decide +kernel, rfl⟩
theorem fl_HandRing_20 : hm_Fl RX9 20 9 2 true (.array .boolean) true := ⟨_, kl_9, by decide, hm_tb_in (tb_2 (List.mem_of_getElem? (i := 81) rfl)) rfl, rfl, by decide +kernel, rfl⟩
theorem fl_HandRing_24 : hm_Fl RX9 24 9 3 true (.object "HandRing$Village") true := ⟨_, kl_9, by decide, hm_tb_in (tb_2 (List.mem_of_getElem? (i := 82) rfl)) rfl, rfl, by decide +kernel, rfl⟩
theorem fl_HandRing_30 : hm_Fl RX9 30 9 5 true (.object "HandRing$Steps") true := ⟨_, kl_9, by decide, hm_tb_in (tb_2 (List.mem_of_getElem? (i := 84) rfl)) rfl, rfl, by decide +kernel, rfl⟩
theorem fl_HandRing_37 : hm_Fl RX9 37 9 6 true (.object "HandRing$Judge") true := ⟨_, kl_9, by decide, hm_tb_in (tb_2 (List.mem_of_getElem? (i := 85) rfl)) rfl, rfl, by decide +kernel, rfl⟩
theorem fl_HandRing_46 : hm_Fl RX9 46 9 7 true (.object "HandRing$Deeds") true := ⟨_, kl_9, by decide, hm_tb_in (tb_2 (List.mem_of_getElem? (i := 86) rfl)) rfl, rfl, by decide +kernel, rfl⟩
theorem fl_HandRing_55 : hm_Fl RX9 55 9 8 true (.object "HandRing$Errand") true := ⟨_, kl_9, by decide, hm_tb_in (tb_2 (List.mem_of_getElem? (i := 87) rfl)) rfl, rfl, by decide +kernel, rfl⟩
theorem fl_HandRing_62 : hm_Fl RX9 62 9 9 true (.object "HandRing$Circle") true := ⟨_, kl_9, by decide, hm_tb_in (tb_2 (List.mem_of_getElem? (i := 88) rfl)) rfl, rfl, by decide +kernel, rfl⟩
theorem fl_HandRing_69 : hm_Fl RX9 69 9 10 true (.object "HandRing$Reader") true := ⟨_, kl_9, by decide, hm_tb_in (tb_2 (List.mem_of_getElem? (i := 89) rfl)) rfl, rfl, by decide +kernel, rfl⟩
theorem fl_HandRing_73 : hm_Fl RX9 73 9 11 true (.array .char) true := ⟨_, kl_9, by decide, hm_tb_in (tb_2 (List.mem_of_getElem? (i := 90) rfl)) rfl, rfl, by decide +kernel, rfl⟩
theorem fl_HandRing_77 : hm_Fl RX9 77 9 13 false .int false := ⟨_, kl_9, by decide, hm_tb_in (tb_2 (List.mem_of_getElem? (i := 92) rfl)) rfl, rfl, by decide +kernel, rfl⟩
theorem fl_HandRing_81 : hm_Fl RX9 81 9 14 false .int false := ⟨_, kl_9, by decide, hm_tb_in (tb_2 (List.mem_of_getElem? (i := 93) rfl)) rfl, rfl, by decide +kernel, rfl⟩
theorem fl_HandRing_84 : hm_Fl RX9 84 9 17 true (.array .int) true := ⟨_, kl_9, by decide, hm_tb_in (tb_2 (List.mem_of_getElem? (i := 96) rfl)) rfl, rfl, by decide +kernel, rfl⟩
theorem fl_HandRing_88 : hm_Fl RX9 88 9 18 true (.array .long) true := ⟨_, kl_9, by decide, hm_tb_in (tb_2 (List.mem_of_getElem? (i := 97) rfl)) rfl, rfl, by decide +kernel, rfl⟩
theorem fl_HandRing_100 : hm_Fl RX9 100 8 0 false .int false := ⟨_, kl_8, by decide, hm_tb_in (tb_1 (List.mem_of_getElem? (i := 43) rfl)) rfl, rfl, by decide +kernel, rfl⟩
theorem fl_HandRing_117 : hm_Fl RX9 117 8 1 true (.array .int) true := ⟨_, kl_8, by decide, hm_tb_in (tb_1 (List.mem_of_getElem? (i := 48) rfl)) rfl, rfl, by decide +kernel, rfl⟩
theorem fl_HandRing_120 : hm_Fl RX9 120 8 2 true (.array .int) true := ⟨_, kl_8, by decide, hm_tb_in (tb_1 (List.mem_of_getElem? (i := 53) rfl)) rfl, rfl, by decide +kernel, rfl⟩
theorem fl_HandRing_123 : hm_Fl RX9 123 8 3 true (.array .int) true := ⟨_, kl_8, by decide, hm_tb_in (tb_1 (List.mem_of_getElem? (i := 58) rfl)) rfl, rfl, by decide +kernel, rfl⟩
theorem fl_HandRing_126 : hm_Fl RX9 126 8 4 true (.array .int) true := ⟨_, kl_8, by decide, hm_tb_in (tb_1 (List.mem_of_getElem? (i := 61) rfl)) rfl, rfl, by decide +kernel, rfl⟩
theorem fs_HandRing_152 : Cond.fieldLink RX9 152 "HandRing" "TERM_MOST" "[I" ∈ hm_tb := hm_tb_in (tb_3 (List.mem_of_getElem? (i := 9) rfl)) rfl
theorem fl_HandRing_155 : hm_Fl RX9 155 8 5 true (.array .int) true := ⟨_, kl_8, by decide, hm_tb_in (tb_1 (List.mem_of_getElem? (i := 68) rfl)) rfl, rfl, by decide +kernel, rfl⟩
theorem fl_HandRing_158 : hm_Fl RX9 158 9 12 false .int false := ⟨_, kl_9, by decide, hm_tb_in (tb_2 (List.mem_of_getElem? (i := 91) rfl)) rfl, rfl, by decide +kernel, rfl⟩
theorem fl_HandRing_169 : hm_Fl RX9 169 9 15 false .int false := ⟨_, kl_9, by decide, hm_tb_in (tb_2 (List.mem_of_getElem? (i := 94) rfl)) rfl, rfl, by decide +kernel, rfl⟩
theorem fl_HandRing_172 : hm_Fl RX9 172 8 7 false .int false := ⟨_, kl_8, by decide, hm_tb_in (tb_1 (List.mem_of_getElem? (i := 74) rfl)) rfl, rfl, by decide +kernel, rfl⟩
theorem fl_HandRing_179 : hm_Fl RX9 179 6 0 true (.object "HandRing$Program") true := ⟨_, kl_6, by decide, hm_tb_in (tb_2 (List.mem_of_getElem? (i := 47) rfl)) rfl, rfl, by decide +kernel, rfl⟩
theorem fl_HandRing_196 : hm_Fl RX9 196 5 4 false .int false := ⟨_, kl_5, by decide, hm_tb_in (tb_2 (List.mem_of_getElem? (i := 29) rfl)) rfl, rfl, by decide +kernel, rfl⟩
theorem fl_HandRing_209 : hm_Fl RX9 209 2 6 false .int false := ⟨_, kl_2, by decide, hm_tb_in (tb_1 (List.mem_of_getElem? (i := 200) rfl)) rfl, rfl, by decide +kernel, rfl⟩
theorem fl_HandRing_215 : hm_Fl RX9 215 8 8 false .int false := ⟨_, kl_8, by decide, hm_tb_in (tb_1 (List.mem_of_getElem? (i := 76) rfl)) rfl, rfl, by decide +kernel, rfl⟩
theorem fl_HandRing_274 : hm_Fl RX9 274 0 4 true (.array .int) true := ⟨_, kl_0, by decide, hm_tb_in (tb_1 (List.mem_of_getElem? (i := 227) rfl)) rfl, rfl, by decide +kernel, rfl⟩
theorem fl_HandRing_281 : hm_Fl RX9 281 8 12 false .int false := ⟨_, kl_8, by decide, hm_tb_in (tb_1 (List.mem_of_getElem? (i := 85) rfl)) rfl, rfl, by decide +kernel, rfl⟩
theorem fl_HandRing_315 : hm_Fl RX9 315 8 6 true (.array (.object "HandRing$Program")) true := ⟨_, kl_8, by decide, hm_tb_in (tb_1 (List.mem_of_getElem? (i := 72) rfl)) rfl, rfl, by decide +kernel, rfl⟩
theorem fl_HandRing_324 : hm_Fl RX9 324 9 4 false .boolean false := ⟨_, kl_9, by decide, hm_tb_in (tb_2 (List.mem_of_getElem? (i := 83) rfl)) rfl, rfl, by decide +kernel, rfl⟩
theorem fl_HandRing_338 : hm_Fl RX9 338 7 2 false .int false := ⟨_, kl_7, by decide, hm_tb_in (tb_1 (List.mem_of_getElem? (i := 126) rfl)) rfl, rfl, by decide +kernel, rfl⟩
theorem fl_HandRing_339 : hm_Fl RX9 339 9 16 false .int false := ⟨_, kl_9, by decide, hm_tb_in (tb_2 (List.mem_of_getElem? (i := 95) rfl)) rfl, rfl, by decide +kernel, rfl⟩
theorem fl_HandRing_Circle_9 : hm_Fl RX0 9 0 1 true (.array .int) true := ⟨_, kl_0, by decide, hm_tb_in (tb_1 (List.mem_of_getElem? (i := 223) rfl)) rfl, rfl, by decide +kernel, rfl⟩
theorem fl_HandRing_Circle_15 : hm_Fl RX0 15 0 2 true (.array .int) true := ⟨_, kl_0, by decide, hm_tb_in (tb_1 (List.mem_of_getElem? (i := 224) rfl)) rfl, rfl, by decide +kernel, rfl⟩
theorem fl_HandRing_Circle_18 : hm_Fl RX0 18 0 3 true (.array .int) true := ⟨_, kl_0, by decide, hm_tb_in (tb_1 (List.mem_of_getElem? (i := 225) rfl)) rfl, rfl, by decide +kernel, rfl⟩
theorem fl_HandRing_Circle_21 : hm_Fl RX0 21 0 4 true (.array .int) true := ⟨_, kl_0, by decide, hm_tb_in (tb_1 (List.mem_of_getElem? (i := 226) rfl)) rfl, rfl, by decide +kernel, rfl⟩
theorem fl_HandRing_Circle_24 : hm_Fl RX0 24 0 0 true (.object "HandRing$Judge") true := ⟨_, kl_0, by decide, hm_tb_in (tb_1 (List.mem_of_getElem? (i := 222) rfl)) rfl, rfl, by decide +kernel, rfl⟩
theorem fl_HandRing_Circle_28 : hm_Fl RX0 28 0 5 false .int false := ⟨_, kl_0, by decide, hm_tb_in (tb_1 (List.mem_of_getElem? (i := 228) rfl)) rfl, rfl, by decide +kernel, rfl⟩
theorem fl_HandRing_Circle_32 : hm_Fl RX0 32 8 0 false .int false := ⟨_, kl_8, by decide, hm_tb_in (tb_1 (List.mem_of_getElem? (i := 44) rfl)) rfl, rfl, by decide +kernel, rfl⟩
theorem fl_HandRing_Circle_61 : hm_Fl RX0 61 8 12 false .int false := ⟨_, kl_8, by decide, hm_tb_in (tb_1 (List.mem_of_getElem? (i := 84) rfl)) rfl, rfl, by decide +kernel, rfl⟩
theorem fl_HandRing_Circle_64 : hm_Fl RX0 64 8 9 true (.array .int) true := ⟨_, kl_8, by decide, hm_tb_in (tb_1 (List.mem_of_getElem? (i := 78) rfl)) rfl, rfl, by decide +kernel, rfl⟩
theorem fl_HandRing_Circle_67 : hm_Fl RX0 67 8 10 true (.array .int) true := ⟨_, kl_8, by decide, hm_tb_in (tb_1 (List.mem_of_getElem? (i := 80) rfl)) rfl, rfl, by decide +kernel, rfl⟩
theorem fl_HandRing_Circle_70 : hm_Fl RX0 70 8 11 true (.array .int) true := ⟨_, kl_8, by decide, hm_tb_in (tb_1 (List.mem_of_getElem? (i := 82) rfl)) rfl, rfl, by decide +kernel, rfl⟩
theorem fl_HandRing_Circle_88 : hm_Fl RX0 88 0 6 false .boolean false := ⟨_, kl_0, by decide, hm_tb_in (tb_1 (List.mem_of_getElem? (i := 229) rfl)) rfl, rfl, by decide +kernel, rfl⟩
theorem fl_HandRing_Deeds_9 : hm_Fl RX1 9 1 1 true (.array .int) true := ⟨_, kl_1, by decide, hm_tb_in (tb_1 (List.mem_of_getElem? (i := 175) rfl)) rfl, rfl, by decide +kernel, rfl⟩
theorem fl_HandRing_Deeds_15 : hm_Fl RX1 15 1 0 true (.object "HandRing$Judge") true := ⟨_, kl_1, by decide, hm_tb_in (tb_1 (List.mem_of_getElem? (i := 174) rfl)) rfl, rfl, by decide +kernel, rfl⟩
theorem fl_HandRing_Deeds_56 : hm_Fl RX1 56 8 4 true (.array .int) true := ⟨_, kl_8, by decide, hm_tb_in (tb_1 (List.mem_of_getElem? (i := 62) rfl)) rfl, rfl, by decide +kernel, rfl⟩
theorem fl_HandRing_Deeds_94 : hm_Fl RX1 94 8 1 true (.array .int) true := ⟨_, kl_8, by decide, hm_tb_in (tb_1 (List.mem_of_getElem? (i := 51) rfl)) rfl, rfl, by decide +kernel, rfl⟩
theorem fs_HandRing_Deeds_97 : Cond.fieldLink RX1 97 "HandRing$Deeds" "WAY_ACROSS" "[I" ∈ hm_tb := hm_tb_in (tb_4 (List.mem_of_getElem? (i := 57) rfl)) rfl
theorem fs_HandRing_Deeds_100 : Cond.fieldLink RX1 100 "HandRing$Deeds" "WAY_ALONG" "[I" ∈ hm_tb := hm_tb_in (tb_4 (List.mem_of_getElem? (i := 59) rfl)) rfl
theorem fl_HandRing_Deeds_103 : hm_Fl RX1 103 8 5 true (.array .int) true := ⟨_, kl_8, by decide, hm_tb_in (tb_1 (List.mem_of_getElem? (i := 69) rfl)) rfl, rfl, by decide +kernel, rfl⟩
theorem fl_HandRing_Deeds_109 : hm_Fl RX1 109 8 0 false .int false := ⟨_, kl_8, by decide, hm_tb_in (tb_1 (List.mem_of_getElem? (i := 46) rfl)) rfl, rfl, by decide +kernel, rfl⟩
theorem fl_HandRing_Deeds_117 : hm_Fl RX1 117 8 2 true (.array .int) true := ⟨_, kl_8, by decide, hm_tb_in (tb_1 (List.mem_of_getElem? (i := 56) rfl)) rfl, rfl, by decide +kernel, rfl⟩
theorem fl_HandRing_Errand_16 : hm_Fl RX2 16 2 2 true (.object "HandRing$Machine") true := ⟨_, kl_2, by decide, hm_tb_in (tb_1 (List.mem_of_getElem? (i := 195) rfl)) rfl, rfl, by decide +kernel, rfl⟩
theorem fl_HandRing_Errand_23 : hm_Fl RX2 23 2 3 true (.object "HandRing$Village") true := ⟨_, kl_2, by decide, hm_tb_in (tb_1 (List.mem_of_getElem? (i := 196) rfl)) rfl, rfl, by decide +kernel, rfl⟩
theorem fl_HandRing_Errand_30 : hm_Fl RX2 30 2 4 true (.object "HandRing$Steps") true := ⟨_, kl_2, by decide, hm_tb_in (tb_1 (List.mem_of_getElem? (i := 197) rfl)) rfl, rfl, by decide +kernel, rfl⟩
theorem fl_HandRing_Errand_34 : hm_Fl RX2 34 2 0 true (.object "HandRing$Judge") true := ⟨_, kl_2, by decide, hm_tb_in (tb_1 (List.mem_of_getElem? (i := 193) rfl)) rfl, rfl, by decide +kernel, rfl⟩
theorem fl_HandRing_Errand_38 : hm_Fl RX2 38 2 1 true (.object "HandRing$Deeds") true := ⟨_, kl_2, by decide, hm_tb_in (tb_1 (List.mem_of_getElem? (i := 194) rfl)) rfl, rfl, by decide +kernel, rfl⟩
theorem fl_HandRing_Errand_49 : hm_Fl RX2 49 2 6 false .int false := ⟨_, kl_2, by decide, hm_tb_in (tb_1 (List.mem_of_getElem? (i := 199) rfl)) rfl, rfl, by decide +kernel, rfl⟩
theorem fl_HandRing_Errand_53 : hm_Fl RX2 53 2 5 false .int false := ⟨_, kl_2, by decide, hm_tb_in (tb_1 (List.mem_of_getElem? (i := 198) rfl)) rfl, rfl, by decide +kernel, rfl⟩
theorem fl_HandRing_Errand_62 : hm_Fl RX2 62 5 5 false .boolean false := ⟨_, kl_5, by decide, hm_tb_in (tb_2 (List.mem_of_getElem? (i := 31) rfl)) rfl, rfl, by decide +kernel, rfl⟩
theorem fl_HandRing_Errand_74 : hm_Fl RX2 74 4 2 false .boolean false := ⟨_, kl_4, by decide, hm_tb_in (tb_1 (List.mem_of_getElem? (i := 155) rfl)) rfl, rfl, by decide +kernel, rfl⟩
theorem fl_HandRing_Errand_89 : hm_Fl RX2 89 4 0 true (.array .int) true := ⟨_, kl_4, by decide, hm_tb_in (tb_1 (List.mem_of_getElem? (i := 151) rfl)) rfl, rfl, by decide +kernel, rfl⟩
theorem fl_HandRing_Errand_93 : hm_Fl RX2 93 8 5 true (.array .int) true := ⟨_, kl_8, by decide, hm_tb_in (tb_1 (List.mem_of_getElem? (i := 67) rfl)) rfl, rfl, by decide +kernel, rfl⟩
theorem fl_HandRing_Errand_110 : hm_Fl RX2 110 8 1 true (.array .int) true := ⟨_, kl_8, by decide, hm_tb_in (tb_1 (List.mem_of_getElem? (i := 50) rfl)) rfl, rfl, by decide +kernel, rfl⟩
theorem fl_HandRing_Errand_113 : hm_Fl RX2 113 8 4 true (.array .int) true := ⟨_, kl_8, by decide, hm_tb_in (tb_1 (List.mem_of_getElem? (i := 64) rfl)) rfl, rfl, by decide +kernel, rfl⟩
theorem fl_HandRing_Judge_16 : hm_Fl RX3 16 3 0 true (.object "HandRing$Machine") true := ⟨_, kl_3, by decide, hm_tb_in (tb_1 (List.mem_of_getElem? (i := 164) rfl)) rfl, rfl, by decide +kernel, rfl⟩
theorem fl_HandRing_Judge_47 : hm_Fl RX3 47 8 0 false .int false := ⟨_, kl_8, by decide, hm_tb_in (tb_1 (List.mem_of_getElem? (i := 45) rfl)) rfl, rfl, by decide +kernel, rfl⟩
theorem fl_HandRing_Judge_55 : hm_Fl RX3 55 8 2 true (.array .int) true := ⟨_, kl_8, by decide, hm_tb_in (tb_1 (List.mem_of_getElem? (i := 55) rfl)) rfl, rfl, by decide +kernel, rfl⟩
theorem fl_HandRing_Judge_62 : hm_Fl RX3 62 4 0 true (.array .int) true := ⟨_, kl_4, by decide, hm_tb_in (tb_1 (List.mem_of_getElem? (i := 152) rfl)) rfl, rfl, by decide +kernel, rfl⟩
theorem fl_HandRing_Judge_76 : hm_Fl RX3 76 8 3 true (.array .int) true := ⟨_, kl_8, by decide, hm_tb_in (tb_1 (List.mem_of_getElem? (i := 59) rfl)) rfl, rfl, by decide +kernel, rfl⟩
theorem fl_HandRing_Judge_79 : hm_Fl RX3 79 8 5 true (.array .int) true := ⟨_, kl_8, by decide, hm_tb_in (tb_1 (List.mem_of_getElem? (i := 70) rfl)) rfl, rfl, by decide +kernel, rfl⟩
theorem fl_HandRing_Judge_82 : hm_Fl RX3 82 5 4 false .int false := ⟨_, kl_5, by decide, hm_tb_in (tb_2 (List.mem_of_getElem? (i := 28) rfl)) rfl, rfl, by decide +kernel, rfl⟩
theorem fl_HandRing_Judge_94 : hm_Fl RX3 94 4 2 false .boolean false := ⟨_, kl_4, by decide, hm_tb_in (tb_1 (List.mem_of_getElem? (i := 156) rfl)) rfl, rfl, by decide +kernel, rfl⟩
theorem fl_HandRing_Machine_11 : hm_Fl RX4 11 4 1 true (.array .int) true := ⟨_, kl_4, by decide, hm_tb_in (tb_1 (List.mem_of_getElem? (i := 153) rfl)) rfl, rfl, by decide +kernel, rfl⟩
theorem fl_HandRing_Machine_21 : hm_Fl RX4 21 4 0 true (.array .int) true := ⟨_, kl_4, by decide, hm_tb_in (tb_1 (List.mem_of_getElem? (i := 150) rfl)) rfl, rfl, by decide +kernel, rfl⟩
theorem fl_HandRing_Machine_24 : hm_Fl RX4 24 5 3 false .int false := ⟨_, kl_5, by decide, hm_tb_in (tb_2 (List.mem_of_getElem? (i := 24) rfl)) rfl, rfl, by decide +kernel, rfl⟩
theorem fl_HandRing_Machine_30 : hm_Fl RX4 30 4 2 false .boolean false := ⟨_, kl_4, by decide, hm_tb_in (tb_1 (List.mem_of_getElem? (i := 154) rfl)) rfl, rfl, by decide +kernel, rfl⟩
theorem fl_HandRing_Machine_34 : hm_Fl RX4 34 5 0 true (.array .int) true := ⟨_, kl_5, by decide, hm_tb_in (tb_2 (List.mem_of_getElem? (i := 19) rfl)) rfl, rfl, by decide +kernel, rfl⟩
theorem fl_HandRing_Machine_37 : hm_Fl RX4 37 5 1 true (.array .int) true := ⟨_, kl_5, by decide, hm_tb_in (tb_2 (List.mem_of_getElem? (i := 21) rfl)) rfl, rfl, by decide +kernel, rfl⟩
theorem fl_HandRing_Program_13 : hm_Fl RX5 13 5 0 true (.array .int) true := ⟨_, kl_5, by decide, hm_tb_in (tb_2 (List.mem_of_getElem? (i := 18) rfl)) rfl, rfl, by decide +kernel, rfl⟩
theorem fl_HandRing_Program_19 : hm_Fl RX5 19 5 1 true (.array .int) true := ⟨_, kl_5, by decide, hm_tb_in (tb_2 (List.mem_of_getElem? (i := 20) rfl)) rfl, rfl, by decide +kernel, rfl⟩
theorem fl_HandRing_Program_22 : hm_Fl RX5 22 5 2 true (.array .int) true := ⟨_, kl_5, by decide, hm_tb_in (tb_2 (List.mem_of_getElem? (i := 22) rfl)) rfl, rfl, by decide +kernel, rfl⟩
theorem fl_HandRing_Program_25 : hm_Fl RX5 25 5 3 false .int false := ⟨_, kl_5, by decide, hm_tb_in (tb_2 (List.mem_of_getElem? (i := 23) rfl)) rfl, rfl, by decide +kernel, rfl⟩
theorem fl_HandRing_Program_29 : hm_Fl RX5 29 5 4 false .int false := ⟨_, kl_5, by decide, hm_tb_in (tb_2 (List.mem_of_getElem? (i := 26) rfl)) rfl, rfl, by decide +kernel, rfl⟩
theorem fl_HandRing_Program_32 : hm_Fl RX5 32 5 5 false .boolean false := ⟨_, kl_5, by decide, hm_tb_in (tb_2 (List.mem_of_getElem? (i := 30) rfl)) rfl, rfl, by decide +kernel, rfl⟩
theorem fl_HandRing_Reader_14 : hm_Fl RX6 14 6 0 true (.object "HandRing$Program") true := ⟨_, kl_6, by decide, hm_tb_in (tb_2 (List.mem_of_getElem? (i := 46) rfl)) rfl, rfl, by decide +kernel, rfl⟩
theorem fl_HandRing_Reader_20 : hm_Fl RX6 20 6 1 true (.array .char) false := ⟨_, kl_6, by decide, hm_tb_in (tb_2 (List.mem_of_getElem? (i := 48) rfl)) rfl, rfl, by decide +kernel, rfl⟩
theorem fl_HandRing_Reader_30 : hm_Fl RX6 30 6 2 false .int false := ⟨_, kl_6, by decide, hm_tb_in (tb_2 (List.mem_of_getElem? (i := 49) rfl)) rfl, rfl, by decide +kernel, rfl⟩
theorem fl_HandRing_Reader_34 : hm_Fl RX6 34 6 3 false .boolean false := ⟨_, kl_6, by decide, hm_tb_in (tb_2 (List.mem_of_getElem? (i := 50) rfl)) rfl, rfl, by decide +kernel, rfl⟩
theorem fl_HandRing_Reader_38 : hm_Fl RX6 38 6 6 false .int false := ⟨_, kl_6, by decide, hm_tb_in (tb_2 (List.mem_of_getElem? (i := 53) rfl)) rfl, rfl, by decide +kernel, rfl⟩
theorem fl_HandRing_Reader_41 : hm_Fl RX6 41 6 8 false .int false := ⟨_, kl_6, by decide, hm_tb_in (tb_2 (List.mem_of_getElem? (i := 55) rfl)) rfl, rfl, by decide +kernel, rfl⟩
theorem fl_HandRing_Reader_44 : hm_Fl RX6 44 6 9 false .int false := ⟨_, kl_6, by decide, hm_tb_in (tb_2 (List.mem_of_getElem? (i := 56) rfl)) rfl, rfl, by decide +kernel, rfl⟩
theorem fl_HandRing_Reader_57 : hm_Fl RX6 57 6 5 false .int false := ⟨_, kl_6, by decide, hm_tb_in (tb_2 (List.mem_of_getElem? (i := 52) rfl)) rfl, rfl, by decide +kernel, rfl⟩
theorem fl_HandRing_Reader_60 : hm_Fl RX6 60 6 4 false .int false := ⟨_, kl_6, by decide, hm_tb_in (tb_2 (List.mem_of_getElem? (i := 51) rfl)) rfl, rfl, by decide +kernel, rfl⟩
theorem fl_HandRing_Reader_80 : hm_Fl RX6 80 5 3 false .int false := ⟨_, kl_5, by decide, hm_tb_in (tb_2 (List.mem_of_getElem? (i := 25) rfl)) rfl, rfl, by decide +kernel, rfl⟩
theorem fl_HandRing_Reader_102 : hm_Fl RX6 102 5 4 false .int false := ⟨_, kl_5, by decide, hm_tb_in (tb_2 (List.mem_of_getElem? (i := 27) rfl)) rfl, rfl, by decide +kernel, rfl⟩
theorem fl_HandRing_Reader_111 : hm_Fl RX6 111 6 7 false .int false := ⟨_, kl_6, by decide, hm_tb_in (tb_2 (List.mem_of_getElem? (i := 54) rfl)) rfl, rfl, by decide +kernel, rfl⟩
theorem fl_HandRing_Reader_158 : hm_Fl RX6 158 5 5 false .boolean false := ⟨_, kl_5, by decide, hm_tb_in (tb_2 (List.mem_of_getElem? (i := 32) rfl)) rfl, rfl, by decide +kernel, rfl⟩
theorem fl_HandRing_Steps_13 : hm_Fl RX7 13 7 0 true (.array (.array .int)) true := ⟨_, kl_7, by decide, hm_tb_in (tb_1 (List.mem_of_getElem? (i := 123) rfl)) rfl, rfl, by decide +kernel, rfl⟩
theorem fl_HandRing_Steps_16 : hm_Fl RX7 16 7 2 false .int false := ⟨_, kl_7, by decide, hm_tb_in (tb_1 (List.mem_of_getElem? (i := 125) rfl)) rfl, rfl, by decide +kernel, rfl⟩
theorem fl_HandRing_Steps_26 : hm_Fl RX7 26 7 1 false .int false := ⟨_, kl_7, by decide, hm_tb_in (tb_1 (List.mem_of_getElem? (i := 124) rfl)) rfl, rfl, by decide +kernel, rfl⟩
theorem fl_HandRing_Steps_29 : hm_Fl RX7 29 8 5 true (.array .int) true := ⟨_, kl_8, by decide, hm_tb_in (tb_1 (List.mem_of_getElem? (i := 66) rfl)) rfl, rfl, by decide +kernel, rfl⟩
theorem fl_HandRing_Steps_35 : hm_Fl RX7 35 8 1 true (.array .int) true := ⟨_, kl_8, by decide, hm_tb_in (tb_1 (List.mem_of_getElem? (i := 49) rfl)) rfl, rfl, by decide +kernel, rfl⟩
theorem fl_HandRing_Steps_38 : hm_Fl RX7 38 8 2 true (.array .int) true := ⟨_, kl_8, by decide, hm_tb_in (tb_1 (List.mem_of_getElem? (i := 54) rfl)) rfl, rfl, by decide +kernel, rfl⟩
theorem fl_HandRing_Steps_41 : hm_Fl RX7 41 8 4 true (.array .int) true := ⟨_, kl_8, by decide, hm_tb_in (tb_1 (List.mem_of_getElem? (i := 63) rfl)) rfl, rfl, by decide +kernel, rfl⟩
theorem fl_HandRing_Village_9 : hm_Fl RX8 9 8 1 true (.array .int) true := ⟨_, kl_8, by decide, hm_tb_in (tb_1 (List.mem_of_getElem? (i := 47) rfl)) rfl, rfl, by decide +kernel, rfl⟩
theorem fl_HandRing_Village_15 : hm_Fl RX8 15 8 2 true (.array .int) true := ⟨_, kl_8, by decide, hm_tb_in (tb_1 (List.mem_of_getElem? (i := 52) rfl)) rfl, rfl, by decide +kernel, rfl⟩
theorem fl_HandRing_Village_18 : hm_Fl RX8 18 8 3 true (.array .int) true := ⟨_, kl_8, by decide, hm_tb_in (tb_1 (List.mem_of_getElem? (i := 57) rfl)) rfl, rfl, by decide +kernel, rfl⟩
theorem fl_HandRing_Village_21 : hm_Fl RX8 21 8 4 true (.array .int) true := ⟨_, kl_8, by decide, hm_tb_in (tb_1 (List.mem_of_getElem? (i := 60) rfl)) rfl, rfl, by decide +kernel, rfl⟩
theorem fl_HandRing_Village_24 : hm_Fl RX8 24 8 5 true (.array .int) true := ⟨_, kl_8, by decide, hm_tb_in (tb_1 (List.mem_of_getElem? (i := 65) rfl)) rfl, rfl, by decide +kernel, rfl⟩
theorem fl_HandRing_Village_29 : hm_Fl RX8 29 8 6 true (.array (.object "HandRing$Program")) true := ⟨_, kl_8, by decide, hm_tb_in (tb_1 (List.mem_of_getElem? (i := 71) rfl)) rfl, rfl, by decide +kernel, rfl⟩
theorem fl_HandRing_Village_33 : hm_Fl RX8 33 8 8 false .int false := ⟨_, kl_8, by decide, hm_tb_in (tb_1 (List.mem_of_getElem? (i := 75) rfl)) rfl, rfl, by decide +kernel, rfl⟩
theorem fl_HandRing_Village_37 : hm_Fl RX8 37 8 9 true (.array .int) true := ⟨_, kl_8, by decide, hm_tb_in (tb_1 (List.mem_of_getElem? (i := 77) rfl)) rfl, rfl, by decide +kernel, rfl⟩
theorem fl_HandRing_Village_40 : hm_Fl RX8 40 8 10 true (.array .int) true := ⟨_, kl_8, by decide, hm_tb_in (tb_1 (List.mem_of_getElem? (i := 79) rfl)) rfl, rfl, by decide +kernel, rfl⟩
theorem fl_HandRing_Village_43 : hm_Fl RX8 43 8 11 true (.array .int) true := ⟨_, kl_8, by decide, hm_tb_in (tb_1 (List.mem_of_getElem? (i := 81) rfl)) rfl, rfl, by decide +kernel, rfl⟩
theorem fl_HandRing_Village_55 : hm_Fl RX8 55 8 0 false .int false := ⟨_, kl_8, by decide, hm_tb_in (tb_1 (List.mem_of_getElem? (i := 42) rfl)) rfl, rfl, by decide +kernel, rfl⟩
theorem fl_HandRing_Village_58 : hm_Fl RX8 58 8 7 false .int false := ⟨_, kl_8, by decide, hm_tb_in (tb_1 (List.mem_of_getElem? (i := 73) rfl)) rfl, rfl, by decide +kernel, rfl⟩
theorem fl_HandRing_Village_61 : hm_Fl RX8 61 8 12 false .int false := ⟨_, kl_8, by decide, hm_tb_in (tb_1 (List.mem_of_getElem? (i := 83) rfl)) rfl, rfl, by decide +kernel, rfl⟩
theorem fl_HandRingModel_3 : hm_Fl RX10 3 10 0 false .int false := ⟨_, kl_10, by decide, hm_tb_in (tb_5 (List.mem_of_getElem? (i := 143) rfl)) rfl, rfl, by decide +kernel, rfl⟩
theorem fl_HandRingModel_7 : hm_Fl RX10 7 10 1 true (.array .int) true := ⟨_, kl_10, by decide, hm_tb_in (tb_5 (List.mem_of_getElem? (i := 144) rfl)) rfl, rfl, by decide +kernel, rfl⟩
theorem fl_HandRingModel_11 : hm_Fl RX10 11 10 33 false .int false := ⟨_, kl_10, by decide, hm_tb_in (tb_5 (List.mem_of_getElem? (i := 176) rfl)) rfl, rfl, by decide +kernel, rfl⟩
theorem fl_HandRingModel_24 : hm_Fl RX10 24 10 2 true (.array .int) true := ⟨_, kl_10, by decide, hm_tb_in (tb_5 (List.mem_of_getElem? (i := 145) rfl)) rfl, rfl, by decide +kernel, rfl⟩
theorem fl_HandRingModel_27 : hm_Fl RX10 27 10 3 true (.array .int) true := ⟨_, kl_10, by decide, hm_tb_in (tb_5 (List.mem_of_getElem? (i := 146) rfl)) rfl, rfl, by decide +kernel, rfl⟩
theorem fl_HandRingModel_30 : hm_Fl RX10 30 10 4 true (.array .boolean) true := ⟨_, kl_10, by decide, hm_tb_in (tb_5 (List.mem_of_getElem? (i := 147) rfl)) rfl, rfl, by decide +kernel, rfl⟩
theorem fl_HandRingModel_34 : hm_Fl RX10 34 10 5 true (.array .int) true := ⟨_, kl_10, by decide, hm_tb_in (tb_5 (List.mem_of_getElem? (i := 148) rfl)) rfl, rfl, by decide +kernel, rfl⟩
theorem fl_HandRingModel_37 : hm_Fl RX10 37 10 7 true (.array .byte) true := ⟨_, kl_10, by decide, hm_tb_in (tb_5 (List.mem_of_getElem? (i := 150) rfl)) rfl, rfl, by decide +kernel, rfl⟩
theorem fl_HandRingModel_41 : hm_Fl RX10 41 10 11 true (.array .byte) true := ⟨_, kl_10, by decide, hm_tb_in (tb_5 (List.mem_of_getElem? (i := 154) rfl)) rfl, rfl, by decide +kernel, rfl⟩
theorem fl_HandRingModel_44 : hm_Fl RX10 44 10 12 true (.array .int) true := ⟨_, kl_10, by decide, hm_tb_in (tb_5 (List.mem_of_getElem? (i := 155) rfl)) rfl, rfl, by decide +kernel, rfl⟩
theorem fl_HandRingModel_47 : hm_Fl RX10 47 10 14 false .int false := ⟨_, kl_10, by decide, hm_tb_in (tb_5 (List.mem_of_getElem? (i := 157) rfl)) rfl, rfl, by decide +kernel, rfl⟩
theorem fl_HandRingModel_50 : hm_Fl RX10 50 10 15 true (.array .int) true := ⟨_, kl_10, by decide, hm_tb_in (tb_5 (List.mem_of_getElem? (i := 158) rfl)) rfl, rfl, by decide +kernel, rfl⟩
theorem fl_HandRingModel_53 : hm_Fl RX10 53 10 16 true (.array .int) true := ⟨_, kl_10, by decide, hm_tb_in (tb_5 (List.mem_of_getElem? (i := 159) rfl)) rfl, rfl, by decide +kernel, rfl⟩
theorem fl_HandRingModel_56 : hm_Fl RX10 56 10 17 true (.array .int) true := ⟨_, kl_10, by decide, hm_tb_in (tb_5 (List.mem_of_getElem? (i := 160) rfl)) rfl, rfl, by decide +kernel, rfl⟩
theorem fl_HandRingModel_59 : hm_Fl RX10 59 10 26 true (.array .int) true := ⟨_, kl_10, by decide, hm_tb_in (tb_5 (List.mem_of_getElem? (i := 169) rfl)) rfl, rfl, by decide +kernel, rfl⟩
theorem fl_HandRingModel_62 : hm_Fl RX10 62 10 30 true (.array .int) true := ⟨_, kl_10, by decide, hm_tb_in (tb_5 (List.mem_of_getElem? (i := 173) rfl)) rfl, rfl, by decide +kernel, rfl⟩
theorem fl_HandRingModel_65 : hm_Fl RX10 65 10 31 true (.array .int) true := ⟨_, kl_10, by decide, hm_tb_in (tb_5 (List.mem_of_getElem? (i := 174) rfl)) rfl, rfl, by decide +kernel, rfl⟩
theorem fl_HandRingModel_68 : hm_Fl RX10 68 10 32 true (.array .int) true := ⟨_, kl_10, by decide, hm_tb_in (tb_5 (List.mem_of_getElem? (i := 175) rfl)) rfl, rfl, by decide +kernel, rfl⟩
theorem fl_HandRingModel_71 : hm_Fl RX10 71 10 34 true (.array .int) true := ⟨_, kl_10, by decide, hm_tb_in (tb_5 (List.mem_of_getElem? (i := 177) rfl)) rfl, rfl, by decide +kernel, rfl⟩
theorem fl_HandRingModel_74 : hm_Fl RX10 74 10 35 true (.array .int) true := ⟨_, kl_10, by decide, hm_tb_in (tb_5 (List.mem_of_getElem? (i := 178) rfl)) rfl, rfl, by decide +kernel, rfl⟩
theorem fl_HandRingModel_77 : hm_Fl RX10 77 10 36 true (.array .int) true := ⟨_, kl_10, by decide, hm_tb_in (tb_5 (List.mem_of_getElem? (i := 179) rfl)) rfl, rfl, by decide +kernel, rfl⟩
theorem fl_HandRingModel_80 : hm_Fl RX10 80 10 37 true (.array .int) true := ⟨_, kl_10, by decide, hm_tb_in (tb_5 (List.mem_of_getElem? (i := 180) rfl)) rfl, rfl, by decide +kernel, rfl⟩
theorem fl_HandRingModel_83 : hm_Fl RX10 83 10 40 true (.array .int) true := ⟨_, kl_10, by decide, hm_tb_in (tb_5 (List.mem_of_getElem? (i := 183) rfl)) rfl, rfl, by decide +kernel, rfl⟩
theorem fl_HandRingModel_86 : hm_Fl RX10 86 10 43 true (.array .int) true := ⟨_, kl_10, by decide, hm_tb_in (tb_5 (List.mem_of_getElem? (i := 186) rfl)) rfl, rfl, by decide +kernel, rfl⟩
theorem fl_HandRingModel_89 : hm_Fl RX10 89 10 44 true (.array .int) true := ⟨_, kl_10, by decide, hm_tb_in (tb_5 (List.mem_of_getElem? (i := 187) rfl)) rfl, rfl, by decide +kernel, rfl⟩
theorem fl_HandRingModel_92 : hm_Fl RX10 92 10 45 true (.array .long) true := ⟨_, kl_10, by decide, hm_tb_in (tb_5 (List.mem_of_getElem? (i := 188) rfl)) rfl, rfl, by decide +kernel, rfl⟩
theorem fl_HandRingModel_96 : hm_Fl RX10 96 10 46 false .int false := ⟨_, kl_10, by decide, hm_tb_in (tb_5 (List.mem_of_getElem? (i := 189) rfl)) rfl, rfl, by decide +kernel, rfl⟩
theorem fl_HandRingModel_99 : hm_Fl RX10 99 10 52 true (.array .long) true := ⟨_, kl_10, by decide, hm_tb_in (tb_5 (List.mem_of_getElem? (i := 195) rfl)) rfl, rfl, by decide +kernel, rfl⟩
theorem fl_HandRingModel_102 : hm_Fl RX10 102 10 53 true (.array .int) true := ⟨_, kl_10, by decide, hm_tb_in (tb_5 (List.mem_of_getElem? (i := 196) rfl)) rfl, rfl, by decide +kernel, rfl⟩
theorem fl_HandRingModel_105 : hm_Fl RX10 105 10 54 false .int false := ⟨_, kl_10, by decide, hm_tb_in (tb_5 (List.mem_of_getElem? (i := 197) rfl)) rfl, rfl, by decide +kernel, rfl⟩
theorem fl_HandRingModel_162 : hm_Fl RX10 162 10 13 false .int false := ⟨_, kl_10, by decide, hm_tb_in (tb_5 (List.mem_of_getElem? (i := 156) rfl)) rfl, rfl, by decide +kernel, rfl⟩
theorem fl_HandRingModel_165 : hm_Fl RX10 165 10 6 false .int false := ⟨_, kl_10, by decide, hm_tb_in (tb_5 (List.mem_of_getElem? (i := 149) rfl)) rfl, rfl, by decide +kernel, rfl⟩
theorem fl_HandRingModel_168 : hm_Fl RX10 168 10 18 false .int false := ⟨_, kl_10, by decide, hm_tb_in (tb_5 (List.mem_of_getElem? (i := 161) rfl)) rfl, rfl, by decide +kernel, rfl⟩
theorem fl_HandRingModel_181 : hm_Fl RX10 181 10 21 false .int false := ⟨_, kl_10, by decide, hm_tb_in (tb_5 (List.mem_of_getElem? (i := 164) rfl)) rfl, rfl, by decide +kernel, rfl⟩
theorem fl_HandRingModel_188 : hm_Fl RX10 188 10 19 false .int false := ⟨_, kl_10, by decide, hm_tb_in (tb_5 (List.mem_of_getElem? (i := 162) rfl)) rfl, rfl, by decide +kernel, rfl⟩
theorem fl_HandRingModel_197 : hm_Fl RX10 197 10 20 false .int false := ⟨_, kl_10, by decide, hm_tb_in (tb_5 (List.mem_of_getElem? (i := 163) rfl)) rfl, rfl, by decide +kernel, rfl⟩
theorem fl_HandRingModel_217 : hm_Fl RX10 217 10 10 false .boolean false := ⟨_, kl_10, by decide, hm_tb_in (tb_5 (List.mem_of_getElem? (i := 153) rfl)) rfl, rfl, by decide +kernel, rfl⟩
theorem fl_HandRingModel_243 : hm_Fl RX10 243 10 8 false .int false := ⟨_, kl_10, by decide, hm_tb_in (tb_5 (List.mem_of_getElem? (i := 151) rfl)) rfl, rfl, by decide +kernel, rfl⟩
theorem fl_HandRingModel_246 : hm_Fl RX10 246 10 9 false .int false := ⟨_, kl_10, by decide, hm_tb_in (tb_5 (List.mem_of_getElem? (i := 152) rfl)) rfl, rfl, by decide +kernel, rfl⟩
theorem fl_HandRingModel_271 : hm_Fl RX10 271 10 23 false .int false := ⟨_, kl_10, by decide, hm_tb_in (tb_5 (List.mem_of_getElem? (i := 166) rfl)) rfl, rfl, by decide +kernel, rfl⟩
theorem fl_HandRingModel_274 : hm_Fl RX10 274 10 22 false .int false := ⟨_, kl_10, by decide, hm_tb_in (tb_5 (List.mem_of_getElem? (i := 165) rfl)) rfl, rfl, by decide +kernel, rfl⟩
theorem fl_HandRingModel_284 : hm_Fl RX10 284 10 24 false .boolean false := ⟨_, kl_10, by decide, hm_tb_in (tb_5 (List.mem_of_getElem? (i := 167) rfl)) rfl, rfl, by decide +kernel, rfl⟩
theorem fl_HandRingModel_304 : hm_Fl RX10 304 10 25 false .boolean false := ⟨_, kl_10, by decide, hm_tb_in (tb_5 (List.mem_of_getElem? (i := 168) rfl)) rfl, rfl, by decide +kernel, rfl⟩
theorem fl_HandRingModel_313 : hm_Fl RX10 313 10 27 false .int false := ⟨_, kl_10, by decide, hm_tb_in (tb_5 (List.mem_of_getElem? (i := 170) rfl)) rfl, rfl, by decide +kernel, rfl⟩
theorem fl_HandRingModel_316 : hm_Fl RX10 316 10 28 false .int false := ⟨_, kl_10, by decide, hm_tb_in (tb_5 (List.mem_of_getElem? (i := 171) rfl)) rfl, rfl, by decide +kernel, rfl⟩
theorem fl_HandRingModel_322 : hm_Fl RX10 322 10 29 false .int false := ⟨_, kl_10, by decide, hm_tb_in (tb_5 (List.mem_of_getElem? (i := 172) rfl)) rfl, rfl, by decide +kernel, rfl⟩
theorem fl_HandRingModel_407 : hm_Fl RX10 407 10 39 false .boolean false := ⟨_, kl_10, by decide, hm_tb_in (tb_5 (List.mem_of_getElem? (i := 182) rfl)) rfl, rfl, by decide +kernel, rfl⟩
theorem fl_HandRingModel_410 : hm_Fl RX10 410 10 38 false .int false := ⟨_, kl_10, by decide, hm_tb_in (tb_5 (List.mem_of_getElem? (i := 181) rfl)) rfl, rfl, by decide +kernel, rfl⟩
theorem fl_HandRingModel_433 : hm_Fl RX10 433 10 41 false .int false := ⟨_, kl_10, by decide, hm_tb_in (tb_5 (List.mem_of_getElem? (i := 184) rfl)) rfl, rfl, by decide +kernel, rfl⟩
theorem fl_HandRingModel_439 : hm_Fl RX10 439 10 42 false .int false := ⟨_, kl_10, by decide, hm_tb_in (tb_5 (List.mem_of_getElem? (i := 185) rfl)) rfl, rfl, by decide +kernel, rfl⟩
theorem fl_HandRingModel_472 : hm_Fl RX10 472 10 47 false .int false := ⟨_, kl_10, by decide, hm_tb_in (tb_5 (List.mem_of_getElem? (i := 190) rfl)) rfl, rfl, by decide +kernel, rfl⟩
theorem fl_HandRingModel_481 : hm_Fl RX10 481 10 49 false .int false := ⟨_, kl_10, by decide, hm_tb_in (tb_5 (List.mem_of_getElem? (i := 192) rfl)) rfl, rfl, by decide +kernel, rfl⟩
theorem fl_HandRingModel_484 : hm_Fl RX10 484 10 50 false .boolean false := ⟨_, kl_10, by decide, hm_tb_in (tb_5 (List.mem_of_getElem? (i := 193) rfl)) rfl, rfl, by decide +kernel, rfl⟩
theorem fl_HandRingModel_487 : hm_Fl RX10 487 10 48 false .int false := ⟨_, kl_10, by decide, hm_tb_in (tb_5 (List.mem_of_getElem? (i := 191) rfl)) rfl, rfl, by decide +kernel, rfl⟩
theorem fl_HandRingModel_490 : hm_Fl RX10 490 10 51 false .boolean false := ⟨_, kl_10, by decide, hm_tb_in (tb_5 (List.mem_of_getElem? (i := 194) rfl)) rfl, rfl, by decide +kernel, rfl⟩
theorem fl_HandRingModel_508 : hm_Fl RX10 508 10 55 false .int false := ⟨_, kl_10, by decide, hm_tb_in (tb_5 (List.mem_of_getElem? (i := 198) rfl)) rfl, rfl, by decide +kernel, rfl⟩
theorem kc_HandRing_319 : Cond.constant RX9 319 (1000000) ∈ hm_tb := hm_tb_in (tb_5 (List.mem_of_getElem? (i := 107) rfl)) rfl
theorem kc_HandRing_Circle_92 : Cond.constant RX0 92 (1000000) ∈ hm_tb := hm_tb_in (tb_4 (List.mem_of_getElem? (i := 172) rfl)) rfl
theorem kc_HandRing_Judge_28 : Cond.constant RX3 28 (2000000000) ∈ hm_tb := hm_tb_in (tb_2 (List.mem_of_getElem? (i := 209) rfl)) rfl
theorem kc_HandRingModel_180 : Cond.constant RX10 180 (1000000) ∈ hm_tb := hm_tb_in (tb_7 (List.mem_of_getElem? (i := 39) rfl)) rfl
theorem kc_java_lang_Integer_264 : Cond.constant RJ6 264 (65536) ∈ hm_tb := hm_tb_in (tb_4 (List.mem_of_getElem? (i := 183) rfl)) rfl
theorem kc_java_lang_Integer_265 : Cond.constant RJ6 265 (1431655765) ∈ hm_tb := hm_tb_in (tb_4 (List.mem_of_getElem? (i := 6) rfl)) rfl
theorem kc_java_lang_Integer_266 : Cond.constant RJ6 266 (858993459) ∈ hm_tb := hm_tb_in (tb_4 (List.mem_of_getElem? (i := 7) rfl)) rfl
theorem kc_java_lang_Integer_267 : Cond.constant RJ6 267 (252645135) ∈ hm_tb := hm_tb_in (tb_4 (List.mem_of_getElem? (i := 8) rfl)) rfl
theorem kd_HandRing_303 : Cond.constantLong RX9 303 (-1) ∈ hm_tb := hm_tb_in (tb_5 (List.mem_of_getElem? (i := 93) rfl)) rfl
theorem kd_HandRing_311 : Cond.constantLong RX9 311 (1000000000000) ∈ hm_tb := hm_tb_in (tb_5 (List.mem_of_getElem? (i := 97) rfl)) rfl
theorem kd_HandRing_313 : Cond.constantLong RX9 313 (10) ∈ hm_tb := hm_tb_in (tb_5 (List.mem_of_getElem? (i := 98) rfl)) rfl
theorem kd_HandRing_342 : Cond.constantLong RX9 342 (1103) ∈ hm_tb := hm_tb_in (tb_5 (List.mem_of_getElem? (i := 112) rfl)) rfl
theorem kd_HandRing_344 : Cond.constantLong RX9 344 (12345) ∈ hm_tb := hm_tb_in (tb_5 (List.mem_of_getElem? (i := 113) rfl)) rfl
theorem kd_HandRing_346 : Cond.constantLong RX9 346 (1000003) ∈ hm_tb := hm_tb_in (tb_5 (List.mem_of_getElem? (i := 114) rfl)) rfl
theorem kd_HandRing_Machine_44 : Cond.constantLong RX4 44 (1000000000) ∈ hm_tb := hm_tb_in (tb_2 (List.mem_of_getElem? (i := 222) rfl)) rfl
theorem kd_HandRing_Machine_46 : Cond.constantLong RX4 46 (-1000000000) ∈ hm_tb := hm_tb_in (tb_2 (List.mem_of_getElem? (i := 223) rfl)) rfl
theorem kd_HandRing_Machine_48 : Cond.constantLong RX4 48 (1000000001) ∈ hm_tb := hm_tb_in (tb_2 (List.mem_of_getElem? (i := 221) rfl)) rfl
theorem kd_HandRingModel_280 : Cond.constantLong RX10 280 (1000000000) ∈ hm_tb := hm_tb_in (tb_6 (List.mem_of_getElem? (i := 193) rfl)) rfl
theorem kd_HandRingModel_282 : Cond.constantLong RX10 282 (-1000000000) ∈ hm_tb := hm_tb_in (tb_6 (List.mem_of_getElem? (i := 194) rfl)) rfl
theorem kd_HandRingModel_463 : Cond.constantLong RX10 463 (-1) ∈ hm_tb := hm_tb_in (tb_8 (List.mem_of_getElem? (i := 74) rfl)) rfl
theorem kd_HandRingModel_465 : Cond.constantLong RX10 465 (1000000000000) ∈ hm_tb := hm_tb_in (tb_8 (List.mem_of_getElem? (i := 75) rfl)) rfl
theorem kd_HandRingModel_467 : Cond.constantLong RX10 467 (10) ∈ hm_tb := hm_tb_in (tb_8 (List.mem_of_getElem? (i := 76) rfl)) rfl
theorem kd_HandRingModel_493 : Cond.constantLong RX10 493 (1000000) ∈ hm_tb := hm_tb_in (tb_8 (List.mem_of_getElem? (i := 104) rfl)) rfl
theorem kd_HandRingModel_506 : Cond.constantLong RX10 506 (1103) ∈ hm_tb := hm_tb_in (tb_8 (List.mem_of_getElem? (i := 121) rfl)) rfl
theorem kd_HandRingModel_511 : Cond.constantLong RX10 511 (12345) ∈ hm_tb := hm_tb_in (tb_8 (List.mem_of_getElem? (i := 122) rfl)) rfl
theorem kd_HandRingModel_513 : Cond.constantLong RX10 513 (1000003) ∈ hm_tb := hm_tb_in (tb_8 (List.mem_of_getElem? (i := 123) rfl)) rfl
theorem kd_java_lang_Long_314 : Cond.constantLong RJ13 314 (6148914691236517205) ∈ hm_tb := hm_tb_in (tb_5 (List.mem_of_getElem? (i := 63) rfl)) rfl
theorem kd_java_lang_Long_316 : Cond.constantLong RJ13 316 (3689348814741910323) ∈ hm_tb := hm_tb_in (tb_5 (List.mem_of_getElem? (i := 64) rfl)) rfl
theorem kd_java_lang_Long_318 : Cond.constantLong RJ13 318 (1085102592571150095) ∈ hm_tb := hm_tb_in (tb_5 (List.mem_of_getElem? (i := 65) rfl)) rfl
theorem kw_max_s : Cond.static Lib.Math.max.name ∈ hm_tb := hm_tb_in (tb_1 (List.mem_of_getElem? (i := 148) rfl)) rfl
theorem kw_max_c : Cond.code Lib.Math.max.name Lib.Math.max.code 2 (some .int) ∈ hm_tb := hm_tb_in (tb_1 (List.mem_of_getElem? (i := 149) rfl)) rfl
theorem kw_min_s : Cond.static Lib.Math.min.name ∈ hm_tb := hm_tb_in (tb_2 (List.mem_of_getElem? (i := 229) rfl)) rfl
theorem kw_min_c : Cond.code Lib.Math.min.name Lib.Math.min.code 2 (some .int) ∈ hm_tb := hm_tb_in (tb_2 (List.mem_of_getElem? (i := 230) rfl)) rfl
theorem kw_abs_s : Cond.static Lib.Math.abs.name ∈ hm_tb := hm_tb_in (tb_2 (List.mem_of_getElem? (i := 194) rfl)) rfl
theorem kw_abs_c : Cond.code Lib.Math.abs.name Lib.Math.abs.code 1 (some .int) ∈ hm_tb := hm_tb_in (tb_2 (List.mem_of_getElem? (i := 195) rfl)) rfl
theorem kw_ac_n : Cond.native arraycopyName ∈ hm_tb := hm_tb_in (tb_1 (List.mem_of_getElem? (i := 41) rfl)) rfl
theorem kw_ac_s : Cond.static arraycopyName ∈ hm_tb := hm_tb_in (tb_1 (List.mem_of_getElem? (i := 40) rfl)) rfl
theorem kw_Sys_i : Cond.initialized "java/lang/System" ∈ hm_tb := hm_tb_in (tb_1 (List.mem_of_getElem? (i := 3) rfl)) rfl
theorem kw_Math_i : Cond.initialized "java/lang/Math" ∈ hm_tb := hm_tb_in (tb_1 (List.mem_of_getElem? (i := 7) rfl)) rfl

/-! Facts of the claim that a program decides: methods, links, fields (laid by wip/gen/gen_wp.py) -/
def zm_X0_init : zM := (yX0_init, cX0_init, 1, none)
def zm_X0_lay : zM := (yX0_lay, cX0_lay, 3, none)
def zm_X0_write : zM := (yX0_write, cX0_write, 4, none)
def zm_X0_stepsFor : zM := (yX0_stepsFor, cX0_stepsFor, 3, some .int)
def zm_X0_bitFor : zM := (yX0_bitFor, cX0_bitFor, 4, some .int)
def zm_X1_init : zM := (yX1_init, cX1_init, 2, none)
def zm_X1_begin : zM := (yX1_begin, cX1_begin, 5, none)
def zm_X1_unitFor : zM := (yX1_unitFor, cX1_unitFor, 4, some .int)
def zm_X1_gcd : zM := (yX1_gcd, cX1_gcd, 3, some .int)
def zm_X1_putHead : zM := (yX1_putHead, cX1_putHead, 4, none)
def zm_X1_build : zM := (yX1_build, cX1_build, 3, none)
def zm_X1_clearColumn : zM := (yX1_clearColumn, cX1_clearColumn, 4, some .int)
def zm_X1_clearOne : zM := (yX1_clearOne, cX1_clearOne, 10, some .int)
def zm_X1_multiply : zM := (yX1_multiply, cX1_multiply, 6, some .boolean)
def zm_X1_settle : zM := (yX1_settle, cX1_settle, 4, none)
def zm_X1_addTimes : zM := (yX1_addTimes, cX1_addTimes, 9, none)
def zm_X1_reduce : zM := (yX1_reduce, cX1_reduce, 8, none)
def zm_X1_tailOf : zM := (yX1_tailOf, cX1_tailOf, 2, some .int)
def zm_X1_orderAt : zM := (yX1_orderAt, cX1_orderAt, 2, some .int)
def zm_X1_addRow : zM := (yX1_addRow, cX1_addRow, 3, none)
def zm_X1_reduceHead : zM := (yX1_reduceHead, cX1_reduceHead, 3, some .boolean)
def zm_X1_stepTail : zM := (yX1_stepTail, cX1_stepTail, 3, some .boolean)
def zm_X1_countElements : zM := (yX1_countElements, cX1_countElements, 3, some .int)
def zm_X1_columnOfElement : zM := (yX1_columnOfElement, cX1_columnOfElement, 4, some .int)
def zm_X2_init : zM := (yX2_init, cX2_init, 1, none)
def zm_X2_note : zM := (yX2_note, cX2_note, 4, none)
def zm_X2_takeBack : zM := (yX2_takeBack, cX2_takeBack, 2, none)
def zm_X3_init : zM := (yX3_init, cX3_init, 1, none)
def zm_X3_makeNew : zM := (yX3_makeNew, cX3_makeNew, 4, none)
def zm_X3_copyFrom : zM := (yX3_copyFrom, cX3_copyFrom, 2, none)
def zm_X3_hasLamp : zM := (yX3_hasLamp, cX3_hasLamp, 2, some .boolean)
def zm_X3_hasButton : zM := (yX3_hasButton, cX3_hasButton, 2, some .boolean)
def zm_X3_takesButton : zM := (yX3_takesButton, cX3_takesButton, 5, some .boolean)
def zm_X3_hasLine : zM := (yX3_hasLine, cX3_hasLine, 3, some .boolean)
def zm_X3_addButton : zM := (yX3_addButton, cX3_addButton, 7, some .int)
def zm_X3_removeLastButton : zM := (yX3_removeLastButton, cX3_removeLastButton, 1, none)
def zm_X3_wireTo : zM := (yX3_wireTo, cX3_wireTo, 6, some .int)
def zm_X3_stepAt : zM := (yX3_stepAt, cX3_stepAt, 4, some .int)
def zm_X3_ownStepAt : zM := (yX3_ownStepAt, cX3_ownStepAt, 3, some .int)
def zm_X3_isOnLine : zM := (yX3_isOnLine, cX3_isOnLine, 3, some .boolean)
def zm_X3_isInCross : zM := (yX3_isInCross, cX3_isInCross, 5, some .boolean)
def zm_X3_pushOne : zM := (yX3_pushOne, cX3_pushOne, 5, some .int)
def zm_X3_pushAll : zM := (yX3_pushAll, cX3_pushAll, 4, some .int)
def zm_X3_turn : zM := (yX3_turn, cX3_turn, 4, some .int)
def zm_X3_isAllCrosses : zM := (yX3_isAllCrosses, cX3_isAllCrosses, 2, some .boolean)
def zm_X3_chaseDown : zM := (yX3_chaseDown, cX3_chaseDown, 4, some .int)
def zm_X3_countLit : zM := (yX3_countLit, cX3_countLit, 3, some .int)
def zm_X3_sumShown : zM := (yX3_sumShown, cX3_sumShown, 3, some .int)
def zm_X3_allBelowColours : zM := (yX3_allBelowColours, cX3_allBelowColours, 4, some .boolean)
def zm_X3_isPushing : zM := (yX3_isPushing, cX3_isPushing, 3, some .boolean)
def zm_X3_firstStuckPushed : zM := (yX3_firstStuckPushed, cX3_firstStuckPushed, 3, some .int)
def zm_X3_patternAt : zM := (yX3_patternAt, cX3_patternAt, 5, some .int)
def zm_X3_weighSteps : zM := (yX3_weighSteps, cX3_weighSteps, 5, some .int)
def zm_X3_weighShown : zM := (yX3_weighShown, cX3_weighShown, 5, some .int)
def zm_X4_init : zM := (yX4_init, cX4_init, 3, none)
def zm_X4_begin : zM := (yX4_begin, cX4_begin, 3, none)
def zm_X4_putPrice : zM := (yX4_putPrice, cX4_putPrice, 3, none)
def zm_X4_findCheapest : zM := (yX4_findCheapest, cX4_findCheapest, 3, some .int)
def zm_X4_findCheapestFor : zM := (yX4_findCheapestFor, cX4_findCheapestFor, 2, some .int)
def zm_X4_endOf : zM := (yX4_endOf, cX4_endOf, 2, some .int)
def zm_X4_costOf : zM := (yX4_costOf, cX4_costOf, 6, some .int)
def zm_X4_explore : zM := (yX4_explore, cX4_explore, 8, none)
def zm_X4_takeFound : zM := (yX4_takeFound, cX4_takeFound, 2, none)
def zm_X4_findHardest : zM := (yX4_findHardest, cX4_findHardest, 1, none)
def zm_X4_pickFrom : zM := (yX4_pickFrom, cX4_pickFrom, 6, none)
def zm_X4_takePicked : zM := (yX4_takePicked, cX4_takePicked, 3, none)
def zm_X4_isPickedAhead : zM := (yX4_isPickedAhead, cX4_isPickedAhead, 3, some .boolean)
def zm_X4_pickedAt : zM := (yX4_pickedAt, cX4_pickedAt, 4, some .int)
def zm_X5_init : zM := (yX5_init, cX5_init, 2, none)
def zm_X5_refresh : zM := (yX5_refresh, cX5_refresh, 4, none)
def zm_X5_freshWeights : zM := (yX5_freshWeights, cX5_freshWeights, 3, some (.object "LampPlate$Form"))
def zm_X5_countQuiet : zM := (yX5_countQuiet, cX5_countQuiet, 1, some .int)
def zm_X5_countWeights : zM := (yX5_countWeights, cX5_countWeights, 1, some .int)
def zm_X5_solve : zM := (yX5_solve, cX5_solve, 2, some .boolean)
def zm_X5_tellPushing : zM := (yX5_tellPushing, cX5_tellPushing, 2, none)
def zm_X5_tellTail : zM := (yX5_tellTail, cX5_tellTail, 4, none)
def zm_X5_goOn : zM := (yX5_goOn, cX5_goOn, 3, some .boolean)
def zm_X5_tellWhy : zM := (yX5_tellWhy, cX5_tellWhy, 5, none)
def zm_X5_tellByLamps : zM := (yX5_tellByLamps, cX5_tellByLamps, 4, none)
def zm_X5_tellQuiet : zM := (yX5_tellQuiet, cX5_tellQuiet, 4, some .boolean)
def zm_X5_tellWeights : zM := (yX5_tellWeights, cX5_tellWeights, 5, some .boolean)
def zm_X5_primesOfAll : zM := (yX5_primesOfAll, cX5_primesOfAll, 2, some .int)
def zm_X5_primesOfQuiet : zM := (yX5_primesOfQuiet, cX5_primesOfQuiet, 4, some .int)
def zm_X5_primesOfPatterns : zM := (yX5_primesOfPatterns, cX5_primesOfPatterns, 2, some .int)
def zm_X5_primesOfWeights : zM := (yX5_primesOfWeights, cX5_primesOfWeights, 2, some .int)
def zm_X5_howOften : zM := (yX5_howOften, cX5_howOften, 4, some .int)
def zm_X5_hasManyQuiet : zM := (yX5_hasManyQuiet, cX5_hasManyQuiet, 3, some .boolean)
def zm_X5_hasManyPushings : zM := (yX5_hasManyPushings, cX5_hasManyPushings, 3, some .boolean)
def zm_X5_freshSearch : zM := (yX5_freshSearch, cX5_freshSearch, 2, some (.object "LampPlate$Search"))
def zm_X5_tellLeast : zM := (yX5_tellLeast, cX5_tellLeast, 4, some .int)
def zm_X5_tellWorst : zM := (yX5_tellWorst, cX5_tellWorst, 3, some .int)
def zm_X6_init : zM := (yX6_init, cX6_init, 1, none)
def zm_X6_begin : zM := (yX6_begin, cX6_begin, 3, none)
def zm_X7_init : zM := (yX7_init, cX7_init, 1, none)
def zm_X7_plate : zM := (yX7_plate, cX7_plate, 4, some .boolean)
def zm_X7_button : zM := (yX7_button, cX7_button, 5, some .int)
def zm_X7_board : zM := (yX7_board, cX7_board, 3, some .boolean)
def zm_X7_entry : zM := (yX7_entry, cX7_entry, 4, some .boolean)
def zm_X7_wire : zM := (yX7_wire, cX7_wire, 3, some .int)
def zm_X7_cost : zM := (yX7_cost, cX7_cost, 4, some .int)
def zm_X7_light : zM := (yX7_light, cX7_light, 4, some .int)
def zm_X7_push : zM := (yX7_push, cX7_push, 3, some .int)
def zm_X7_chase : zM := (yX7_chase, cX7_chase, 1, some .int)
def zm_X7_undo : zM := (yX7_undo, cX7_undo, 1, some .int)
def zm_X7_keep : zM := (yX7_keep, cX7_keep, 1, some .boolean)
def zm_X7_back : zM := (yX7_back, cX7_back, 1, some .boolean)
def zm_X7_count : zM := (yX7_count, cX7_count, 2, some .int)
def zm_X7_shown : zM := (yX7_shown, cX7_shown, 2, some .int)
def zm_X7_step : zM := (yX7_step, cX7_step, 3, some .int)
def zm_X7_can : zM := (yX7_can, cX7_can, 2, some .int)
def zm_X7_next : zM := (yX7_next, cX7_next, 1, some .int)
def zm_X7_row : zM := (yX7_row, cX7_row, 2, some .int)
def zm_X7_primes : zM := (yX7_primes, cX7_primes, 3, some .int)
def zm_X7_base : zM := (yX7_base, cX7_base, 2, some .int)
def zm_X7_element : zM := (yX7_element, cX7_element, 5, some .int)
def zm_X7_least : zM := (yX7_least, cX7_least, 2, some .long)
def zm_X7_worst : zM := (yX7_worst, cX7_worst, 2, some .long)
def zm_X7_apply : zM := (yX7_apply, cX7_apply, 1, some .int)
def zm_X7_tell : zM := (yX7_tell, cX7_tell, 2, some .int)
def zm_X7_check : zM := (yX7_check, cX7_check, 4, some .int)
def zm_X7_checkPushing : zM := (yX7_checkPushing, cX7_checkPushing, 3, some .int)
def zm_X7_checkWeights : zM := (yX7_checkWeights, cX7_checkWeights, 2, some .int)
def zm_X7_beginAct : zM := (yX7_beginAct, cX7_beginAct, 3, none)
def zm_X7_forgetActs : zM := (yX7_forgetActs, cX7_forgetActs, 1, none)
def zm_X7_freshSolver : zM := (yX7_freshSolver, cX7_freshSolver, 1, some (.object "LampPlate$Solver"))
def zm_X8_init : zM := (yX8_init, cX8_init, 1, none)
def zm_X8_in : zM := (yX8_in, cX8_in, 6, some .boolean)
def zm_X8_set : zM := (yX8_set, cX8_set, 5, none)
def zm_X8_n : zM := (yX8_n, cX8_n, 1, some .int)
def zm_X8_m : zM := (yX8_m, cX8_m, 1, some .int)
def zm_X8_w : zM := (yX8_w, cX8_w, 1, some .int)
def zm_X8_buttons : zM := (yX8_buttons, cX8_buttons, 1, some .int)
def zm_X8_plate : zM := (yX8_plate, cX8_plate, 4, some .boolean)
def zm_X8_act : zM := (yX8_act, cX8_act, 2, none)
def zm_X8_isLine : zM := (yX8_isLine, cX8_isLine, 2, some .boolean)
def zm_X8_button : zM := (yX8_button, cX8_button, 7, some .int)
def zm_X8_board : zM := (yX8_board, cX8_board, 4, some .boolean)
def zm_X8_entry : zM := (yX8_entry, cX8_entry, 4, some .boolean)
def zm_X8_told : zM := (yX8_told, cX8_told, 4, some .int)
def zm_X8_isButton : zM := (yX8_isButton, cX8_isButton, 2, some .boolean)
def zm_X8_wire : zM := (yX8_wire, cX8_wire, 5, some .int)
def zm_X8_cost : zM := (yX8_cost, cX8_cost, 4, some .int)
def zm_X8_light : zM := (yX8_light, cX8_light, 4, some .int)
def zm_X8_cross : zM := (yX8_cross, cX8_cross, 5, some .int)
def zm_X8_own : zM := (yX8_own, cX8_own, 3, some .int)
def zm_X8_steps : zM := (yX8_steps, cX8_steps, 3, some .int)
def zm_X8_isStuck : zM := (yX8_isStuck, cX8_isStuck, 2, some .boolean)
def zm_X8_pushed : zM := (yX8_pushed, cX8_pushed, 6, some .int)
def zm_X8_push : zM := (yX8_push, cX8_push, 3, some .int)
def zm_X8_chase : zM := (yX8_chase, cX8_chase, 6, some .int)
def zm_X8_undo : zM := (yX8_undo, cX8_undo, 2, some .int)
def zm_X8_keep : zM := (yX8_keep, cX8_keep, 2, some .boolean)
def zm_X8_back : zM := (yX8_back, cX8_back, 2, some .boolean)
def zm_X8_count : zM := (yX8_count, cX8_count, 5, some .int)
def zm_X8_shown : zM := (yX8_shown, cX8_shown, 2, some .int)
def zm_X8_step : zM := (yX8_step, cX8_step, 3, some .int)
def zm_X8_whole : zM := (yX8_whole, cX8_whole, 3, none)
def zm_X8_common : zM := (yX8_common, cX8_common, 13, some .int)
def zm_X8_impose : zM := (yX8_impose, cX8_impose, 10, none)
def zm_X8_reduce : zM := (yX8_reduce, cX8_reduce, 5, none)
def zm_X8_pivot : zM := (yX8_pivot, cX8_pivot, 2, some .int)
def zm_X8_pushings : zM := (yX8_pushings, cX8_pushings, 4, none)
def zm_X8_weights : zM := (yX8_weights, cX8_weights, 3, none)
def zm_X8_tells : zM := (yX8_tells, cX8_tells, 3, none)
def zm_X8_canBe : zM := (yX8_canBe, cX8_canBe, 1, some .boolean)
def zm_X8_can : zM := (yX8_can, cX8_can, 2, some .int)
def zm_X8_isZero : zM := (yX8_isZero, cX8_isZero, 4, some .boolean)
def zm_X8_weigh : zM := (yX8_weigh, cX8_weigh, 3, none)
def zm_X8_next : zM := (yX8_next, cX8_next, 1, some .int)
def zm_X8_follows : zM := (yX8_follows, cX8_follows, 4, some .boolean)
def zm_X8_lower : zM := (yX8_lower, cX8_lower, 5, none)
def zm_X8_row : zM := (yX8_row, cX8_row, 2, some .int)
def zm_X8_often : zM := (yX8_often, cX8_often, 4, some .int)
def zm_X8_free : zM := (yX8_free, cX8_free, 3, some .int)
def zm_X8_left : zM := (yX8_left, cX8_left, 5, some .int)
def zm_X8_primes : zM := (yX8_primes, cX8_primes, 6, some .int)
def zm_X8_base : zM := (yX8_base, cX8_base, 5, some .int)
def zm_X8_element : zM := (yX8_element, cX8_element, 5, some .int)
def zm_X8_costOf : zM := (yX8_costOf, cX8_costOf, 4, some .long)
def zm_X8_quiet : zM := (yX8_quiet, cX8_quiet, 4, some .long)
def zm_X8_least : zM := (yX8_least, cX8_least, 6, some .long)
def zm_X8_keepsRow : zM := (yX8_keepsRow, cX8_keepsRow, 4, none)
def zm_X8_pushes : zM := (yX8_pushes, cX8_pushes, 4, some .long)
def zm_X8_numberOf : zM := (yX8_numberOf, cX8_numberOf, 3, some .int)
def zm_X8_pushing : zM := (yX8_pushing, cX8_pushing, 4, none)
def zm_X8_worst : zM := (yX8_worst, cX8_worst, 11, some .long)
def zm_X8_isLikeRow : zM := (yX8_isLikeRow, cX8_isLikeRow, 5, some .boolean)
def zm_X8_made : zM := (yX8_made, cX8_made, 4, some .int)
def zm_X8_isAhead : zM := (yX8_isAhead, cX8_isAhead, 3, some .boolean)
def zm_X8_apply : zM := (yX8_apply, cX8_apply, 5, some .int)
def zm_X8_tell : zM := (yX8_tell, cX8_tell, 2, some .int)
def zm_X8_check : zM := (yX8_check, cX8_check, 4, some .int)
def zm_X8_pushingWrong : zM := (yX8_pushingWrong, cX8_pushingWrong, 4, some .int)
def zm_X8_weightsWrong : zM := (yX8_weightsWrong, cX8_weightsWrong, 4, some .int)
def zm_J9_floorMod_7cf53 : zM := (yJ9_floorMod_7cf53, cJ9_floorMod_7cf53, 3, some .int)
def zm_J9_floorMod_f86c9 : zM := (yJ9_floorMod_f86c9, cJ9_floorMod_f86c9, 6, some .long)
def zm_J9_abs_0f7a4 : zM := (yJ9_abs_0f7a4, cJ9_abs_0f7a4, 1, some .int)
def zm_J9_max_7cf53 : zM := (yJ9_max_7cf53, cJ9_max_7cf53, 2, some .int)
def zm_J9_min_7cf53 : zM := (yJ9_min_7cf53, cJ9_min_7cf53, 2, some .int)
def zm_J9_min_f86c9 : zM := (yJ9_min_f86c9, cJ9_min_f86c9, 4, some .long)
def zm_J7_fill_d0a16 : zM := (yJ7_fill_d0a16, cJ7_fill_d0a16, 5, none)
def zm_J7_fill_53178 : zM := (yJ7_fill_53178, cJ7_fill_53178, 4, none)
def zm_L_law : zM := (yL_law, cL_law, 4, some .boolean)
theorem zc_J7_fill_53178 : zcal zm_J7_fill_53178 2 := ⟨zin 251 (by decide +kernel) rfl, zin 73 (by decide +kernel) rfl, ⟨by decide +kernel, by decide +kernel⟩, by decide +kernel⟩
theorem zs_J7_fill_53178 : Cond.static (zMy zm_J7_fill_53178) ∈ ztbl := zin 250 (by decide +kernel) rfl
theorem zc_J7_fill_d0a16 : zcal zm_J7_fill_d0a16 2 := ⟨zin 304 (by decide +kernel) rfl, zin 73 (by decide +kernel) rfl, ⟨by decide +kernel, by decide +kernel⟩, by decide +kernel⟩
theorem zs_J7_fill_d0a16 : Cond.static (zMy zm_J7_fill_d0a16) ∈ ztbl := zin 303 (by decide +kernel) rfl
theorem zc_J9_abs_0f7a4 : zcal zm_J9_abs_0f7a4 1 := ⟨zin 369 (by decide +kernel) rfl, zin 75 (by decide +kernel) rfl, ⟨by decide +kernel, by decide +kernel⟩, by decide +kernel⟩
theorem zs_J9_abs_0f7a4 : Cond.static (zMy zm_J9_abs_0f7a4) ∈ ztbl := zin 368 (by decide +kernel) rfl
theorem zc_J9_floorMod_7cf53 : zcal zm_J9_floorMod_7cf53 2 := ⟨zin 328 (by decide +kernel) rfl, zin 75 (by decide +kernel) rfl, ⟨by decide +kernel, by decide +kernel⟩, by decide +kernel⟩
theorem zs_J9_floorMod_7cf53 : Cond.static (zMy zm_J9_floorMod_7cf53) ∈ ztbl := zin 327 (by decide +kernel) rfl
theorem zc_J9_floorMod_f86c9 : zcal zm_J9_floorMod_f86c9 2 := ⟨zin 1028 (by decide +kernel) rfl, zin 75 (by decide +kernel) rfl, ⟨by decide +kernel, by decide +kernel⟩, by decide +kernel⟩
theorem zs_J9_floorMod_f86c9 : Cond.static (zMy zm_J9_floorMod_f86c9) ∈ ztbl := zin 1027 (by decide +kernel) rfl
theorem zc_J9_max_7cf53 : zcal zm_J9_max_7cf53 2 := ⟨zin 556 (by decide +kernel) rfl, zin 75 (by decide +kernel) rfl, ⟨by decide +kernel, by decide +kernel⟩, by decide +kernel⟩
theorem zs_J9_max_7cf53 : Cond.static (zMy zm_J9_max_7cf53) ∈ ztbl := zin 555 (by decide +kernel) rfl
theorem zc_J9_min_7cf53 : zcal zm_J9_min_7cf53 2 := ⟨zin 289 (by decide +kernel) rfl, zin 75 (by decide +kernel) rfl, ⟨by decide +kernel, by decide +kernel⟩, by decide +kernel⟩
theorem zs_J9_min_7cf53 : Cond.static (zMy zm_J9_min_7cf53) ∈ ztbl := zin 288 (by decide +kernel) rfl
theorem zc_J9_min_f86c9 : zcal zm_J9_min_f86c9 2 := ⟨zin 1219 (by decide +kernel) rfl, zin 75 (by decide +kernel) rfl, ⟨by decide +kernel, by decide +kernel⟩, by decide +kernel⟩
theorem zs_J9_min_f86c9 : Cond.static (zMy zm_J9_min_f86c9) ∈ ztbl := zin 1218 (by decide +kernel) rfl
theorem zc_X0_bitFor : zcal zm_X0_bitFor 2 := ⟨zin 332 (by decide +kernel) rfl, zin 69 (by decide +kernel) rfl, ⟨by decide +kernel, by decide +kernel⟩, by decide +kernel⟩
theorem zs_X0_bitFor : Cond.instanceMethod (zMy zm_X0_bitFor) ∈ ztbl := zin 331 (by decide +kernel) rfl
theorem zq_X0_bitFor : Cond.selects (zMy zm_X0_bitFor).cls (zMy zm_X0_bitFor) (zMy zm_X0_bitFor) ∈ ztbl := zin 2 (by decide +kernel) rfl
theorem zc_X0_init : zcal zm_X0_init 0 := ⟨zin 153 (by decide +kernel) rfl, zin 69 (by decide +kernel) rfl, ⟨by decide +kernel, by decide +kernel⟩, by decide +kernel⟩
theorem zs_X0_init : Cond.instanceMethod (zMy zm_X0_init) ∈ ztbl := zin 152 (by decide +kernel) rfl
theorem zc_X0_lay : zcal zm_X0_lay 2 := ⟨zin 301 (by decide +kernel) rfl, zin 69 (by decide +kernel) rfl, ⟨by decide +kernel, by decide +kernel⟩, by decide +kernel⟩
theorem zs_X0_lay : Cond.instanceMethod (zMy zm_X0_lay) ∈ ztbl := zin 299 (by decide +kernel) rfl
theorem zq_X0_lay : Cond.selects (zMy zm_X0_lay).cls (zMy zm_X0_lay) (zMy zm_X0_lay) ∈ ztbl := zin 300 (by decide +kernel) rfl
theorem zc_X0_stepsFor : zcal zm_X0_stepsFor 2 := ⟨zin 325 (by decide +kernel) rfl, zin 69 (by decide +kernel) rfl, ⟨by decide +kernel, by decide +kernel⟩, by decide +kernel⟩
theorem zs_X0_stepsFor : Cond.instanceMethod (zMy zm_X0_stepsFor) ∈ ztbl := zin 323 (by decide +kernel) rfl
theorem zq_X0_stepsFor : Cond.selects (zMy zm_X0_stepsFor).cls (zMy zm_X0_stepsFor) (zMy zm_X0_stepsFor) ∈ ztbl := zin 324 (by decide +kernel) rfl
theorem zc_X0_write : zcal zm_X0_write 2 := ⟨zin 312 (by decide +kernel) rfl, zin 69 (by decide +kernel) rfl, ⟨by decide +kernel, by decide +kernel⟩, by decide +kernel⟩
theorem zs_X0_write : Cond.instanceMethod (zMy zm_X0_write) ∈ ztbl := zin 310 (by decide +kernel) rfl
theorem zq_X0_write : Cond.selects (zMy zm_X0_write).cls (zMy zm_X0_write) (zMy zm_X0_write) ∈ ztbl := zin 311 (by decide +kernel) rfl
theorem zc_X1_addRow : zcal zm_X1_addRow 2 := ⟨zin 629 (by decide +kernel) rfl, zin 77 (by decide +kernel) rfl, ⟨by decide +kernel, by decide +kernel⟩, by decide +kernel⟩
theorem zs_X1_addRow : Cond.instanceMethod (zMy zm_X1_addRow) ∈ ztbl := zin 627 (by decide +kernel) rfl
theorem zq_X1_addRow : Cond.selects (zMy zm_X1_addRow).cls (zMy zm_X1_addRow) (zMy zm_X1_addRow) ∈ ztbl := zin 628 (by decide +kernel) rfl
theorem zc_X1_addTimes : zcal zm_X1_addTimes 6 := ⟨zin 560 (by decide +kernel) rfl, zin 77 (by decide +kernel) rfl, ⟨by decide +kernel, by decide +kernel⟩, by decide +kernel⟩
theorem zs_X1_addTimes : Cond.instanceMethod (zMy zm_X1_addTimes) ∈ ztbl := zin 559 (by decide +kernel) rfl
theorem zq_X1_addTimes : Cond.selects (zMy zm_X1_addTimes).cls (zMy zm_X1_addTimes) (zMy zm_X1_addTimes) ∈ ztbl := zin 11 (by decide +kernel) rfl
theorem zc_X1_begin : zcal zm_X1_begin 3 := ⟨zin 525 (by decide +kernel) rfl, zin 77 (by decide +kernel) rfl, ⟨by decide +kernel, by decide +kernel⟩, by decide +kernel⟩
theorem zs_X1_begin : Cond.instanceMethod (zMy zm_X1_begin) ∈ ztbl := zin 523 (by decide +kernel) rfl
theorem zq_X1_begin : Cond.selects (zMy zm_X1_begin).cls (zMy zm_X1_begin) (zMy zm_X1_begin) ∈ ztbl := zin 524 (by decide +kernel) rfl
theorem zc_X1_build : zcal zm_X1_build 0 := ⟨zin 541 (by decide +kernel) rfl, zin 77 (by decide +kernel) rfl, ⟨by decide +kernel, by decide +kernel⟩, by decide +kernel⟩
theorem zs_X1_build : Cond.instanceMethod (zMy zm_X1_build) ∈ ztbl := zin 539 (by decide +kernel) rfl
theorem zq_X1_build : Cond.selects (zMy zm_X1_build).cls (zMy zm_X1_build) (zMy zm_X1_build) ∈ ztbl := zin 540 (by decide +kernel) rfl
theorem zc_X1_clearColumn : zcal zm_X1_clearColumn 1 := ⟨zin 545 (by decide +kernel) rfl, zin 77 (by decide +kernel) rfl, ⟨by decide +kernel, by decide +kernel⟩, by decide +kernel⟩
theorem zs_X1_clearColumn : Cond.instanceMethod (zMy zm_X1_clearColumn) ∈ ztbl := zin 544 (by decide +kernel) rfl
theorem zq_X1_clearColumn : Cond.selects (zMy zm_X1_clearColumn).cls (zMy zm_X1_clearColumn) (zMy zm_X1_clearColumn) ∈ ztbl := zin 8 (by decide +kernel) rfl
theorem zc_X1_clearOne : zcal zm_X1_clearOne 3 := ⟨zin 553 (by decide +kernel) rfl, zin 77 (by decide +kernel) rfl, ⟨by decide +kernel, by decide +kernel⟩, by decide +kernel⟩
theorem zs_X1_clearOne : Cond.instanceMethod (zMy zm_X1_clearOne) ∈ ztbl := zin 552 (by decide +kernel) rfl
theorem zq_X1_clearOne : Cond.selects (zMy zm_X1_clearOne).cls (zMy zm_X1_clearOne) (zMy zm_X1_clearOne) ∈ ztbl := zin 10 (by decide +kernel) rfl
theorem zc_X1_columnOfElement : zcal zm_X1_columnOfElement 1 := ⟨zin 692 (by decide +kernel) rfl, zin 77 (by decide +kernel) rfl, ⟨by decide +kernel, by decide +kernel⟩, by decide +kernel⟩
theorem zs_X1_columnOfElement : Cond.instanceMethod (zMy zm_X1_columnOfElement) ∈ ztbl := zin 690 (by decide +kernel) rfl
theorem zq_X1_columnOfElement : Cond.selects (zMy zm_X1_columnOfElement).cls (zMy zm_X1_columnOfElement) (zMy zm_X1_columnOfElement) ∈ ztbl := zin 691 (by decide +kernel) rfl
theorem zc_X1_countElements : zcal zm_X1_countElements 0 := ⟨zin 676 (by decide +kernel) rfl, zin 77 (by decide +kernel) rfl, ⟨by decide +kernel, by decide +kernel⟩, by decide +kernel⟩
theorem zs_X1_countElements : Cond.instanceMethod (zMy zm_X1_countElements) ∈ ztbl := zin 674 (by decide +kernel) rfl
theorem zq_X1_countElements : Cond.selects (zMy zm_X1_countElements).cls (zMy zm_X1_countElements) (zMy zm_X1_countElements) ∈ ztbl := zin 675 (by decide +kernel) rfl
theorem zc_X1_gcd : zcal zm_X1_gcd 2 := ⟨zin 532 (by decide +kernel) rfl, zin 77 (by decide +kernel) rfl, ⟨by decide +kernel, by decide +kernel⟩, by decide +kernel⟩
theorem zs_X1_gcd : Cond.static (zMy zm_X1_gcd) ∈ ztbl := zin 531 (by decide +kernel) rfl
theorem zc_X1_init : zcal zm_X1_init 1 := ⟨zin 451 (by decide +kernel) rfl, zin 77 (by decide +kernel) rfl, ⟨by decide +kernel, by decide +kernel⟩, by decide +kernel⟩
theorem zs_X1_init : Cond.instanceMethod (zMy zm_X1_init) ∈ ztbl := zin 450 (by decide +kernel) rfl
theorem zc_X1_multiply : zcal zm_X1_multiply 3 := ⟨zin 549 (by decide +kernel) rfl, zin 77 (by decide +kernel) rfl, ⟨by decide +kernel, by decide +kernel⟩, by decide +kernel⟩
theorem zs_X1_multiply : Cond.instanceMethod (zMy zm_X1_multiply) ∈ ztbl := zin 548 (by decide +kernel) rfl
theorem zq_X1_multiply : Cond.selects (zMy zm_X1_multiply).cls (zMy zm_X1_multiply) (zMy zm_X1_multiply) ∈ ztbl := zin 9 (by decide +kernel) rfl
theorem zc_X1_orderAt : zcal zm_X1_orderAt 1 := ⟨zin 657 (by decide +kernel) rfl, zin 77 (by decide +kernel) rfl, ⟨by decide +kernel, by decide +kernel⟩, by decide +kernel⟩
theorem zs_X1_orderAt : Cond.instanceMethod (zMy zm_X1_orderAt) ∈ ztbl := zin 655 (by decide +kernel) rfl
theorem zq_X1_orderAt : Cond.selects (zMy zm_X1_orderAt).cls (zMy zm_X1_orderAt) (zMy zm_X1_orderAt) ∈ ztbl := zin 656 (by decide +kernel) rfl
theorem zc_X1_putHead : zcal zm_X1_putHead 3 := ⟨zin 537 (by decide +kernel) rfl, zin 77 (by decide +kernel) rfl, ⟨by decide +kernel, by decide +kernel⟩, by decide +kernel⟩
theorem zs_X1_putHead : Cond.instanceMethod (zMy zm_X1_putHead) ∈ ztbl := zin 535 (by decide +kernel) rfl
theorem zq_X1_putHead : Cond.selects (zMy zm_X1_putHead).cls (zMy zm_X1_putHead) (zMy zm_X1_putHead) ∈ ztbl := zin 536 (by decide +kernel) rfl
theorem zc_X1_reduce : zcal zm_X1_reduce 4 := ⟨zin 569 (by decide +kernel) rfl, zin 77 (by decide +kernel) rfl, ⟨by decide +kernel, by decide +kernel⟩, by decide +kernel⟩
theorem zs_X1_reduce : Cond.instanceMethod (zMy zm_X1_reduce) ∈ ztbl := zin 567 (by decide +kernel) rfl
theorem zq_X1_reduce : Cond.selects (zMy zm_X1_reduce).cls (zMy zm_X1_reduce) (zMy zm_X1_reduce) ∈ ztbl := zin 568 (by decide +kernel) rfl
theorem zc_X1_reduceHead : zcal zm_X1_reduceHead 1 := ⟨zin 578 (by decide +kernel) rfl, zin 77 (by decide +kernel) rfl, ⟨by decide +kernel, by decide +kernel⟩, by decide +kernel⟩
theorem zs_X1_reduceHead : Cond.instanceMethod (zMy zm_X1_reduceHead) ∈ ztbl := zin 576 (by decide +kernel) rfl
theorem zq_X1_reduceHead : Cond.selects (zMy zm_X1_reduceHead).cls (zMy zm_X1_reduceHead) (zMy zm_X1_reduceHead) ∈ ztbl := zin 577 (by decide +kernel) rfl
theorem zc_X1_settle : zcal zm_X1_settle 2 := ⟨zin 564 (by decide +kernel) rfl, zin 77 (by decide +kernel) rfl, ⟨by decide +kernel, by decide +kernel⟩, by decide +kernel⟩
theorem zs_X1_settle : Cond.instanceMethod (zMy zm_X1_settle) ∈ ztbl := zin 563 (by decide +kernel) rfl
theorem zq_X1_settle : Cond.selects (zMy zm_X1_settle).cls (zMy zm_X1_settle) (zMy zm_X1_settle) ∈ ztbl := zin 12 (by decide +kernel) rfl
theorem zc_X1_stepTail : zcal zm_X1_stepTail 1 := ⟨zin 625 (by decide +kernel) rfl, zin 77 (by decide +kernel) rfl, ⟨by decide +kernel, by decide +kernel⟩, by decide +kernel⟩
theorem zs_X1_stepTail : Cond.instanceMethod (zMy zm_X1_stepTail) ∈ ztbl := zin 623 (by decide +kernel) rfl
theorem zq_X1_stepTail : Cond.selects (zMy zm_X1_stepTail).cls (zMy zm_X1_stepTail) (zMy zm_X1_stepTail) ∈ ztbl := zin 624 (by decide +kernel) rfl
theorem zc_X1_tailOf : zcal zm_X1_tailOf 1 := ⟨zin 604 (by decide +kernel) rfl, zin 77 (by decide +kernel) rfl, ⟨by decide +kernel, by decide +kernel⟩, by decide +kernel⟩
theorem zs_X1_tailOf : Cond.instanceMethod (zMy zm_X1_tailOf) ∈ ztbl := zin 602 (by decide +kernel) rfl
theorem zq_X1_tailOf : Cond.selects (zMy zm_X1_tailOf).cls (zMy zm_X1_tailOf) (zMy zm_X1_tailOf) ∈ ztbl := zin 603 (by decide +kernel) rfl
theorem zc_X1_unitFor : zcal zm_X1_unitFor 2 := ⟨zin 529 (by decide +kernel) rfl, zin 77 (by decide +kernel) rfl, ⟨by decide +kernel, by decide +kernel⟩, by decide +kernel⟩
theorem zs_X1_unitFor : Cond.static (zMy zm_X1_unitFor) ∈ ztbl := zin 528 (by decide +kernel) rfl
theorem zc_X2_init : zcal zm_X2_init 0 := ⟨zin 172 (by decide +kernel) rfl, zin 70 (by decide +kernel) rfl, ⟨by decide +kernel, by decide +kernel⟩, by decide +kernel⟩
theorem zs_X2_init : Cond.instanceMethod (zMy zm_X2_init) ∈ ztbl := zin 171 (by decide +kernel) rfl
theorem zc_X2_note : zcal zm_X2_note 3 := ⟨zin 283 (by decide +kernel) rfl, zin 70 (by decide +kernel) rfl, ⟨by decide +kernel, by decide +kernel⟩, by decide +kernel⟩
theorem zs_X2_note : Cond.instanceMethod (zMy zm_X2_note) ∈ ztbl := zin 281 (by decide +kernel) rfl
theorem zq_X2_note : Cond.selects (zMy zm_X2_note).cls (zMy zm_X2_note) (zMy zm_X2_note) ∈ ztbl := zin 282 (by decide +kernel) rfl
theorem zc_X2_takeBack : zcal zm_X2_takeBack 1 := ⟨zin 394 (by decide +kernel) rfl, zin 70 (by decide +kernel) rfl, ⟨by decide +kernel, by decide +kernel⟩, by decide +kernel⟩
theorem zs_X2_takeBack : Cond.instanceMethod (zMy zm_X2_takeBack) ∈ ztbl := zin 392 (by decide +kernel) rfl
theorem zq_X2_takeBack : Cond.selects (zMy zm_X2_takeBack).cls (zMy zm_X2_takeBack) (zMy zm_X2_takeBack) ∈ ztbl := zin 393 (by decide +kernel) rfl
theorem zc_X3_addButton : zcal zm_X3_addButton 4 := ⟨zin 293 (by decide +kernel) rfl, zin 68 (by decide +kernel) rfl, ⟨by decide +kernel, by decide +kernel⟩, by decide +kernel⟩
theorem zs_X3_addButton : Cond.instanceMethod (zMy zm_X3_addButton) ∈ ztbl := zin 291 (by decide +kernel) rfl
theorem zq_X3_addButton : Cond.selects (zMy zm_X3_addButton).cls (zMy zm_X3_addButton) (zMy zm_X3_addButton) ∈ ztbl := zin 292 (by decide +kernel) rfl
theorem zc_X3_allBelowColours : zcal zm_X3_allBelowColours 2 := ⟨zin 840 (by decide +kernel) rfl, zin 68 (by decide +kernel) rfl, ⟨by decide +kernel, by decide +kernel⟩, by decide +kernel⟩
theorem zs_X3_allBelowColours : Cond.instanceMethod (zMy zm_X3_allBelowColours) ∈ ztbl := zin 838 (by decide +kernel) rfl
theorem zq_X3_allBelowColours : Cond.selects (zMy zm_X3_allBelowColours).cls (zMy zm_X3_allBelowColours) (zMy zm_X3_allBelowColours) ∈ ztbl := zin 839 (by decide +kernel) rfl
theorem zc_X3_chaseDown : zcal zm_X3_chaseDown 0 := ⟨zin 385 (by decide +kernel) rfl, zin 68 (by decide +kernel) rfl, ⟨by decide +kernel, by decide +kernel⟩, by decide +kernel⟩
theorem zs_X3_chaseDown : Cond.instanceMethod (zMy zm_X3_chaseDown) ∈ ztbl := zin 383 (by decide +kernel) rfl
theorem zq_X3_chaseDown : Cond.selects (zMy zm_X3_chaseDown).cls (zMy zm_X3_chaseDown) (zMy zm_X3_chaseDown) ∈ ztbl := zin 384 (by decide +kernel) rfl
theorem zc_X3_copyFrom : zcal zm_X3_copyFrom 1 := ⟨zin 406 (by decide +kernel) rfl, zin 68 (by decide +kernel) rfl, ⟨by decide +kernel, by decide +kernel⟩, by decide +kernel⟩
theorem zs_X3_copyFrom : Cond.instanceMethod (zMy zm_X3_copyFrom) ∈ ztbl := zin 404 (by decide +kernel) rfl
theorem zq_X3_copyFrom : Cond.selects (zMy zm_X3_copyFrom).cls (zMy zm_X3_copyFrom) (zMy zm_X3_copyFrom) ∈ ztbl := zin 405 (by decide +kernel) rfl
theorem zc_X3_countLit : zcal zm_X3_countLit 0 := ⟨zin 419 (by decide +kernel) rfl, zin 68 (by decide +kernel) rfl, ⟨by decide +kernel, by decide +kernel⟩, by decide +kernel⟩
theorem zs_X3_countLit : Cond.instanceMethod (zMy zm_X3_countLit) ∈ ztbl := zin 417 (by decide +kernel) rfl
theorem zq_X3_countLit : Cond.selects (zMy zm_X3_countLit).cls (zMy zm_X3_countLit) (zMy zm_X3_countLit) ∈ ztbl := zin 418 (by decide +kernel) rfl
theorem zc_X3_firstStuckPushed : zcal zm_X3_firstStuckPushed 1 := ⟨zin 844 (by decide +kernel) rfl, zin 68 (by decide +kernel) rfl, ⟨by decide +kernel, by decide +kernel⟩, by decide +kernel⟩
theorem zs_X3_firstStuckPushed : Cond.instanceMethod (zMy zm_X3_firstStuckPushed) ∈ ztbl := zin 842 (by decide +kernel) rfl
theorem zq_X3_firstStuckPushed : Cond.selects (zMy zm_X3_firstStuckPushed).cls (zMy zm_X3_firstStuckPushed) (zMy zm_X3_firstStuckPushed) ∈ ztbl := zin 843 (by decide +kernel) rfl
theorem zc_X3_hasButton : zcal zm_X3_hasButton 1 := ⟨zin 275 (by decide +kernel) rfl, zin 68 (by decide +kernel) rfl, ⟨by decide +kernel, by decide +kernel⟩, by decide +kernel⟩
theorem zs_X3_hasButton : Cond.instanceMethod (zMy zm_X3_hasButton) ∈ ztbl := zin 273 (by decide +kernel) rfl
theorem zq_X3_hasButton : Cond.selects (zMy zm_X3_hasButton).cls (zMy zm_X3_hasButton) (zMy zm_X3_hasButton) ∈ ztbl := zin 274 (by decide +kernel) rfl
theorem zc_X3_hasLamp : zcal zm_X3_hasLamp 1 := ⟨zin 267 (by decide +kernel) rfl, zin 68 (by decide +kernel) rfl, ⟨by decide +kernel, by decide +kernel⟩, by decide +kernel⟩
theorem zs_X3_hasLamp : Cond.instanceMethod (zMy zm_X3_hasLamp) ∈ ztbl := zin 265 (by decide +kernel) rfl
theorem zq_X3_hasLamp : Cond.selects (zMy zm_X3_hasLamp).cls (zMy zm_X3_hasLamp) (zMy zm_X3_hasLamp) ∈ ztbl := zin 266 (by decide +kernel) rfl
theorem zc_X3_hasLine : zcal zm_X3_hasLine 1 := ⟨zin 271 (by decide +kernel) rfl, zin 68 (by decide +kernel) rfl, ⟨by decide +kernel, by decide +kernel⟩, by decide +kernel⟩
theorem zs_X3_hasLine : Cond.instanceMethod (zMy zm_X3_hasLine) ∈ ztbl := zin 269 (by decide +kernel) rfl
theorem zq_X3_hasLine : Cond.selects (zMy zm_X3_hasLine).cls (zMy zm_X3_hasLine) (zMy zm_X3_hasLine) ∈ ztbl := zin 270 (by decide +kernel) rfl
theorem zc_X3_init : zcal zm_X3_init 0 := ⟨zin 91 (by decide +kernel) rfl, zin 68 (by decide +kernel) rfl, ⟨by decide +kernel, by decide +kernel⟩, by decide +kernel⟩
theorem zs_X3_init : Cond.instanceMethod (zMy zm_X3_init) ∈ ztbl := zin 90 (by decide +kernel) rfl
theorem zc_X3_isAllCrosses : zcal zm_X3_isAllCrosses 0 := ⟨zin 381 (by decide +kernel) rfl, zin 68 (by decide +kernel) rfl, ⟨by decide +kernel, by decide +kernel⟩, by decide +kernel⟩
theorem zs_X3_isAllCrosses : Cond.instanceMethod (zMy zm_X3_isAllCrosses) ∈ ztbl := zin 379 (by decide +kernel) rfl
theorem zq_X3_isAllCrosses : Cond.selects (zMy zm_X3_isAllCrosses).cls (zMy zm_X3_isAllCrosses) (zMy zm_X3_isAllCrosses) ∈ ztbl := zin 380 (by decide +kernel) rfl
theorem zc_X3_isInCross : zcal zm_X3_isInCross 2 := ⟨zin 366 (by decide +kernel) rfl, zin 68 (by decide +kernel) rfl, ⟨by decide +kernel, by decide +kernel⟩, by decide +kernel⟩
theorem zs_X3_isInCross : Cond.instanceMethod (zMy zm_X3_isInCross) ∈ ztbl := zin 365 (by decide +kernel) rfl
theorem zq_X3_isInCross : Cond.selects (zMy zm_X3_isInCross).cls (zMy zm_X3_isInCross) (zMy zm_X3_isInCross) ∈ ztbl := zin 5 (by decide +kernel) rfl
theorem zc_X3_isOnLine : zcal zm_X3_isOnLine 2 := ⟨zin 362 (by decide +kernel) rfl, zin 68 (by decide +kernel) rfl, ⟨by decide +kernel, by decide +kernel⟩, by decide +kernel⟩
theorem zs_X3_isOnLine : Cond.instanceMethod (zMy zm_X3_isOnLine) ∈ ztbl := zin 361 (by decide +kernel) rfl
theorem zq_X3_isOnLine : Cond.selects (zMy zm_X3_isOnLine).cls (zMy zm_X3_isOnLine) (zMy zm_X3_isOnLine) ∈ ztbl := zin 4 (by decide +kernel) rfl
theorem zc_X3_isPushing : zcal zm_X3_isPushing 2 := ⟨zin 836 (by decide +kernel) rfl, zin 68 (by decide +kernel) rfl, ⟨by decide +kernel, by decide +kernel⟩, by decide +kernel⟩
theorem zs_X3_isPushing : Cond.instanceMethod (zMy zm_X3_isPushing) ∈ ztbl := zin 834 (by decide +kernel) rfl
theorem zq_X3_isPushing : Cond.selects (zMy zm_X3_isPushing).cls (zMy zm_X3_isPushing) (zMy zm_X3_isPushing) ∈ ztbl := zin 835 (by decide +kernel) rfl
theorem zc_X3_makeNew : zcal zm_X3_makeNew 3 := ⟨zin 248 (by decide +kernel) rfl, zin 68 (by decide +kernel) rfl, ⟨by decide +kernel, by decide +kernel⟩, by decide +kernel⟩
theorem zs_X3_makeNew : Cond.instanceMethod (zMy zm_X3_makeNew) ∈ ztbl := zin 246 (by decide +kernel) rfl
theorem zq_X3_makeNew : Cond.selects (zMy zm_X3_makeNew).cls (zMy zm_X3_makeNew) (zMy zm_X3_makeNew) ∈ ztbl := zin 247 (by decide +kernel) rfl
theorem zc_X3_ownStepAt : zcal zm_X3_ownStepAt 2 := ⟨zin 358 (by decide +kernel) rfl, zin 68 (by decide +kernel) rfl, ⟨by decide +kernel, by decide +kernel⟩, by decide +kernel⟩
theorem zs_X3_ownStepAt : Cond.instanceMethod (zMy zm_X3_ownStepAt) ∈ ztbl := zin 357 (by decide +kernel) rfl
theorem zq_X3_ownStepAt : Cond.selects (zMy zm_X3_ownStepAt).cls (zMy zm_X3_ownStepAt) (zMy zm_X3_ownStepAt) ∈ ztbl := zin 3 (by decide +kernel) rfl
theorem zc_X3_patternAt : zcal zm_X3_patternAt 2 := ⟨zin 852 (by decide +kernel) rfl, zin 68 (by decide +kernel) rfl, ⟨by decide +kernel, by decide +kernel⟩, by decide +kernel⟩
theorem zs_X3_patternAt : Cond.instanceMethod (zMy zm_X3_patternAt) ∈ ztbl := zin 850 (by decide +kernel) rfl
theorem zq_X3_patternAt : Cond.selects (zMy zm_X3_patternAt).cls (zMy zm_X3_patternAt) (zMy zm_X3_patternAt) ∈ ztbl := zin 851 (by decide +kernel) rfl
theorem zc_X3_pushAll : zcal zm_X3_pushAll 1 := ⟨zin 848 (by decide +kernel) rfl, zin 68 (by decide +kernel) rfl, ⟨by decide +kernel, by decide +kernel⟩, by decide +kernel⟩
theorem zs_X3_pushAll : Cond.instanceMethod (zMy zm_X3_pushAll) ∈ ztbl := zin 846 (by decide +kernel) rfl
theorem zq_X3_pushAll : Cond.selects (zMy zm_X3_pushAll).cls (zMy zm_X3_pushAll) (zMy zm_X3_pushAll) ∈ ztbl := zin 847 (by decide +kernel) rfl
theorem zc_X3_pushOne : zcal zm_X3_pushOne 2 := ⟨zin 350 (by decide +kernel) rfl, zin 68 (by decide +kernel) rfl, ⟨by decide +kernel, by decide +kernel⟩, by decide +kernel⟩
theorem zs_X3_pushOne : Cond.instanceMethod (zMy zm_X3_pushOne) ∈ ztbl := zin 348 (by decide +kernel) rfl
theorem zq_X3_pushOne : Cond.selects (zMy zm_X3_pushOne).cls (zMy zm_X3_pushOne) (zMy zm_X3_pushOne) ∈ ztbl := zin 349 (by decide +kernel) rfl
theorem zc_X3_removeLastButton : zcal zm_X3_removeLastButton 0 := ⟨zin 398 (by decide +kernel) rfl, zin 68 (by decide +kernel) rfl, ⟨by decide +kernel, by decide +kernel⟩, by decide +kernel⟩
theorem zs_X3_removeLastButton : Cond.instanceMethod (zMy zm_X3_removeLastButton) ∈ ztbl := zin 396 (by decide +kernel) rfl
theorem zq_X3_removeLastButton : Cond.selects (zMy zm_X3_removeLastButton).cls (zMy zm_X3_removeLastButton) (zMy zm_X3_removeLastButton) ∈ ztbl := zin 397 (by decide +kernel) rfl
theorem zc_X3_stepAt : zcal zm_X3_stepAt 2 := ⟨zin 354 (by decide +kernel) rfl, zin 68 (by decide +kernel) rfl, ⟨by decide +kernel, by decide +kernel⟩, by decide +kernel⟩
theorem zs_X3_stepAt : Cond.instanceMethod (zMy zm_X3_stepAt) ∈ ztbl := zin 352 (by decide +kernel) rfl
theorem zq_X3_stepAt : Cond.selects (zMy zm_X3_stepAt).cls (zMy zm_X3_stepAt) (zMy zm_X3_stepAt) ∈ ztbl := zin 353 (by decide +kernel) rfl
theorem zc_X3_sumShown : zcal zm_X3_sumShown 0 := ⟨zin 423 (by decide +kernel) rfl, zin 68 (by decide +kernel) rfl, ⟨by decide +kernel, by decide +kernel⟩, by decide +kernel⟩
theorem zs_X3_sumShown : Cond.instanceMethod (zMy zm_X3_sumShown) ∈ ztbl := zin 421 (by decide +kernel) rfl
theorem zq_X3_sumShown : Cond.selects (zMy zm_X3_sumShown).cls (zMy zm_X3_sumShown) (zMy zm_X3_sumShown) ∈ ztbl := zin 422 (by decide +kernel) rfl
theorem zc_X3_takesButton : zcal zm_X3_takesButton 4 := ⟨zin 263 (by decide +kernel) rfl, zin 68 (by decide +kernel) rfl, ⟨by decide +kernel, by decide +kernel⟩, by decide +kernel⟩
theorem zs_X3_takesButton : Cond.instanceMethod (zMy zm_X3_takesButton) ∈ ztbl := zin 261 (by decide +kernel) rfl
theorem zq_X3_takesButton : Cond.selects (zMy zm_X3_takesButton).cls (zMy zm_X3_takesButton) (zMy zm_X3_takesButton) ∈ ztbl := zin 262 (by decide +kernel) rfl
theorem zc_X3_turn : zcal zm_X3_turn 2 := ⟨zin 373 (by decide +kernel) rfl, zin 68 (by decide +kernel) rfl, ⟨by decide +kernel, by decide +kernel⟩, by decide +kernel⟩
theorem zs_X3_turn : Cond.instanceMethod (zMy zm_X3_turn) ∈ ztbl := zin 372 (by decide +kernel) rfl
theorem zq_X3_turn : Cond.selects (zMy zm_X3_turn).cls (zMy zm_X3_turn) (zMy zm_X3_turn) ∈ ztbl := zin 6 (by decide +kernel) rfl
theorem zc_X3_weighShown : zcal zm_X3_weighShown 2 := ⟨zin 608 (by decide +kernel) rfl, zin 68 (by decide +kernel) rfl, ⟨by decide +kernel, by decide +kernel⟩, by decide +kernel⟩
theorem zs_X3_weighShown : Cond.instanceMethod (zMy zm_X3_weighShown) ∈ ztbl := zin 606 (by decide +kernel) rfl
theorem zq_X3_weighShown : Cond.selects (zMy zm_X3_weighShown).cls (zMy zm_X3_weighShown) (zMy zm_X3_weighShown) ∈ ztbl := zin 607 (by decide +kernel) rfl
theorem zc_X3_weighSteps : zcal zm_X3_weighSteps 2 := ⟨zin 875 (by decide +kernel) rfl, zin 68 (by decide +kernel) rfl, ⟨by decide +kernel, by decide +kernel⟩, by decide +kernel⟩
theorem zs_X3_weighSteps : Cond.instanceMethod (zMy zm_X3_weighSteps) ∈ ztbl := zin 873 (by decide +kernel) rfl
theorem zq_X3_weighSteps : Cond.selects (zMy zm_X3_weighSteps).cls (zMy zm_X3_weighSteps) (zMy zm_X3_weighSteps) ∈ ztbl := zin 874 (by decide +kernel) rfl
theorem zc_X3_wireTo : zcal zm_X3_wireTo 2 := ⟨zin 321 (by decide +kernel) rfl, zin 68 (by decide +kernel) rfl, ⟨by decide +kernel, by decide +kernel⟩, by decide +kernel⟩
theorem zs_X3_wireTo : Cond.instanceMethod (zMy zm_X3_wireTo) ∈ ztbl := zin 319 (by decide +kernel) rfl
theorem zq_X3_wireTo : Cond.selects (zMy zm_X3_wireTo).cls (zMy zm_X3_wireTo) (zMy zm_X3_wireTo) ∈ ztbl := zin 320 (by decide +kernel) rfl
theorem zc_X4_begin : zcal zm_X4_begin 1 := ⟨zin 765 (by decide +kernel) rfl, zin 78 (by decide +kernel) rfl, ⟨by decide +kernel, by decide +kernel⟩, by decide +kernel⟩
theorem zs_X4_begin : Cond.instanceMethod (zMy zm_X4_begin) ∈ ztbl := zin 763 (by decide +kernel) rfl
theorem zq_X4_begin : Cond.selects (zMy zm_X4_begin).cls (zMy zm_X4_begin) (zMy zm_X4_begin) ∈ ztbl := zin 764 (by decide +kernel) rfl
theorem zc_X4_costOf : zcal zm_X4_costOf 3 := ⟨zin 781 (by decide +kernel) rfl, zin 78 (by decide +kernel) rfl, ⟨by decide +kernel, by decide +kernel⟩, by decide +kernel⟩
theorem zs_X4_costOf : Cond.instanceMethod (zMy zm_X4_costOf) ∈ ztbl := zin 780 (by decide +kernel) rfl
theorem zq_X4_costOf : Cond.selects (zMy zm_X4_costOf).cls (zMy zm_X4_costOf) (zMy zm_X4_costOf) ∈ ztbl := zin 18 (by decide +kernel) rfl
theorem zc_X4_endOf : zcal zm_X4_endOf 1 := ⟨zin 777 (by decide +kernel) rfl, zin 78 (by decide +kernel) rfl, ⟨by decide +kernel, by decide +kernel⟩, by decide +kernel⟩
theorem zs_X4_endOf : Cond.instanceMethod (zMy zm_X4_endOf) ∈ ztbl := zin 776 (by decide +kernel) rfl
theorem zq_X4_endOf : Cond.selects (zMy zm_X4_endOf).cls (zMy zm_X4_endOf) (zMy zm_X4_endOf) ∈ ztbl := zin 17 (by decide +kernel) rfl
theorem zc_X4_explore : zcal zm_X4_explore 3 := ⟨zin 790 (by decide +kernel) rfl, zin 78 (by decide +kernel) rfl, ⟨by decide +kernel, by decide +kernel⟩, by decide +kernel⟩
theorem zs_X4_explore : Cond.static (zMy zm_X4_explore) ∈ ztbl := zin 789 (by decide +kernel) rfl
theorem zc_X4_findCheapest : zcal zm_X4_findCheapest 2 := ⟨zin 785 (by decide +kernel) rfl, zin 78 (by decide +kernel) rfl, ⟨by decide +kernel, by decide +kernel⟩, by decide +kernel⟩
theorem zs_X4_findCheapest : Cond.instanceMethod (zMy zm_X4_findCheapest) ∈ ztbl := zin 784 (by decide +kernel) rfl
theorem zq_X4_findCheapest : Cond.selects (zMy zm_X4_findCheapest).cls (zMy zm_X4_findCheapest) (zMy zm_X4_findCheapest) ∈ ztbl := zin 19 (by decide +kernel) rfl
theorem zc_X4_findCheapestFor : zcal zm_X4_findCheapestFor 1 := ⟨zin 773 (by decide +kernel) rfl, zin 78 (by decide +kernel) rfl, ⟨by decide +kernel, by decide +kernel⟩, by decide +kernel⟩
theorem zs_X4_findCheapestFor : Cond.instanceMethod (zMy zm_X4_findCheapestFor) ∈ ztbl := zin 771 (by decide +kernel) rfl
theorem zq_X4_findCheapestFor : Cond.selects (zMy zm_X4_findCheapestFor).cls (zMy zm_X4_findCheapestFor) (zMy zm_X4_findCheapestFor) ∈ ztbl := zin 772 (by decide +kernel) rfl
theorem zc_X4_findHardest : zcal zm_X4_findHardest 0 := ⟨zin 813 (by decide +kernel) rfl, zin 78 (by decide +kernel) rfl, ⟨by decide +kernel, by decide +kernel⟩, by decide +kernel⟩
theorem zs_X4_findHardest : Cond.instanceMethod (zMy zm_X4_findHardest) ∈ ztbl := zin 811 (by decide +kernel) rfl
theorem zq_X4_findHardest : Cond.selects (zMy zm_X4_findHardest).cls (zMy zm_X4_findHardest) (zMy zm_X4_findHardest) ∈ ztbl := zin 812 (by decide +kernel) rfl
theorem zc_X4_init : zcal zm_X4_init 2 := ⟨zin 720 (by decide +kernel) rfl, zin 78 (by decide +kernel) rfl, ⟨by decide +kernel, by decide +kernel⟩, by decide +kernel⟩
theorem zs_X4_init : Cond.instanceMethod (zMy zm_X4_init) ∈ ztbl := zin 719 (by decide +kernel) rfl
theorem zc_X4_isPickedAhead : zcal zm_X4_isPickedAhead 0 := ⟨zin 824 (by decide +kernel) rfl, zin 78 (by decide +kernel) rfl, ⟨by decide +kernel, by decide +kernel⟩, by decide +kernel⟩
theorem zs_X4_isPickedAhead : Cond.instanceMethod (zMy zm_X4_isPickedAhead) ∈ ztbl := zin 823 (by decide +kernel) rfl
theorem zq_X4_isPickedAhead : Cond.selects (zMy zm_X4_isPickedAhead).cls (zMy zm_X4_isPickedAhead) (zMy zm_X4_isPickedAhead) ∈ ztbl := zin 22 (by decide +kernel) rfl
theorem zc_X4_pickFrom : zcal zm_X4_pickFrom 3 := ⟨zin 816 (by decide +kernel) rfl, zin 78 (by decide +kernel) rfl, ⟨by decide +kernel, by decide +kernel⟩, by decide +kernel⟩
theorem zs_X4_pickFrom : Cond.static (zMy zm_X4_pickFrom) ∈ ztbl := zin 815 (by decide +kernel) rfl
theorem zc_X4_pickedAt : zcal zm_X4_pickedAt 1 := ⟨zin 828 (by decide +kernel) rfl, zin 78 (by decide +kernel) rfl, ⟨by decide +kernel, by decide +kernel⟩, by decide +kernel⟩
theorem zs_X4_pickedAt : Cond.instanceMethod (zMy zm_X4_pickedAt) ∈ ztbl := zin 827 (by decide +kernel) rfl
theorem zq_X4_pickedAt : Cond.selects (zMy zm_X4_pickedAt).cls (zMy zm_X4_pickedAt) (zMy zm_X4_pickedAt) ∈ ztbl := zin 23 (by decide +kernel) rfl
theorem zc_X4_putPrice : zcal zm_X4_putPrice 2 := ⟨zin 769 (by decide +kernel) rfl, zin 78 (by decide +kernel) rfl, ⟨by decide +kernel, by decide +kernel⟩, by decide +kernel⟩
theorem zs_X4_putPrice : Cond.instanceMethod (zMy zm_X4_putPrice) ∈ ztbl := zin 767 (by decide +kernel) rfl
theorem zq_X4_putPrice : Cond.selects (zMy zm_X4_putPrice).cls (zMy zm_X4_putPrice) (zMy zm_X4_putPrice) ∈ ztbl := zin 768 (by decide +kernel) rfl
theorem zc_X4_takeFound : zcal zm_X4_takeFound 1 := ⟨zin 794 (by decide +kernel) rfl, zin 78 (by decide +kernel) rfl, ⟨by decide +kernel, by decide +kernel⟩, by decide +kernel⟩
theorem zs_X4_takeFound : Cond.instanceMethod (zMy zm_X4_takeFound) ∈ ztbl := zin 793 (by decide +kernel) rfl
theorem zq_X4_takeFound : Cond.selects (zMy zm_X4_takeFound).cls (zMy zm_X4_takeFound) (zMy zm_X4_takeFound) ∈ ztbl := zin 20 (by decide +kernel) rfl
theorem zc_X4_takePicked : zcal zm_X4_takePicked 1 := ⟨zin 820 (by decide +kernel) rfl, zin 78 (by decide +kernel) rfl, ⟨by decide +kernel, by decide +kernel⟩, by decide +kernel⟩
theorem zs_X4_takePicked : Cond.instanceMethod (zMy zm_X4_takePicked) ∈ ztbl := zin 819 (by decide +kernel) rfl
theorem zq_X4_takePicked : Cond.selects (zMy zm_X4_takePicked).cls (zMy zm_X4_takePicked) (zMy zm_X4_takePicked) ∈ ztbl := zin 21 (by decide +kernel) rfl
theorem zc_X5_countQuiet : zcal zm_X5_countQuiet 0 := ⟨zin 672 (by decide +kernel) rfl, zin 76 (by decide +kernel) rfl, ⟨by decide +kernel, by decide +kernel⟩, by decide +kernel⟩
theorem zs_X5_countQuiet : Cond.instanceMethod (zMy zm_X5_countQuiet) ∈ ztbl := zin 670 (by decide +kernel) rfl
theorem zq_X5_countQuiet : Cond.selects (zMy zm_X5_countQuiet).cls (zMy zm_X5_countQuiet) (zMy zm_X5_countQuiet) ∈ ztbl := zin 671 (by decide +kernel) rfl
theorem zc_X5_countWeights : zcal zm_X5_countWeights 0 := ⟨zin 680 (by decide +kernel) rfl, zin 76 (by decide +kernel) rfl, ⟨by decide +kernel, by decide +kernel⟩, by decide +kernel⟩
theorem zs_X5_countWeights : Cond.instanceMethod (zMy zm_X5_countWeights) ∈ ztbl := zin 678 (by decide +kernel) rfl
theorem zq_X5_countWeights : Cond.selects (zMy zm_X5_countWeights).cls (zMy zm_X5_countWeights) (zMy zm_X5_countWeights) ∈ ztbl := zin 679 (by decide +kernel) rfl
theorem zc_X5_freshSearch : zcal zm_X5_freshSearch 0 := ⟨zin 715 (by decide +kernel) rfl, zin 76 (by decide +kernel) rfl, ⟨by decide +kernel, by decide +kernel⟩, by decide +kernel⟩
theorem zs_X5_freshSearch : Cond.instanceMethod (zMy zm_X5_freshSearch) ∈ ztbl := zin 714 (by decide +kernel) rfl
theorem zq_X5_freshSearch : Cond.selects (zMy zm_X5_freshSearch).cls (zMy zm_X5_freshSearch) (zMy zm_X5_freshSearch) ∈ ztbl := zin 16 (by decide +kernel) rfl
theorem zc_X5_freshWeights : zcal zm_X5_freshWeights 0 := ⟨zin 600 (by decide +kernel) rfl, zin 76 (by decide +kernel) rfl, ⟨by decide +kernel, by decide +kernel⟩, by decide +kernel⟩
theorem zs_X5_freshWeights : Cond.instanceMethod (zMy zm_X5_freshWeights) ∈ ztbl := zin 599 (by decide +kernel) rfl
theorem zq_X5_freshWeights : Cond.selects (zMy zm_X5_freshWeights).cls (zMy zm_X5_freshWeights) (zMy zm_X5_freshWeights) ∈ ztbl := zin 14 (by decide +kernel) rfl
theorem zc_X5_goOn : zcal zm_X5_goOn 1 := ⟨zin 621 (by decide +kernel) rfl, zin 76 (by decide +kernel) rfl, ⟨by decide +kernel, by decide +kernel⟩, by decide +kernel⟩
theorem zs_X5_goOn : Cond.instanceMethod (zMy zm_X5_goOn) ∈ ztbl := zin 619 (by decide +kernel) rfl
theorem zq_X5_goOn : Cond.selects (zMy zm_X5_goOn).cls (zMy zm_X5_goOn) (zMy zm_X5_goOn) ∈ ztbl := zin 620 (by decide +kernel) rfl
theorem zc_X5_hasManyPushings : zcal zm_X5_hasManyPushings 0 := ⟨zin 805 (by decide +kernel) rfl, zin 76 (by decide +kernel) rfl, ⟨by decide +kernel, by decide +kernel⟩, by decide +kernel⟩
theorem zs_X5_hasManyPushings : Cond.instanceMethod (zMy zm_X5_hasManyPushings) ∈ ztbl := zin 803 (by decide +kernel) rfl
theorem zq_X5_hasManyPushings : Cond.selects (zMy zm_X5_hasManyPushings).cls (zMy zm_X5_hasManyPushings) (zMy zm_X5_hasManyPushings) ∈ ztbl := zin 804 (by decide +kernel) rfl
theorem zc_X5_hasManyQuiet : zcal zm_X5_hasManyQuiet 0 := ⟨zin 705 (by decide +kernel) rfl, zin 76 (by decide +kernel) rfl, ⟨by decide +kernel, by decide +kernel⟩, by decide +kernel⟩
theorem zs_X5_hasManyQuiet : Cond.instanceMethod (zMy zm_X5_hasManyQuiet) ∈ ztbl := zin 703 (by decide +kernel) rfl
theorem zq_X5_hasManyQuiet : Cond.selects (zMy zm_X5_hasManyQuiet).cls (zMy zm_X5_hasManyQuiet) (zMy zm_X5_hasManyQuiet) ∈ ztbl := zin 704 (by decide +kernel) rfl
theorem zc_X5_howOften : zcal zm_X5_howOften 2 := ⟨zin 649 (by decide +kernel) rfl, zin 76 (by decide +kernel) rfl, ⟨by decide +kernel, by decide +kernel⟩, by decide +kernel⟩
theorem zs_X5_howOften : Cond.static (zMy zm_X5_howOften) ∈ ztbl := zin 648 (by decide +kernel) rfl
theorem zc_X5_init : zcal zm_X5_init 1 := ⟨zin 445 (by decide +kernel) rfl, zin 76 (by decide +kernel) rfl, ⟨by decide +kernel, by decide +kernel⟩, by decide +kernel⟩
theorem zs_X5_init : Cond.instanceMethod (zMy zm_X5_init) ∈ ztbl := zin 444 (by decide +kernel) rfl
theorem zc_X5_primesOfAll : zcal zm_X5_primesOfAll 1 := ⟨zin 646 (by decide +kernel) rfl, zin 76 (by decide +kernel) rfl, ⟨by decide +kernel, by decide +kernel⟩, by decide +kernel⟩
theorem zs_X5_primesOfAll : Cond.instanceMethod (zMy zm_X5_primesOfAll) ∈ ztbl := zin 644 (by decide +kernel) rfl
theorem zq_X5_primesOfAll : Cond.selects (zMy zm_X5_primesOfAll).cls (zMy zm_X5_primesOfAll) (zMy zm_X5_primesOfAll) ∈ ztbl := zin 645 (by decide +kernel) rfl
theorem zc_X5_primesOfPatterns : zcal zm_X5_primesOfPatterns 1 := ⟨zin 642 (by decide +kernel) rfl, zin 76 (by decide +kernel) rfl, ⟨by decide +kernel, by decide +kernel⟩, by decide +kernel⟩
theorem zs_X5_primesOfPatterns : Cond.instanceMethod (zMy zm_X5_primesOfPatterns) ∈ ztbl := zin 640 (by decide +kernel) rfl
theorem zq_X5_primesOfPatterns : Cond.selects (zMy zm_X5_primesOfPatterns).cls (zMy zm_X5_primesOfPatterns) (zMy zm_X5_primesOfPatterns) ∈ ztbl := zin 641 (by decide +kernel) rfl
theorem zc_X5_primesOfQuiet : zcal zm_X5_primesOfQuiet 1 := ⟨zin 653 (by decide +kernel) rfl, zin 76 (by decide +kernel) rfl, ⟨by decide +kernel, by decide +kernel⟩, by decide +kernel⟩
theorem zs_X5_primesOfQuiet : Cond.instanceMethod (zMy zm_X5_primesOfQuiet) ∈ ztbl := zin 651 (by decide +kernel) rfl
theorem zq_X5_primesOfQuiet : Cond.selects (zMy zm_X5_primesOfQuiet).cls (zMy zm_X5_primesOfQuiet) (zMy zm_X5_primesOfQuiet) ∈ ztbl := zin 652 (by decide +kernel) rfl
theorem zc_X5_primesOfWeights : zcal zm_X5_primesOfWeights 1 := ⟨zin 663 (by decide +kernel) rfl, zin 76 (by decide +kernel) rfl, ⟨by decide +kernel, by decide +kernel⟩, by decide +kernel⟩
theorem zs_X5_primesOfWeights : Cond.instanceMethod (zMy zm_X5_primesOfWeights) ∈ ztbl := zin 661 (by decide +kernel) rfl
theorem zq_X5_primesOfWeights : Cond.selects (zMy zm_X5_primesOfWeights).cls (zMy zm_X5_primesOfWeights) (zMy zm_X5_primesOfWeights) ∈ ztbl := zin 662 (by decide +kernel) rfl
theorem zc_X5_refresh : zcal zm_X5_refresh 0 := ⟨zin 521 (by decide +kernel) rfl, zin 76 (by decide +kernel) rfl, ⟨by decide +kernel, by decide +kernel⟩, by decide +kernel⟩
theorem zs_X5_refresh : Cond.instanceMethod (zMy zm_X5_refresh) ∈ ztbl := zin 519 (by decide +kernel) rfl
theorem zq_X5_refresh : Cond.selects (zMy zm_X5_refresh).cls (zMy zm_X5_refresh) (zMy zm_X5_refresh) ∈ ztbl := zin 520 (by decide +kernel) rfl
theorem zc_X5_solve : zcal zm_X5_solve 0 := ⟨zin 573 (by decide +kernel) rfl, zin 76 (by decide +kernel) rfl, ⟨by decide +kernel, by decide +kernel⟩, by decide +kernel⟩
theorem zs_X5_solve : Cond.instanceMethod (zMy zm_X5_solve) ∈ ztbl := zin 571 (by decide +kernel) rfl
theorem zq_X5_solve : Cond.selects (zMy zm_X5_solve).cls (zMy zm_X5_solve) (zMy zm_X5_solve) ∈ ztbl := zin 572 (by decide +kernel) rfl
theorem zc_X5_tellByLamps : zcal zm_X5_tellByLamps 3 := ⟨zin 612 (by decide +kernel) rfl, zin 76 (by decide +kernel) rfl, ⟨by decide +kernel, by decide +kernel⟩, by decide +kernel⟩
theorem zs_X5_tellByLamps : Cond.instanceMethod (zMy zm_X5_tellByLamps) ∈ ztbl := zin 611 (by decide +kernel) rfl
theorem zq_X5_tellByLamps : Cond.selects (zMy zm_X5_tellByLamps).cls (zMy zm_X5_tellByLamps) (zMy zm_X5_tellByLamps) ∈ ztbl := zin 15 (by decide +kernel) rfl
theorem zc_X5_tellLeast : zcal zm_X5_tellLeast 1 := ⟨zin 711 (by decide +kernel) rfl, zin 76 (by decide +kernel) rfl, ⟨by decide +kernel, by decide +kernel⟩, by decide +kernel⟩
theorem zs_X5_tellLeast : Cond.instanceMethod (zMy zm_X5_tellLeast) ∈ ztbl := zin 709 (by decide +kernel) rfl
theorem zq_X5_tellLeast : Cond.selects (zMy zm_X5_tellLeast).cls (zMy zm_X5_tellLeast) (zMy zm_X5_tellLeast) ∈ ztbl := zin 710 (by decide +kernel) rfl
theorem zc_X5_tellPushing : zcal zm_X5_tellPushing 1 := ⟨zin 583 (by decide +kernel) rfl, zin 76 (by decide +kernel) rfl, ⟨by decide +kernel, by decide +kernel⟩, by decide +kernel⟩
theorem zs_X5_tellPushing : Cond.instanceMethod (zMy zm_X5_tellPushing) ∈ ztbl := zin 581 (by decide +kernel) rfl
theorem zq_X5_tellPushing : Cond.selects (zMy zm_X5_tellPushing).cls (zMy zm_X5_tellPushing) (zMy zm_X5_tellPushing) ∈ ztbl := zin 582 (by decide +kernel) rfl
theorem zc_X5_tellQuiet : zcal zm_X5_tellQuiet 2 := ⟨zin 688 (by decide +kernel) rfl, zin 76 (by decide +kernel) rfl, ⟨by decide +kernel, by decide +kernel⟩, by decide +kernel⟩
theorem zs_X5_tellQuiet : Cond.instanceMethod (zMy zm_X5_tellQuiet) ∈ ztbl := zin 686 (by decide +kernel) rfl
theorem zq_X5_tellQuiet : Cond.selects (zMy zm_X5_tellQuiet).cls (zMy zm_X5_tellQuiet) (zMy zm_X5_tellQuiet) ∈ ztbl := zin 687 (by decide +kernel) rfl
theorem zc_X5_tellTail : zcal zm_X5_tellTail 2 := ⟨zin 587 (by decide +kernel) rfl, zin 76 (by decide +kernel) rfl, ⟨by decide +kernel, by decide +kernel⟩, by decide +kernel⟩
theorem zs_X5_tellTail : Cond.instanceMethod (zMy zm_X5_tellTail) ∈ ztbl := zin 586 (by decide +kernel) rfl
theorem zq_X5_tellTail : Cond.selects (zMy zm_X5_tellTail).cls (zMy zm_X5_tellTail) (zMy zm_X5_tellTail) ∈ ztbl := zin 13 (by decide +kernel) rfl
theorem zc_X5_tellWeights : zcal zm_X5_tellWeights 2 := ⟨zin 696 (by decide +kernel) rfl, zin 76 (by decide +kernel) rfl, ⟨by decide +kernel, by decide +kernel⟩, by decide +kernel⟩
theorem zs_X5_tellWeights : Cond.instanceMethod (zMy zm_X5_tellWeights) ∈ ztbl := zin 694 (by decide +kernel) rfl
theorem zq_X5_tellWeights : Cond.selects (zMy zm_X5_tellWeights).cls (zMy zm_X5_tellWeights) (zMy zm_X5_tellWeights) ∈ ztbl := zin 695 (by decide +kernel) rfl
theorem zc_X5_tellWhy : zcal zm_X5_tellWhy 1 := ⟨zin 596 (by decide +kernel) rfl, zin 76 (by decide +kernel) rfl, ⟨by decide +kernel, by decide +kernel⟩, by decide +kernel⟩
theorem zs_X5_tellWhy : Cond.instanceMethod (zMy zm_X5_tellWhy) ∈ ztbl := zin 594 (by decide +kernel) rfl
theorem zq_X5_tellWhy : Cond.selects (zMy zm_X5_tellWhy).cls (zMy zm_X5_tellWhy) (zMy zm_X5_tellWhy) ∈ ztbl := zin 595 (by decide +kernel) rfl
theorem zc_X5_tellWorst : zcal zm_X5_tellWorst 1 := ⟨zin 809 (by decide +kernel) rfl, zin 76 (by decide +kernel) rfl, ⟨by decide +kernel, by decide +kernel⟩, by decide +kernel⟩
theorem zs_X5_tellWorst : Cond.instanceMethod (zMy zm_X5_tellWorst) ∈ ztbl := zin 807 (by decide +kernel) rfl
theorem zq_X5_tellWorst : Cond.selects (zMy zm_X5_tellWorst).cls (zMy zm_X5_tellWorst) (zMy zm_X5_tellWorst) ∈ ztbl := zin 808 (by decide +kernel) rfl
theorem zc_X6_begin : zcal zm_X6_begin 2 := ⟨zin 591 (by decide +kernel) rfl, zin 71 (by decide +kernel) rfl, ⟨by decide +kernel, by decide +kernel⟩, by decide +kernel⟩
theorem zs_X6_begin : Cond.instanceMethod (zMy zm_X6_begin) ∈ ztbl := zin 589 (by decide +kernel) rfl
theorem zq_X6_begin : Cond.selects (zMy zm_X6_begin).cls (zMy zm_X6_begin) (zMy zm_X6_begin) ∈ ztbl := zin 590 (by decide +kernel) rfl
theorem zc_X6_init : zcal zm_X6_init 0 := ⟨zin 195 (by decide +kernel) rfl, zin 71 (by decide +kernel) rfl, ⟨by decide +kernel, by decide +kernel⟩, by decide +kernel⟩
theorem zs_X6_init : Cond.instanceMethod (zMy zm_X6_init) ∈ ztbl := zin 194 (by decide +kernel) rfl
theorem zc_X7_apply : zcal zm_X7_apply 0 := ⟨zin 832 (by decide +kernel) rfl, zin 67 (by decide +kernel) rfl, ⟨by decide +kernel, by decide +kernel⟩, by decide +kernel⟩
theorem zs_X7_apply : Cond.instanceMethod (zMy zm_X7_apply) ∈ ztbl := zin 830 (by decide +kernel) rfl
theorem zq_X7_apply : Cond.selects (zMy zm_X7_apply).cls (zMy zm_X7_apply) (zMy zm_X7_apply) ∈ ztbl := zin 831 (by decide +kernel) rfl
theorem zc_X7_back : zcal zm_X7_back 0 := ⟨zin 411 (by decide +kernel) rfl, zin 67 (by decide +kernel) rfl, ⟨by decide +kernel, by decide +kernel⟩, by decide +kernel⟩
theorem zs_X7_back : Cond.instanceMethod (zMy zm_X7_back) ∈ ztbl := zin 409 (by decide +kernel) rfl
theorem zq_X7_back : Cond.selects (zMy zm_X7_back).cls (zMy zm_X7_back) (zMy zm_X7_back) ∈ ztbl := zin 410 (by decide +kernel) rfl
theorem zc_X7_base : zcal zm_X7_base 1 := ⟨zin 668 (by decide +kernel) rfl, zin 67 (by decide +kernel) rfl, ⟨by decide +kernel, by decide +kernel⟩, by decide +kernel⟩
theorem zs_X7_base : Cond.instanceMethod (zMy zm_X7_base) ∈ ztbl := zin 666 (by decide +kernel) rfl
theorem zq_X7_base : Cond.selects (zMy zm_X7_base).cls (zMy zm_X7_base) (zMy zm_X7_base) ∈ ztbl := zin 667 (by decide +kernel) rfl
theorem zc_X7_beginAct : zcal zm_X7_beginAct 2 := ⟨zin 279 (by decide +kernel) rfl, zin 67 (by decide +kernel) rfl, ⟨by decide +kernel, by decide +kernel⟩, by decide +kernel⟩
theorem zs_X7_beginAct : Cond.instanceMethod (zMy zm_X7_beginAct) ∈ ztbl := zin 278 (by decide +kernel) rfl
theorem zq_X7_beginAct : Cond.selects (zMy zm_X7_beginAct).cls (zMy zm_X7_beginAct) (zMy zm_X7_beginAct) ∈ ztbl := zin 1 (by decide +kernel) rfl
theorem zc_X7_board : zcal zm_X7_board 2 := ⟨zin 297 (by decide +kernel) rfl, zin 67 (by decide +kernel) rfl, ⟨by decide +kernel, by decide +kernel⟩, by decide +kernel⟩
theorem zs_X7_board : Cond.instanceMethod (zMy zm_X7_board) ∈ ztbl := zin 295 (by decide +kernel) rfl
theorem zq_X7_board : Cond.selects (zMy zm_X7_board).cls (zMy zm_X7_board) (zMy zm_X7_board) ∈ ztbl := zin 296 (by decide +kernel) rfl
theorem zc_X7_button : zcal zm_X7_button 4 := ⟨zin 259 (by decide +kernel) rfl, zin 67 (by decide +kernel) rfl, ⟨by decide +kernel, by decide +kernel⟩, by decide +kernel⟩
theorem zs_X7_button : Cond.instanceMethod (zMy zm_X7_button) ∈ ztbl := zin 257 (by decide +kernel) rfl
theorem zq_X7_button : Cond.selects (zMy zm_X7_button).cls (zMy zm_X7_button) (zMy zm_X7_button) ∈ ztbl := zin 258 (by decide +kernel) rfl
theorem zc_X7_can : zcal zm_X7_can 0 := ⟨zin 436 (by decide +kernel) rfl, zin 67 (by decide +kernel) rfl, ⟨by decide +kernel, by decide +kernel⟩, by decide +kernel⟩
theorem zs_X7_can : Cond.instanceMethod (zMy zm_X7_can) ∈ ztbl := zin 434 (by decide +kernel) rfl
theorem zq_X7_can : Cond.selects (zMy zm_X7_can).cls (zMy zm_X7_can) (zMy zm_X7_can) ∈ ztbl := zin 435 (by decide +kernel) rfl
theorem zc_X7_chase : zcal zm_X7_chase 0 := ⟨zin 377 (by decide +kernel) rfl, zin 67 (by decide +kernel) rfl, ⟨by decide +kernel, by decide +kernel⟩, by decide +kernel⟩
theorem zs_X7_chase : Cond.instanceMethod (zMy zm_X7_chase) ∈ ztbl := zin 375 (by decide +kernel) rfl
theorem zq_X7_chase : Cond.selects (zMy zm_X7_chase).cls (zMy zm_X7_chase) (zMy zm_X7_chase) ∈ ztbl := zin 376 (by decide +kernel) rfl
theorem zc_X7_check : zcal zm_X7_check 1 := ⟨zin 860 (by decide +kernel) rfl, zin 67 (by decide +kernel) rfl, ⟨by decide +kernel, by decide +kernel⟩, by decide +kernel⟩
theorem zs_X7_check : Cond.instanceMethod (zMy zm_X7_check) ∈ ztbl := zin 858 (by decide +kernel) rfl
theorem zq_X7_check : Cond.selects (zMy zm_X7_check).cls (zMy zm_X7_check) (zMy zm_X7_check) ∈ ztbl := zin 859 (by decide +kernel) rfl
theorem zc_X7_checkPushing : zcal zm_X7_checkPushing 0 := ⟨zin 865 (by decide +kernel) rfl, zin 67 (by decide +kernel) rfl, ⟨by decide +kernel, by decide +kernel⟩, by decide +kernel⟩
theorem zs_X7_checkPushing : Cond.instanceMethod (zMy zm_X7_checkPushing) ∈ ztbl := zin 864 (by decide +kernel) rfl
theorem zq_X7_checkPushing : Cond.selects (zMy zm_X7_checkPushing).cls (zMy zm_X7_checkPushing) (zMy zm_X7_checkPushing) ∈ ztbl := zin 24 (by decide +kernel) rfl
theorem zc_X7_checkWeights : zcal zm_X7_checkWeights 0 := ⟨zin 871 (by decide +kernel) rfl, zin 67 (by decide +kernel) rfl, ⟨by decide +kernel, by decide +kernel⟩, by decide +kernel⟩
theorem zs_X7_checkWeights : Cond.instanceMethod (zMy zm_X7_checkWeights) ∈ ztbl := zin 870 (by decide +kernel) rfl
theorem zq_X7_checkWeights : Cond.selects (zMy zm_X7_checkWeights).cls (zMy zm_X7_checkWeights) (zMy zm_X7_checkWeights) ∈ ztbl := zin 25 (by decide +kernel) rfl
theorem zc_X7_cost : zcal zm_X7_cost 2 := ⟨zin 336 (by decide +kernel) rfl, zin 67 (by decide +kernel) rfl, ⟨by decide +kernel, by decide +kernel⟩, by decide +kernel⟩
theorem zs_X7_cost : Cond.instanceMethod (zMy zm_X7_cost) ∈ ztbl := zin 334 (by decide +kernel) rfl
theorem zq_X7_cost : Cond.selects (zMy zm_X7_cost).cls (zMy zm_X7_cost) (zMy zm_X7_cost) ∈ ztbl := zin 335 (by decide +kernel) rfl
theorem zc_X7_count : zcal zm_X7_count 1 := ⟨zin 415 (by decide +kernel) rfl, zin 67 (by decide +kernel) rfl, ⟨by decide +kernel, by decide +kernel⟩, by decide +kernel⟩
theorem zs_X7_count : Cond.instanceMethod (zMy zm_X7_count) ∈ ztbl := zin 413 (by decide +kernel) rfl
theorem zq_X7_count : Cond.selects (zMy zm_X7_count).cls (zMy zm_X7_count) (zMy zm_X7_count) ∈ ztbl := zin 414 (by decide +kernel) rfl
theorem zc_X7_element : zcal zm_X7_element 2 := ⟨zin 684 (by decide +kernel) rfl, zin 67 (by decide +kernel) rfl, ⟨by decide +kernel, by decide +kernel⟩, by decide +kernel⟩
theorem zs_X7_element : Cond.instanceMethod (zMy zm_X7_element) ∈ ztbl := zin 682 (by decide +kernel) rfl
theorem zq_X7_element : Cond.selects (zMy zm_X7_element).cls (zMy zm_X7_element) (zMy zm_X7_element) ∈ ztbl := zin 683 (by decide +kernel) rfl
theorem zc_X7_entry : zcal zm_X7_entry 2 := ⟨zin 308 (by decide +kernel) rfl, zin 67 (by decide +kernel) rfl, ⟨by decide +kernel, by decide +kernel⟩, by decide +kernel⟩
theorem zs_X7_entry : Cond.instanceMethod (zMy zm_X7_entry) ∈ ztbl := zin 306 (by decide +kernel) rfl
theorem zq_X7_entry : Cond.selects (zMy zm_X7_entry).cls (zMy zm_X7_entry) (zMy zm_X7_entry) ∈ ztbl := zin 307 (by decide +kernel) rfl
theorem zc_X7_forgetActs : zcal zm_X7_forgetActs 0 := ⟨zin 255 (by decide +kernel) rfl, zin 67 (by decide +kernel) rfl, ⟨by decide +kernel, by decide +kernel⟩, by decide +kernel⟩
theorem zs_X7_forgetActs : Cond.instanceMethod (zMy zm_X7_forgetActs) ∈ ztbl := zin 254 (by decide +kernel) rfl
theorem zq_X7_forgetActs : Cond.selects (zMy zm_X7_forgetActs).cls (zMy zm_X7_forgetActs) (zMy zm_X7_forgetActs) ∈ ztbl := zin 0 (by decide +kernel) rfl
theorem zc_X7_freshSolver : zcal zm_X7_freshSolver 0 := ⟨zin 440 (by decide +kernel) rfl, zin 67 (by decide +kernel) rfl, ⟨by decide +kernel, by decide +kernel⟩, by decide +kernel⟩
theorem zs_X7_freshSolver : Cond.instanceMethod (zMy zm_X7_freshSolver) ∈ ztbl := zin 439 (by decide +kernel) rfl
theorem zq_X7_freshSolver : Cond.selects (zMy zm_X7_freshSolver).cls (zMy zm_X7_freshSolver) (zMy zm_X7_freshSolver) ∈ ztbl := zin 7 (by decide +kernel) rfl
theorem zc_X7_init : zcal zm_X7_init 0 := ⟨zin 83 (by decide +kernel) rfl, zin 67 (by decide +kernel) rfl, ⟨by decide +kernel, by decide +kernel⟩, by decide +kernel⟩
theorem zs_X7_init : Cond.instanceMethod (zMy zm_X7_init) ∈ ztbl := zin 82 (by decide +kernel) rfl
theorem zc_X7_keep : zcal zm_X7_keep 0 := ⟨zin 402 (by decide +kernel) rfl, zin 67 (by decide +kernel) rfl, ⟨by decide +kernel, by decide +kernel⟩, by decide +kernel⟩
theorem zs_X7_keep : Cond.instanceMethod (zMy zm_X7_keep) ∈ ztbl := zin 400 (by decide +kernel) rfl
theorem zq_X7_keep : Cond.selects (zMy zm_X7_keep).cls (zMy zm_X7_keep) (zMy zm_X7_keep) ∈ ztbl := zin 401 (by decide +kernel) rfl
theorem zc_X7_least : zcal zm_X7_least 0 := ⟨zin 700 (by decide +kernel) rfl, zin 67 (by decide +kernel) rfl, ⟨by decide +kernel, by decide +kernel⟩, by decide +kernel⟩
theorem zs_X7_least : Cond.instanceMethod (zMy zm_X7_least) ∈ ztbl := zin 698 (by decide +kernel) rfl
theorem zq_X7_least : Cond.selects (zMy zm_X7_least).cls (zMy zm_X7_least) (zMy zm_X7_least) ∈ ztbl := zin 699 (by decide +kernel) rfl
theorem zc_X7_light : zcal zm_X7_light 2 := ⟨zin 340 (by decide +kernel) rfl, zin 67 (by decide +kernel) rfl, ⟨by decide +kernel, by decide +kernel⟩, by decide +kernel⟩
theorem zs_X7_light : Cond.instanceMethod (zMy zm_X7_light) ∈ ztbl := zin 338 (by decide +kernel) rfl
theorem zq_X7_light : Cond.selects (zMy zm_X7_light).cls (zMy zm_X7_light) (zMy zm_X7_light) ∈ ztbl := zin 339 (by decide +kernel) rfl
theorem zc_X7_next : zcal zm_X7_next 0 := ⟨zin 617 (by decide +kernel) rfl, zin 67 (by decide +kernel) rfl, ⟨by decide +kernel, by decide +kernel⟩, by decide +kernel⟩
theorem zs_X7_next : Cond.instanceMethod (zMy zm_X7_next) ∈ ztbl := zin 615 (by decide +kernel) rfl
theorem zq_X7_next : Cond.selects (zMy zm_X7_next).cls (zMy zm_X7_next) (zMy zm_X7_next) ∈ ztbl := zin 616 (by decide +kernel) rfl
theorem zc_X7_plate : zcal zm_X7_plate 3 := ⟨zin 244 (by decide +kernel) rfl, zin 67 (by decide +kernel) rfl, ⟨by decide +kernel, by decide +kernel⟩, by decide +kernel⟩
theorem zs_X7_plate : Cond.instanceMethod (zMy zm_X7_plate) ∈ ztbl := zin 242 (by decide +kernel) rfl
theorem zq_X7_plate : Cond.selects (zMy zm_X7_plate).cls (zMy zm_X7_plate) (zMy zm_X7_plate) ∈ ztbl := zin 243 (by decide +kernel) rfl
theorem zc_X7_primes : zcal zm_X7_primes 2 := ⟨zin 638 (by decide +kernel) rfl, zin 67 (by decide +kernel) rfl, ⟨by decide +kernel, by decide +kernel⟩, by decide +kernel⟩
theorem zs_X7_primes : Cond.instanceMethod (zMy zm_X7_primes) ∈ ztbl := zin 636 (by decide +kernel) rfl
theorem zq_X7_primes : Cond.selects (zMy zm_X7_primes).cls (zMy zm_X7_primes) (zMy zm_X7_primes) ∈ ztbl := zin 637 (by decide +kernel) rfl
theorem zc_X7_push : zcal zm_X7_push 2 := ⟨zin 345 (by decide +kernel) rfl, zin 67 (by decide +kernel) rfl, ⟨by decide +kernel, by decide +kernel⟩, by decide +kernel⟩
theorem zs_X7_push : Cond.instanceMethod (zMy zm_X7_push) ∈ ztbl := zin 343 (by decide +kernel) rfl
theorem zq_X7_push : Cond.selects (zMy zm_X7_push).cls (zMy zm_X7_push) (zMy zm_X7_push) ∈ ztbl := zin 344 (by decide +kernel) rfl
theorem zc_X7_row : zcal zm_X7_row 1 := ⟨zin 634 (by decide +kernel) rfl, zin 67 (by decide +kernel) rfl, ⟨by decide +kernel, by decide +kernel⟩, by decide +kernel⟩
theorem zs_X7_row : Cond.instanceMethod (zMy zm_X7_row) ∈ ztbl := zin 632 (by decide +kernel) rfl
theorem zq_X7_row : Cond.selects (zMy zm_X7_row).cls (zMy zm_X7_row) (zMy zm_X7_row) ∈ ztbl := zin 633 (by decide +kernel) rfl
theorem zc_X7_shown : zcal zm_X7_shown 1 := ⟨zin 427 (by decide +kernel) rfl, zin 67 (by decide +kernel) rfl, ⟨by decide +kernel, by decide +kernel⟩, by decide +kernel⟩
theorem zs_X7_shown : Cond.instanceMethod (zMy zm_X7_shown) ∈ ztbl := zin 425 (by decide +kernel) rfl
theorem zq_X7_shown : Cond.selects (zMy zm_X7_shown).cls (zMy zm_X7_shown) (zMy zm_X7_shown) ∈ ztbl := zin 426 (by decide +kernel) rfl
theorem zc_X7_step : zcal zm_X7_step 2 := ⟨zin 431 (by decide +kernel) rfl, zin 67 (by decide +kernel) rfl, ⟨by decide +kernel, by decide +kernel⟩, by decide +kernel⟩
theorem zs_X7_step : Cond.instanceMethod (zMy zm_X7_step) ∈ ztbl := zin 429 (by decide +kernel) rfl
theorem zq_X7_step : Cond.selects (zMy zm_X7_step).cls (zMy zm_X7_step) (zMy zm_X7_step) ∈ ztbl := zin 430 (by decide +kernel) rfl
theorem zc_X7_tell : zcal zm_X7_tell 1 := ⟨zin 856 (by decide +kernel) rfl, zin 67 (by decide +kernel) rfl, ⟨by decide +kernel, by decide +kernel⟩, by decide +kernel⟩
theorem zs_X7_tell : Cond.instanceMethod (zMy zm_X7_tell) ∈ ztbl := zin 854 (by decide +kernel) rfl
theorem zq_X7_tell : Cond.selects (zMy zm_X7_tell).cls (zMy zm_X7_tell) (zMy zm_X7_tell) ∈ ztbl := zin 855 (by decide +kernel) rfl
theorem zc_X7_undo : zcal zm_X7_undo 0 := ⟨zin 390 (by decide +kernel) rfl, zin 67 (by decide +kernel) rfl, ⟨by decide +kernel, by decide +kernel⟩, by decide +kernel⟩
theorem zs_X7_undo : Cond.instanceMethod (zMy zm_X7_undo) ∈ ztbl := zin 388 (by decide +kernel) rfl
theorem zq_X7_undo : Cond.selects (zMy zm_X7_undo).cls (zMy zm_X7_undo) (zMy zm_X7_undo) ∈ ztbl := zin 389 (by decide +kernel) rfl
theorem zc_X7_wire : zcal zm_X7_wire 1 := ⟨zin 316 (by decide +kernel) rfl, zin 67 (by decide +kernel) rfl, ⟨by decide +kernel, by decide +kernel⟩, by decide +kernel⟩
theorem zs_X7_wire : Cond.instanceMethod (zMy zm_X7_wire) ∈ ztbl := zin 314 (by decide +kernel) rfl
theorem zq_X7_wire : Cond.selects (zMy zm_X7_wire).cls (zMy zm_X7_wire) (zMy zm_X7_wire) ∈ ztbl := zin 315 (by decide +kernel) rfl
theorem zc_X7_worst : zcal zm_X7_worst 0 := ⟨zin 801 (by decide +kernel) rfl, zin 67 (by decide +kernel) rfl, ⟨by decide +kernel, by decide +kernel⟩, by decide +kernel⟩
theorem zs_X7_worst : Cond.instanceMethod (zMy zm_X7_worst) ∈ ztbl := zin 799 (by decide +kernel) rfl
theorem zq_X7_worst : Cond.selects (zMy zm_X7_worst).cls (zMy zm_X7_worst) (zMy zm_X7_worst) ∈ ztbl := zin 800 (by decide +kernel) rfl
theorem zc_X8_act : zcal zm_X8_act 0 := ⟨zin 1003 (by decide +kernel) rfl, zin 72 (by decide +kernel) rfl, ⟨by decide +kernel, by decide +kernel⟩, by decide +kernel⟩
theorem zs_X8_act : Cond.instanceMethod (zMy zm_X8_act) ∈ ztbl := zin 1002 (by decide +kernel) rfl
theorem zq_X8_act : Cond.selects (zMy zm_X8_act).cls (zMy zm_X8_act) (zMy zm_X8_act) ∈ ztbl := zin 32 (by decide +kernel) rfl
theorem zc_X8_apply : zcal zm_X8_apply 0 := ⟨zin 1235 (by decide +kernel) rfl, zin 72 (by decide +kernel) rfl, ⟨by decide +kernel, by decide +kernel⟩, by decide +kernel⟩
theorem zs_X8_apply : Cond.instanceMethod (zMy zm_X8_apply) ∈ ztbl := zin 1233 (by decide +kernel) rfl
theorem zq_X8_apply : Cond.selects (zMy zm_X8_apply).cls (zMy zm_X8_apply) (zMy zm_X8_apply) ∈ ztbl := zin 1234 (by decide +kernel) rfl
theorem zc_X8_back : zcal zm_X8_back 0 := ⟨zin 1079 (by decide +kernel) rfl, zin 72 (by decide +kernel) rfl, ⟨by decide +kernel, by decide +kernel⟩, by decide +kernel⟩
theorem zs_X8_back : Cond.instanceMethod (zMy zm_X8_back) ∈ ztbl := zin 1077 (by decide +kernel) rfl
theorem zq_X8_back : Cond.selects (zMy zm_X8_back).cls (zMy zm_X8_back) (zMy zm_X8_back) ∈ ztbl := zin 1078 (by decide +kernel) rfl
theorem zc_X8_base : zcal zm_X8_base 1 := ⟨zin 1175 (by decide +kernel) rfl, zin 72 (by decide +kernel) rfl, ⟨by decide +kernel, by decide +kernel⟩, by decide +kernel⟩
theorem zs_X8_base : Cond.instanceMethod (zMy zm_X8_base) ∈ ztbl := zin 1173 (by decide +kernel) rfl
theorem zq_X8_base : Cond.selects (zMy zm_X8_base).cls (zMy zm_X8_base) (zMy zm_X8_base) ∈ ztbl := zin 1174 (by decide +kernel) rfl
theorem zc_X8_board : zcal zm_X8_board 2 := ⟨zin 1007 (by decide +kernel) rfl, zin 72 (by decide +kernel) rfl, ⟨by decide +kernel, by decide +kernel⟩, by decide +kernel⟩
theorem zs_X8_board : Cond.instanceMethod (zMy zm_X8_board) ∈ ztbl := zin 1005 (by decide +kernel) rfl
theorem zq_X8_board : Cond.selects (zMy zm_X8_board).cls (zMy zm_X8_board) (zMy zm_X8_board) ∈ ztbl := zin 1006 (by decide +kernel) rfl
theorem zc_X8_button : zcal zm_X8_button 4 := ⟨zin 978 (by decide +kernel) rfl, zin 72 (by decide +kernel) rfl, ⟨by decide +kernel, by decide +kernel⟩, by decide +kernel⟩
theorem zs_X8_button : Cond.instanceMethod (zMy zm_X8_button) ∈ ztbl := zin 976 (by decide +kernel) rfl
theorem zq_X8_button : Cond.selects (zMy zm_X8_button).cls (zMy zm_X8_button) (zMy zm_X8_button) ∈ ztbl := zin 977 (by decide +kernel) rfl
theorem zc_X8_buttons : zcal zm_X8_buttons 0 := ⟨zin 983 (by decide +kernel) rfl, zin 72 (by decide +kernel) rfl, ⟨by decide +kernel, by decide +kernel⟩, by decide +kernel⟩
theorem zs_X8_buttons : Cond.instanceMethod (zMy zm_X8_buttons) ∈ ztbl := zin 982 (by decide +kernel) rfl
theorem zq_X8_buttons : Cond.selects (zMy zm_X8_buttons).cls (zMy zm_X8_buttons) (zMy zm_X8_buttons) ∈ ztbl := zin 27 (by decide +kernel) rfl
theorem zc_X8_can : zcal zm_X8_can 0 := ⟨zin 1095 (by decide +kernel) rfl, zin 72 (by decide +kernel) rfl, ⟨by decide +kernel, by decide +kernel⟩, by decide +kernel⟩
theorem zs_X8_can : Cond.instanceMethod (zMy zm_X8_can) ∈ ztbl := zin 1093 (by decide +kernel) rfl
theorem zq_X8_can : Cond.selects (zMy zm_X8_can).cls (zMy zm_X8_can) (zMy zm_X8_can) ∈ ztbl := zin 1094 (by decide +kernel) rfl
theorem zc_X8_canBe : zcal zm_X8_canBe 0 := ⟨zin 1099 (by decide +kernel) rfl, zin 72 (by decide +kernel) rfl, ⟨by decide +kernel, by decide +kernel⟩, by decide +kernel⟩
theorem zs_X8_canBe : Cond.instanceMethod (zMy zm_X8_canBe) ∈ ztbl := zin 1098 (by decide +kernel) rfl
theorem zq_X8_canBe : Cond.selects (zMy zm_X8_canBe).cls (zMy zm_X8_canBe) (zMy zm_X8_canBe) ∈ ztbl := zin 40 (by decide +kernel) rfl
theorem zc_X8_chase : zcal zm_X8_chase 0 := ⟨zin 1067 (by decide +kernel) rfl, zin 72 (by decide +kernel) rfl, ⟨by decide +kernel, by decide +kernel⟩, by decide +kernel⟩
theorem zs_X8_chase : Cond.instanceMethod (zMy zm_X8_chase) ∈ ztbl := zin 1065 (by decide +kernel) rfl
theorem zq_X8_chase : Cond.selects (zMy zm_X8_chase).cls (zMy zm_X8_chase) (zMy zm_X8_chase) ∈ ztbl := zin 1066 (by decide +kernel) rfl
theorem zc_X8_check : zcal zm_X8_check 1 := ⟨zin 1244 (by decide +kernel) rfl, zin 72 (by decide +kernel) rfl, ⟨by decide +kernel, by decide +kernel⟩, by decide +kernel⟩
theorem zs_X8_check : Cond.instanceMethod (zMy zm_X8_check) ∈ ztbl := zin 1242 (by decide +kernel) rfl
theorem zq_X8_check : Cond.selects (zMy zm_X8_check).cls (zMy zm_X8_check) (zMy zm_X8_check) ∈ ztbl := zin 1243 (by decide +kernel) rfl
theorem zc_X8_common : zcal zm_X8_common 2 := ⟨zin 1115 (by decide +kernel) rfl, zin 72 (by decide +kernel) rfl, ⟨by decide +kernel, by decide +kernel⟩, by decide +kernel⟩
theorem zs_X8_common : Cond.instanceMethod (zMy zm_X8_common) ∈ ztbl := zin 1114 (by decide +kernel) rfl
theorem zq_X8_common : Cond.selects (zMy zm_X8_common).cls (zMy zm_X8_common) (zMy zm_X8_common) ∈ ztbl := zin 44 (by decide +kernel) rfl
theorem zc_X8_cost : zcal zm_X8_cost 2 := ⟨zin 1032 (by decide +kernel) rfl, zin 72 (by decide +kernel) rfl, ⟨by decide +kernel, by decide +kernel⟩, by decide +kernel⟩
theorem zs_X8_cost : Cond.instanceMethod (zMy zm_X8_cost) ∈ ztbl := zin 1030 (by decide +kernel) rfl
theorem zq_X8_cost : Cond.selects (zMy zm_X8_cost).cls (zMy zm_X8_cost) (zMy zm_X8_cost) ∈ ztbl := zin 1031 (by decide +kernel) rfl
theorem zc_X8_costOf : zcal zm_X8_costOf 0 := ⟨zin 1195 (by decide +kernel) rfl, zin 72 (by decide +kernel) rfl, ⟨by decide +kernel, by decide +kernel⟩, by decide +kernel⟩
theorem zs_X8_costOf : Cond.instanceMethod (zMy zm_X8_costOf) ∈ ztbl := zin 1194 (by decide +kernel) rfl
theorem zq_X8_costOf : Cond.selects (zMy zm_X8_costOf).cls (zMy zm_X8_costOf) (zMy zm_X8_costOf) ∈ ztbl := zin 56 (by decide +kernel) rfl
theorem zc_X8_count : zcal zm_X8_count 1 := ⟨zin 1083 (by decide +kernel) rfl, zin 72 (by decide +kernel) rfl, ⟨by decide +kernel, by decide +kernel⟩, by decide +kernel⟩
theorem zs_X8_count : Cond.instanceMethod (zMy zm_X8_count) ∈ ztbl := zin 1081 (by decide +kernel) rfl
theorem zq_X8_count : Cond.selects (zMy zm_X8_count).cls (zMy zm_X8_count) (zMy zm_X8_count) ∈ ztbl := zin 1082 (by decide +kernel) rfl
theorem zc_X8_cross : zcal zm_X8_cross 2 := ⟨zin 1062 (by decide +kernel) rfl, zin 72 (by decide +kernel) rfl, ⟨by decide +kernel, by decide +kernel⟩, by decide +kernel⟩
theorem zs_X8_cross : Cond.instanceMethod (zMy zm_X8_cross) ∈ ztbl := zin 1061 (by decide +kernel) rfl
theorem zq_X8_cross : Cond.selects (zMy zm_X8_cross).cls (zMy zm_X8_cross) (zMy zm_X8_cross) ∈ ztbl := zin 39 (by decide +kernel) rfl
theorem zc_X8_element : zcal zm_X8_element 2 := ⟨zin 1179 (by decide +kernel) rfl, zin 72 (by decide +kernel) rfl, ⟨by decide +kernel, by decide +kernel⟩, by decide +kernel⟩
theorem zs_X8_element : Cond.instanceMethod (zMy zm_X8_element) ∈ ztbl := zin 1177 (by decide +kernel) rfl
theorem zq_X8_element : Cond.selects (zMy zm_X8_element).cls (zMy zm_X8_element) (zMy zm_X8_element) ∈ ztbl := zin 1178 (by decide +kernel) rfl
theorem zc_X8_entry : zcal zm_X8_entry 2 := ⟨zin 1012 (by decide +kernel) rfl, zin 72 (by decide +kernel) rfl, ⟨by decide +kernel, by decide +kernel⟩, by decide +kernel⟩
theorem zs_X8_entry : Cond.instanceMethod (zMy zm_X8_entry) ∈ ztbl := zin 1010 (by decide +kernel) rfl
theorem zq_X8_entry : Cond.selects (zMy zm_X8_entry).cls (zMy zm_X8_entry) (zMy zm_X8_entry) ∈ ztbl := zin 1011 (by decide +kernel) rfl
theorem zc_X8_follows : zcal zm_X8_follows 1 := ⟨zin 1148 (by decide +kernel) rfl, zin 72 (by decide +kernel) rfl, ⟨by decide +kernel, by decide +kernel⟩, by decide +kernel⟩
theorem zs_X8_follows : Cond.instanceMethod (zMy zm_X8_follows) ∈ ztbl := zin 1147 (by decide +kernel) rfl
theorem zq_X8_follows : Cond.selects (zMy zm_X8_follows).cls (zMy zm_X8_follows) (zMy zm_X8_follows) ∈ ztbl := zin 51 (by decide +kernel) rfl
theorem zc_X8_free : zcal zm_X8_free 0 := ⟨zin 1171 (by decide +kernel) rfl, zin 72 (by decide +kernel) rfl, ⟨by decide +kernel, by decide +kernel⟩, by decide +kernel⟩
theorem zs_X8_free : Cond.instanceMethod (zMy zm_X8_free) ∈ ztbl := zin 1170 (by decide +kernel) rfl
theorem zq_X8_free : Cond.selects (zMy zm_X8_free).cls (zMy zm_X8_free) (zMy zm_X8_free) ∈ ztbl := zin 54 (by decide +kernel) rfl
theorem zc_X8_impose : zcal zm_X8_impose 0 := ⟨zin 1111 (by decide +kernel) rfl, zin 72 (by decide +kernel) rfl, ⟨by decide +kernel, by decide +kernel⟩, by decide +kernel⟩
theorem zs_X8_impose : Cond.instanceMethod (zMy zm_X8_impose) ∈ ztbl := zin 1110 (by decide +kernel) rfl
theorem zq_X8_impose : Cond.selects (zMy zm_X8_impose).cls (zMy zm_X8_impose) (zMy zm_X8_impose) ∈ ztbl := zin 43 (by decide +kernel) rfl
theorem zc_X8_in : zcal zm_X8_in 3 := ⟨zin 972 (by decide +kernel) rfl, zin 72 (by decide +kernel) rfl, ⟨by decide +kernel, by decide +kernel⟩, by decide +kernel⟩
theorem zs_X8_in : Cond.static (zMy zm_X8_in) ∈ ztbl := zin 971 (by decide +kernel) rfl
theorem zc_X8_init : zcal zm_X8_init 0 := ⟨zin 881 (by decide +kernel) rfl, zin 72 (by decide +kernel) rfl, ⟨by decide +kernel, by decide +kernel⟩, by decide +kernel⟩
theorem zs_X8_init : Cond.instanceMethod (zMy zm_X8_init) ∈ ztbl := zin 880 (by decide +kernel) rfl
theorem zc_X8_isAhead : zcal zm_X8_isAhead 0 := ⟨zin 1227 (by decide +kernel) rfl, zin 72 (by decide +kernel) rfl, ⟨by decide +kernel, by decide +kernel⟩, by decide +kernel⟩
theorem zs_X8_isAhead : Cond.instanceMethod (zMy zm_X8_isAhead) ∈ ztbl := zin 1226 (by decide +kernel) rfl
theorem zq_X8_isAhead : Cond.selects (zMy zm_X8_isAhead).cls (zMy zm_X8_isAhead) (zMy zm_X8_isAhead) ∈ ztbl := zin 62 (by decide +kernel) rfl
theorem zc_X8_isButton : zcal zm_X8_isButton 1 := ⟨zin 1021 (by decide +kernel) rfl, zin 72 (by decide +kernel) rfl, ⟨by decide +kernel, by decide +kernel⟩, by decide +kernel⟩
theorem zs_X8_isButton : Cond.instanceMethod (zMy zm_X8_isButton) ∈ ztbl := zin 1020 (by decide +kernel) rfl
theorem zq_X8_isButton : Cond.selects (zMy zm_X8_isButton).cls (zMy zm_X8_isButton) (zMy zm_X8_isButton) ∈ ztbl := zin 33 (by decide +kernel) rfl
theorem zc_X8_isLikeRow : zcal zm_X8_isLikeRow 2 := ⟨zin 1223 (by decide +kernel) rfl, zin 72 (by decide +kernel) rfl, ⟨by decide +kernel, by decide +kernel⟩, by decide +kernel⟩
theorem zs_X8_isLikeRow : Cond.instanceMethod (zMy zm_X8_isLikeRow) ∈ ztbl := zin 1222 (by decide +kernel) rfl
theorem zq_X8_isLikeRow : Cond.selects (zMy zm_X8_isLikeRow).cls (zMy zm_X8_isLikeRow) (zMy zm_X8_isLikeRow) ∈ ztbl := zin 61 (by decide +kernel) rfl
theorem zc_X8_isLine : zcal zm_X8_isLine 1 := ⟨zin 987 (by decide +kernel) rfl, zin 72 (by decide +kernel) rfl, ⟨by decide +kernel, by decide +kernel⟩, by decide +kernel⟩
theorem zs_X8_isLine : Cond.instanceMethod (zMy zm_X8_isLine) ∈ ztbl := zin 986 (by decide +kernel) rfl
theorem zq_X8_isLine : Cond.selects (zMy zm_X8_isLine).cls (zMy zm_X8_isLine) (zMy zm_X8_isLine) ∈ ztbl := zin 28 (by decide +kernel) rfl
theorem zc_X8_isStuck : zcal zm_X8_isStuck 1 := ⟨zin 1045 (by decide +kernel) rfl, zin 72 (by decide +kernel) rfl, ⟨by decide +kernel, by decide +kernel⟩, by decide +kernel⟩
theorem zs_X8_isStuck : Cond.instanceMethod (zMy zm_X8_isStuck) ∈ ztbl := zin 1044 (by decide +kernel) rfl
theorem zq_X8_isStuck : Cond.selects (zMy zm_X8_isStuck).cls (zMy zm_X8_isStuck) (zMy zm_X8_isStuck) ∈ ztbl := zin 35 (by decide +kernel) rfl
theorem zc_X8_isZero : zcal zm_X8_isZero 1 := ⟨zin 1136 (by decide +kernel) rfl, zin 72 (by decide +kernel) rfl, ⟨by decide +kernel, by decide +kernel⟩, by decide +kernel⟩
theorem zs_X8_isZero : Cond.instanceMethod (zMy zm_X8_isZero) ∈ ztbl := zin 1135 (by decide +kernel) rfl
theorem zq_X8_isZero : Cond.selects (zMy zm_X8_isZero).cls (zMy zm_X8_isZero) (zMy zm_X8_isZero) ∈ ztbl := zin 49 (by decide +kernel) rfl
theorem zc_X8_keep : zcal zm_X8_keep 0 := ⟨zin 1075 (by decide +kernel) rfl, zin 72 (by decide +kernel) rfl, ⟨by decide +kernel, by decide +kernel⟩, by decide +kernel⟩
theorem zs_X8_keep : Cond.instanceMethod (zMy zm_X8_keep) ∈ ztbl := zin 1073 (by decide +kernel) rfl
theorem zq_X8_keep : Cond.selects (zMy zm_X8_keep).cls (zMy zm_X8_keep) (zMy zm_X8_keep) ∈ ztbl := zin 1074 (by decide +kernel) rfl
theorem zc_X8_keepsRow : zcal zm_X8_keepsRow 2 := ⟨zin 1199 (by decide +kernel) rfl, zin 72 (by decide +kernel) rfl, ⟨by decide +kernel, by decide +kernel⟩, by decide +kernel⟩
theorem zs_X8_keepsRow : Cond.instanceMethod (zMy zm_X8_keepsRow) ∈ ztbl := zin 1198 (by decide +kernel) rfl
theorem zq_X8_keepsRow : Cond.selects (zMy zm_X8_keepsRow).cls (zMy zm_X8_keepsRow) (zMy zm_X8_keepsRow) ∈ ztbl := zin 57 (by decide +kernel) rfl
theorem zc_X8_least : zcal zm_X8_least 0 := ⟨zin 1184 (by decide +kernel) rfl, zin 72 (by decide +kernel) rfl, ⟨by decide +kernel, by decide +kernel⟩, by decide +kernel⟩
theorem zs_X8_least : Cond.instanceMethod (zMy zm_X8_least) ∈ ztbl := zin 1182 (by decide +kernel) rfl
theorem zq_X8_least : Cond.selects (zMy zm_X8_least).cls (zMy zm_X8_least) (zMy zm_X8_least) ∈ ztbl := zin 1183 (by decide +kernel) rfl
theorem zc_X8_left : zcal zm_X8_left 2 := ⟨zin 1164 (by decide +kernel) rfl, zin 72 (by decide +kernel) rfl, ⟨by decide +kernel, by decide +kernel⟩, by decide +kernel⟩
theorem zs_X8_left : Cond.instanceMethod (zMy zm_X8_left) ∈ ztbl := zin 1163 (by decide +kernel) rfl
theorem zq_X8_left : Cond.selects (zMy zm_X8_left).cls (zMy zm_X8_left) (zMy zm_X8_left) ∈ ztbl := zin 53 (by decide +kernel) rfl
theorem zc_X8_light : zcal zm_X8_light 2 := ⟨zin 1037 (by decide +kernel) rfl, zin 72 (by decide +kernel) rfl, ⟨by decide +kernel, by decide +kernel⟩, by decide +kernel⟩
theorem zs_X8_light : Cond.instanceMethod (zMy zm_X8_light) ∈ ztbl := zin 1035 (by decide +kernel) rfl
theorem zq_X8_light : Cond.selects (zMy zm_X8_light).cls (zMy zm_X8_light) (zMy zm_X8_light) ∈ ztbl := zin 1036 (by decide +kernel) rfl
theorem zc_X8_lower : zcal zm_X8_lower 1 := ⟨zin 1152 (by decide +kernel) rfl, zin 72 (by decide +kernel) rfl, ⟨by decide +kernel, by decide +kernel⟩, by decide +kernel⟩
theorem zs_X8_lower : Cond.instanceMethod (zMy zm_X8_lower) ∈ ztbl := zin 1151 (by decide +kernel) rfl
theorem zq_X8_lower : Cond.selects (zMy zm_X8_lower).cls (zMy zm_X8_lower) (zMy zm_X8_lower) ∈ ztbl := zin 52 (by decide +kernel) rfl
theorem zc_X8_m : zcal zm_X8_m 0 := ⟨zin 999 (by decide +kernel) rfl, zin 72 (by decide +kernel) rfl, ⟨by decide +kernel, by decide +kernel⟩, by decide +kernel⟩
theorem zs_X8_m : Cond.instanceMethod (zMy zm_X8_m) ∈ ztbl := zin 998 (by decide +kernel) rfl
theorem zq_X8_m : Cond.selects (zMy zm_X8_m).cls (zMy zm_X8_m) (zMy zm_X8_m) ∈ ztbl := zin 31 (by decide +kernel) rfl
theorem zc_X8_made : zcal zm_X8_made 1 := ⟨zin 1231 (by decide +kernel) rfl, zin 72 (by decide +kernel) rfl, ⟨by decide +kernel, by decide +kernel⟩, by decide +kernel⟩
theorem zs_X8_made : Cond.instanceMethod (zMy zm_X8_made) ∈ ztbl := zin 1230 (by decide +kernel) rfl
theorem zq_X8_made : Cond.selects (zMy zm_X8_made).cls (zMy zm_X8_made) (zMy zm_X8_made) ∈ ztbl := zin 63 (by decide +kernel) rfl
theorem zc_X8_n : zcal zm_X8_n 0 := ⟨zin 995 (by decide +kernel) rfl, zin 72 (by decide +kernel) rfl, ⟨by decide +kernel, by decide +kernel⟩, by decide +kernel⟩
theorem zs_X8_n : Cond.instanceMethod (zMy zm_X8_n) ∈ ztbl := zin 994 (by decide +kernel) rfl
theorem zq_X8_n : Cond.selects (zMy zm_X8_n).cls (zMy zm_X8_n) (zMy zm_X8_n) ∈ ztbl := zin 30 (by decide +kernel) rfl
theorem zc_X8_next : zcal zm_X8_next 0 := ⟨zin 1144 (by decide +kernel) rfl, zin 72 (by decide +kernel) rfl, ⟨by decide +kernel, by decide +kernel⟩, by decide +kernel⟩
theorem zs_X8_next : Cond.instanceMethod (zMy zm_X8_next) ∈ ztbl := zin 1142 (by decide +kernel) rfl
theorem zq_X8_next : Cond.selects (zMy zm_X8_next).cls (zMy zm_X8_next) (zMy zm_X8_next) ∈ ztbl := zin 1143 (by decide +kernel) rfl
theorem zc_X8_numberOf : zcal zm_X8_numberOf 0 := ⟨zin 1216 (by decide +kernel) rfl, zin 72 (by decide +kernel) rfl, ⟨by decide +kernel, by decide +kernel⟩, by decide +kernel⟩
theorem zs_X8_numberOf : Cond.instanceMethod (zMy zm_X8_numberOf) ∈ ztbl := zin 1215 (by decide +kernel) rfl
theorem zq_X8_numberOf : Cond.selects (zMy zm_X8_numberOf).cls (zMy zm_X8_numberOf) (zMy zm_X8_numberOf) ∈ ztbl := zin 60 (by decide +kernel) rfl
theorem zc_X8_often : zcal zm_X8_often 2 := ⟨zin 1167 (by decide +kernel) rfl, zin 72 (by decide +kernel) rfl, ⟨by decide +kernel, by decide +kernel⟩, by decide +kernel⟩
theorem zs_X8_often : Cond.static (zMy zm_X8_often) ∈ ztbl := zin 1166 (by decide +kernel) rfl
theorem zc_X8_own : zcal zm_X8_own 2 := ⟨zin 1058 (by decide +kernel) rfl, zin 72 (by decide +kernel) rfl, ⟨by decide +kernel, by decide +kernel⟩, by decide +kernel⟩
theorem zs_X8_own : Cond.instanceMethod (zMy zm_X8_own) ∈ ztbl := zin 1057 (by decide +kernel) rfl
theorem zq_X8_own : Cond.selects (zMy zm_X8_own).cls (zMy zm_X8_own) (zMy zm_X8_own) ∈ ztbl := zin 38 (by decide +kernel) rfl
theorem zc_X8_pivot : zcal zm_X8_pivot 1 := ⟨zin 1124 (by decide +kernel) rfl, zin 72 (by decide +kernel) rfl, ⟨by decide +kernel, by decide +kernel⟩, by decide +kernel⟩
theorem zs_X8_pivot : Cond.instanceMethod (zMy zm_X8_pivot) ∈ ztbl := zin 1123 (by decide +kernel) rfl
theorem zq_X8_pivot : Cond.selects (zMy zm_X8_pivot).cls (zMy zm_X8_pivot) (zMy zm_X8_pivot) ∈ ztbl := zin 46 (by decide +kernel) rfl
theorem zc_X8_plate : zcal zm_X8_plate 3 := ⟨zin 968 (by decide +kernel) rfl, zin 72 (by decide +kernel) rfl, ⟨by decide +kernel, by decide +kernel⟩, by decide +kernel⟩
theorem zs_X8_plate : Cond.instanceMethod (zMy zm_X8_plate) ∈ ztbl := zin 966 (by decide +kernel) rfl
theorem zq_X8_plate : Cond.selects (zMy zm_X8_plate).cls (zMy zm_X8_plate) (zMy zm_X8_plate) ∈ ztbl := zin 967 (by decide +kernel) rfl
theorem zc_X8_primes : zcal zm_X8_primes 2 := ⟨zin 1160 (by decide +kernel) rfl, zin 72 (by decide +kernel) rfl, ⟨by decide +kernel, by decide +kernel⟩, by decide +kernel⟩
theorem zs_X8_primes : Cond.instanceMethod (zMy zm_X8_primes) ∈ ztbl := zin 1158 (by decide +kernel) rfl
theorem zq_X8_primes : Cond.selects (zMy zm_X8_primes).cls (zMy zm_X8_primes) (zMy zm_X8_primes) ∈ ztbl := zin 1159 (by decide +kernel) rfl
theorem zc_X8_push : zcal zm_X8_push 2 := ⟨zin 1041 (by decide +kernel) rfl, zin 72 (by decide +kernel) rfl, ⟨by decide +kernel, by decide +kernel⟩, by decide +kernel⟩
theorem zs_X8_push : Cond.instanceMethod (zMy zm_X8_push) ∈ ztbl := zin 1039 (by decide +kernel) rfl
theorem zq_X8_push : Cond.selects (zMy zm_X8_push).cls (zMy zm_X8_push) (zMy zm_X8_push) ∈ ztbl := zin 1040 (by decide +kernel) rfl
theorem zc_X8_pushed : zcal zm_X8_pushed 2 := ⟨zin 1050 (by decide +kernel) rfl, zin 72 (by decide +kernel) rfl, ⟨by decide +kernel, by decide +kernel⟩, by decide +kernel⟩
theorem zs_X8_pushed : Cond.instanceMethod (zMy zm_X8_pushed) ∈ ztbl := zin 1049 (by decide +kernel) rfl
theorem zq_X8_pushed : Cond.selects (zMy zm_X8_pushed).cls (zMy zm_X8_pushed) (zMy zm_X8_pushed) ∈ ztbl := zin 36 (by decide +kernel) rfl
theorem zc_X8_pushes : zcal zm_X8_pushes 0 := ⟨zin 1207 (by decide +kernel) rfl, zin 72 (by decide +kernel) rfl, ⟨by decide +kernel, by decide +kernel⟩, by decide +kernel⟩
theorem zs_X8_pushes : Cond.instanceMethod (zMy zm_X8_pushes) ∈ ztbl := zin 1206 (by decide +kernel) rfl
theorem zq_X8_pushes : Cond.selects (zMy zm_X8_pushes).cls (zMy zm_X8_pushes) (zMy zm_X8_pushes) ∈ ztbl := zin 58 (by decide +kernel) rfl
theorem zc_X8_pushing : zcal zm_X8_pushing 1 := ⟨zin 1212 (by decide +kernel) rfl, zin 72 (by decide +kernel) rfl, ⟨by decide +kernel, by decide +kernel⟩, by decide +kernel⟩
theorem zs_X8_pushing : Cond.instanceMethod (zMy zm_X8_pushing) ∈ ztbl := zin 1211 (by decide +kernel) rfl
theorem zq_X8_pushing : Cond.selects (zMy zm_X8_pushing).cls (zMy zm_X8_pushing) (zMy zm_X8_pushing) ∈ ztbl := zin 59 (by decide +kernel) rfl
theorem zc_X8_pushingWrong : zcal zm_X8_pushingWrong 0 := ⟨zin 1248 (by decide +kernel) rfl, zin 72 (by decide +kernel) rfl, ⟨by decide +kernel, by decide +kernel⟩, by decide +kernel⟩
theorem zs_X8_pushingWrong : Cond.instanceMethod (zMy zm_X8_pushingWrong) ∈ ztbl := zin 1247 (by decide +kernel) rfl
theorem zq_X8_pushingWrong : Cond.selects (zMy zm_X8_pushingWrong).cls (zMy zm_X8_pushingWrong) (zMy zm_X8_pushingWrong) ∈ ztbl := zin 64 (by decide +kernel) rfl
theorem zc_X8_pushings : zcal zm_X8_pushings 0 := ⟨zin 1103 (by decide +kernel) rfl, zin 72 (by decide +kernel) rfl, ⟨by decide +kernel, by decide +kernel⟩, by decide +kernel⟩
theorem zs_X8_pushings : Cond.instanceMethod (zMy zm_X8_pushings) ∈ ztbl := zin 1102 (by decide +kernel) rfl
theorem zq_X8_pushings : Cond.selects (zMy zm_X8_pushings).cls (zMy zm_X8_pushings) (zMy zm_X8_pushings) ∈ ztbl := zin 41 (by decide +kernel) rfl
theorem zc_X8_quiet : zcal zm_X8_quiet 0 := ⟨zin 1189 (by decide +kernel) rfl, zin 72 (by decide +kernel) rfl, ⟨by decide +kernel, by decide +kernel⟩, by decide +kernel⟩
theorem zs_X8_quiet : Cond.instanceMethod (zMy zm_X8_quiet) ∈ ztbl := zin 1188 (by decide +kernel) rfl
theorem zq_X8_quiet : Cond.selects (zMy zm_X8_quiet).cls (zMy zm_X8_quiet) (zMy zm_X8_quiet) ∈ ztbl := zin 55 (by decide +kernel) rfl
theorem zc_X8_reduce : zcal zm_X8_reduce 0 := ⟨zin 1120 (by decide +kernel) rfl, zin 72 (by decide +kernel) rfl, ⟨by decide +kernel, by decide +kernel⟩, by decide +kernel⟩
theorem zs_X8_reduce : Cond.instanceMethod (zMy zm_X8_reduce) ∈ ztbl := zin 1119 (by decide +kernel) rfl
theorem zq_X8_reduce : Cond.selects (zMy zm_X8_reduce).cls (zMy zm_X8_reduce) (zMy zm_X8_reduce) ∈ ztbl := zin 45 (by decide +kernel) rfl
theorem zc_X8_row : zcal zm_X8_row 1 := ⟨zin 1156 (by decide +kernel) rfl, zin 72 (by decide +kernel) rfl, ⟨by decide +kernel, by decide +kernel⟩, by decide +kernel⟩
theorem zs_X8_row : Cond.instanceMethod (zMy zm_X8_row) ∈ ztbl := zin 1154 (by decide +kernel) rfl
theorem zq_X8_row : Cond.selects (zMy zm_X8_row).cls (zMy zm_X8_row) (zMy zm_X8_row) ∈ ztbl := zin 1155 (by decide +kernel) rfl
theorem zc_X8_set : zcal zm_X8_set 3 := ⟨zin 888 (by decide +kernel) rfl, zin 72 (by decide +kernel) rfl, ⟨by decide +kernel, by decide +kernel⟩, by decide +kernel⟩
theorem zs_X8_set : Cond.instanceMethod (zMy zm_X8_set) ∈ ztbl := zin 887 (by decide +kernel) rfl
theorem zq_X8_set : Cond.selects (zMy zm_X8_set).cls (zMy zm_X8_set) (zMy zm_X8_set) ∈ ztbl := zin 26 (by decide +kernel) rfl
theorem zc_X8_shown : zcal zm_X8_shown 1 := ⟨zin 1087 (by decide +kernel) rfl, zin 72 (by decide +kernel) rfl, ⟨by decide +kernel, by decide +kernel⟩, by decide +kernel⟩
theorem zs_X8_shown : Cond.instanceMethod (zMy zm_X8_shown) ∈ ztbl := zin 1085 (by decide +kernel) rfl
theorem zq_X8_shown : Cond.selects (zMy zm_X8_shown).cls (zMy zm_X8_shown) (zMy zm_X8_shown) ∈ ztbl := zin 1086 (by decide +kernel) rfl
theorem zc_X8_step : zcal zm_X8_step 2 := ⟨zin 1091 (by decide +kernel) rfl, zin 72 (by decide +kernel) rfl, ⟨by decide +kernel, by decide +kernel⟩, by decide +kernel⟩
theorem zs_X8_step : Cond.instanceMethod (zMy zm_X8_step) ∈ ztbl := zin 1089 (by decide +kernel) rfl
theorem zq_X8_step : Cond.selects (zMy zm_X8_step).cls (zMy zm_X8_step) (zMy zm_X8_step) ∈ ztbl := zin 1090 (by decide +kernel) rfl
theorem zc_X8_steps : zcal zm_X8_steps 2 := ⟨zin 1054 (by decide +kernel) rfl, zin 72 (by decide +kernel) rfl, ⟨by decide +kernel, by decide +kernel⟩, by decide +kernel⟩
theorem zs_X8_steps : Cond.instanceMethod (zMy zm_X8_steps) ∈ ztbl := zin 1053 (by decide +kernel) rfl
theorem zq_X8_steps : Cond.selects (zMy zm_X8_steps).cls (zMy zm_X8_steps) (zMy zm_X8_steps) ∈ ztbl := zin 37 (by decide +kernel) rfl
theorem zc_X8_tell : zcal zm_X8_tell 1 := ⟨zin 1239 (by decide +kernel) rfl, zin 72 (by decide +kernel) rfl, ⟨by decide +kernel, by decide +kernel⟩, by decide +kernel⟩
theorem zs_X8_tell : Cond.instanceMethod (zMy zm_X8_tell) ∈ ztbl := zin 1237 (by decide +kernel) rfl
theorem zq_X8_tell : Cond.selects (zMy zm_X8_tell).cls (zMy zm_X8_tell) (zMy zm_X8_tell) ∈ ztbl := zin 1238 (by decide +kernel) rfl
theorem zc_X8_tells : zcal zm_X8_tells 2 := ⟨zin 1128 (by decide +kernel) rfl, zin 72 (by decide +kernel) rfl, ⟨by decide +kernel, by decide +kernel⟩, by decide +kernel⟩
theorem zs_X8_tells : Cond.instanceMethod (zMy zm_X8_tells) ∈ ztbl := zin 1127 (by decide +kernel) rfl
theorem zq_X8_tells : Cond.selects (zMy zm_X8_tells).cls (zMy zm_X8_tells) (zMy zm_X8_tells) ∈ ztbl := zin 47 (by decide +kernel) rfl
theorem zc_X8_told : zcal zm_X8_told 1 := ⟨zin 1025 (by decide +kernel) rfl, zin 72 (by decide +kernel) rfl, ⟨by decide +kernel, by decide +kernel⟩, by decide +kernel⟩
theorem zs_X8_told : Cond.instanceMethod (zMy zm_X8_told) ∈ ztbl := zin 1024 (by decide +kernel) rfl
theorem zq_X8_told : Cond.selects (zMy zm_X8_told).cls (zMy zm_X8_told) (zMy zm_X8_told) ∈ ztbl := zin 34 (by decide +kernel) rfl
theorem zc_X8_undo : zcal zm_X8_undo 0 := ⟨zin 1071 (by decide +kernel) rfl, zin 72 (by decide +kernel) rfl, ⟨by decide +kernel, by decide +kernel⟩, by decide +kernel⟩
theorem zs_X8_undo : Cond.instanceMethod (zMy zm_X8_undo) ∈ ztbl := zin 1069 (by decide +kernel) rfl
theorem zq_X8_undo : Cond.selects (zMy zm_X8_undo).cls (zMy zm_X8_undo) (zMy zm_X8_undo) ∈ ztbl := zin 1070 (by decide +kernel) rfl
theorem zc_X8_w : zcal zm_X8_w 0 := ⟨zin 991 (by decide +kernel) rfl, zin 72 (by decide +kernel) rfl, ⟨by decide +kernel, by decide +kernel⟩, by decide +kernel⟩
theorem zs_X8_w : Cond.instanceMethod (zMy zm_X8_w) ∈ ztbl := zin 990 (by decide +kernel) rfl
theorem zq_X8_w : Cond.selects (zMy zm_X8_w).cls (zMy zm_X8_w) (zMy zm_X8_w) ∈ ztbl := zin 29 (by decide +kernel) rfl
theorem zc_X8_weigh : zcal zm_X8_weigh 1 := ⟨zin 1140 (by decide +kernel) rfl, zin 72 (by decide +kernel) rfl, ⟨by decide +kernel, by decide +kernel⟩, by decide +kernel⟩
theorem zs_X8_weigh : Cond.instanceMethod (zMy zm_X8_weigh) ∈ ztbl := zin 1139 (by decide +kernel) rfl
theorem zq_X8_weigh : Cond.selects (zMy zm_X8_weigh).cls (zMy zm_X8_weigh) (zMy zm_X8_weigh) ∈ ztbl := zin 50 (by decide +kernel) rfl
theorem zc_X8_weights : zcal zm_X8_weights 0 := ⟨zin 1132 (by decide +kernel) rfl, zin 72 (by decide +kernel) rfl, ⟨by decide +kernel, by decide +kernel⟩, by decide +kernel⟩
theorem zs_X8_weights : Cond.instanceMethod (zMy zm_X8_weights) ∈ ztbl := zin 1131 (by decide +kernel) rfl
theorem zq_X8_weights : Cond.selects (zMy zm_X8_weights).cls (zMy zm_X8_weights) (zMy zm_X8_weights) ∈ ztbl := zin 48 (by decide +kernel) rfl
theorem zc_X8_weightsWrong : zcal zm_X8_weightsWrong 0 := ⟨zin 1252 (by decide +kernel) rfl, zin 72 (by decide +kernel) rfl, ⟨by decide +kernel, by decide +kernel⟩, by decide +kernel⟩
theorem zs_X8_weightsWrong : Cond.instanceMethod (zMy zm_X8_weightsWrong) ∈ ztbl := zin 1251 (by decide +kernel) rfl
theorem zq_X8_weightsWrong : Cond.selects (zMy zm_X8_weightsWrong).cls (zMy zm_X8_weightsWrong) (zMy zm_X8_weightsWrong) ∈ ztbl := zin 65 (by decide +kernel) rfl
theorem zc_X8_whole : zcal zm_X8_whole 1 := ⟨zin 1107 (by decide +kernel) rfl, zin 72 (by decide +kernel) rfl, ⟨by decide +kernel, by decide +kernel⟩, by decide +kernel⟩
theorem zs_X8_whole : Cond.instanceMethod (zMy zm_X8_whole) ∈ ztbl := zin 1106 (by decide +kernel) rfl
theorem zq_X8_whole : Cond.selects (zMy zm_X8_whole).cls (zMy zm_X8_whole) (zMy zm_X8_whole) ∈ ztbl := zin 42 (by decide +kernel) rfl
theorem zc_X8_wire : zcal zm_X8_wire 1 := ⟨zin 1017 (by decide +kernel) rfl, zin 72 (by decide +kernel) rfl, ⟨by decide +kernel, by decide +kernel⟩, by decide +kernel⟩
theorem zs_X8_wire : Cond.instanceMethod (zMy zm_X8_wire) ∈ ztbl := zin 1015 (by decide +kernel) rfl
theorem zq_X8_wire : Cond.selects (zMy zm_X8_wire).cls (zMy zm_X8_wire) (zMy zm_X8_wire) ∈ ztbl := zin 1016 (by decide +kernel) rfl
theorem zc_X8_worst : zcal zm_X8_worst 0 := ⟨zin 1203 (by decide +kernel) rfl, zin 72 (by decide +kernel) rfl, ⟨by decide +kernel, by decide +kernel⟩, by decide +kernel⟩
theorem zs_X8_worst : Cond.instanceMethod (zMy zm_X8_worst) ∈ ztbl := zin 1201 (by decide +kernel) rfl
theorem zq_X8_worst : Cond.selects (zMy zm_X8_worst).cls (zMy zm_X8_worst) (zMy zm_X8_worst) ∈ ztbl := zin 1202 (by decide +kernel) rfl
theorem zk_RX7_3 (M : zM) (h : (zMy M).cls = RX7) : Cond.methodLink (zMy M).cls 3 objectInit ∈ ztbl := by rw [h]; exact zin 84 (by decide +kernel) rfl
theorem zn_RX7_9 (M : zM) (h : (zMy M).cls = RX7) : Cond.classLink (zMy M).cls 9 "LampPlate$Plate" ∈ ztbl := by rw [h]; exact zin 87 (by decide +kernel) rfl
theorem zk_RX7_11 (M : zM) (h : (zMy M).cls = RX7) : zcI M zm_X3_init 0 11 := ⟨zc_X3_init, rfl, rfl, Or.inr ⟨"LampPlate", by rw [h]; exact zin 89 (by decide +kernel) rfl⟩, zs_X3_init⟩
theorem zf_RX7_12 (M : zM) (h : (zMy M).cls = RX7) : Cond.fieldLink (zMy M).cls 12 "LampPlate" "plate" "LLampPlate$Plate;" ∈ ztbl := by rw [h]; exact zin 216 (by decide +kernel) rfl
theorem zn_RX7_16 (M : zM) (h : (zMy M).cls = RX7) : Cond.classLink (zMy M).cls 16 "LampPlate$Board" ∈ ztbl := by rw [h]; exact zin 149 (by decide +kernel) rfl
theorem zk_RX7_18 (M : zM) (h : (zMy M).cls = RX7) : zcI M zm_X0_init 0 18 := ⟨zc_X0_init, rfl, rfl, Or.inr ⟨"LampPlate", by rw [h]; exact zin 151 (by decide +kernel) rfl⟩, zs_X0_init⟩
theorem zf_RX7_19 (M : zM) (h : (zMy M).cls = RX7) : Cond.fieldLink (zMy M).cls 19 "LampPlate" "board" "LLampPlate$Board;" ∈ ztbl := by rw [h]; exact zin 217 (by decide +kernel) rfl
theorem zn_RX7_23 (M : zM) (h : (zMy M).cls = RX7) : Cond.classLink (zMy M).cls 23 "LampPlate$History" ∈ ztbl := by rw [h]; exact zin 168 (by decide +kernel) rfl
theorem zk_RX7_25 (M : zM) (h : (zMy M).cls = RX7) : zcI M zm_X2_init 0 25 := ⟨zc_X2_init, rfl, rfl, Or.inr ⟨"LampPlate", by rw [h]; exact zin 170 (by decide +kernel) rfl⟩, zs_X2_init⟩
theorem zf_RX7_26 (M : zM) (h : (zMy M).cls = RX7) : Cond.fieldLink (zMy M).cls 26 "LampPlate" "history" "LLampPlate$History;" ∈ ztbl := by rw [h]; exact zin 218 (by decide +kernel) rfl
theorem zn_RX7_30 (M : zM) (h : (zMy M).cls = RX7) : Cond.classLink (zMy M).cls 30 "LampPlate$Told" ∈ ztbl := by rw [h]; exact zin 191 (by decide +kernel) rfl
theorem zk_RX7_32 (M : zM) (h : (zMy M).cls = RX7) : zcI M zm_X6_init 0 32 := ⟨zc_X6_init, rfl, rfl, Or.inr ⟨"LampPlate", by rw [h]; exact zin 193 (by decide +kernel) rfl⟩, zs_X6_init⟩
theorem zf_RX7_33 (M : zM) (h : (zMy M).cls = RX7) : Cond.fieldLink (zMy M).cls 33 "LampPlate" "told" "LLampPlate$Told;" ∈ ztbl := by rw [h]; exact zin 219 (by decide +kernel) rfl
theorem zf_RX7_37 (M : zM) (h : (zMy M).cls = RX7) : Cond.fieldLink (zMy M).cls 37 "LampPlate" "list" "[I" ∈ ztbl := by rw [h]; exact zin 220 (by decide +kernel) rfl
theorem zk_RX7_41 (M : zM) (h : (zMy M).cls = RX7) : zcV M zm_X3_makeNew 3 41 3 := ⟨zc_X3_makeNew, (by rw [h]; exact zin 245 (by decide +kernel) rfl), zs_X3_makeNew, zq_X3_makeNew, _, rfl, rfl⟩
theorem zk_RX7_45 (M : zM) (h : (zMy M).cls = RX7) : zcV M zm_X7_forgetActs 0 45 7 := ⟨zc_X7_forgetActs, (by rw [h]; exact zin 252 (by decide +kernel) rfl), zs_X7_forgetActs, zq_X7_forgetActs, _, rfl, rfl⟩
theorem zf_RX7_48 (M : zM) (h : (zMy M).cls = RX7) : Cond.fieldLink (zMy M).cls 48 "LampPlate$Plate" "buttons" "I" ∈ ztbl := by rw [h]; exact zin 103 (by decide +kernel) rfl
theorem zk_RX7_52 (M : zM) (h : (zMy M).cls = RX7) : zcV M zm_X3_takesButton 4 52 3 := ⟨zc_X3_takesButton, (by rw [h]; exact zin 260 (by decide +kernel) rfl), zs_X3_takesButton, zq_X3_takesButton, _, rfl, rfl⟩
theorem zk_RX7_56 (M : zM) (h : (zMy M).cls = RX7) : zcV M zm_X7_beginAct 2 56 7 := ⟨zc_X7_beginAct, (by rw [h]; exact zin 276 (by decide +kernel) rfl), zs_X7_beginAct, zq_X7_beginAct, _, rfl, rfl⟩
theorem zk_RX7_60 (M : zM) (h : (zMy M).cls = RX7) : zcV M zm_X3_addButton 4 60 3 := ⟨zc_X3_addButton, (by rw [h]; exact zin 290 (by decide +kernel) rfl), zs_X3_addButton, zq_X3_addButton, _, rfl, rfl⟩
theorem zk_RX7_64 (M : zM) (h : (zMy M).cls = RX7) : zcV M zm_X0_lay 2 64 0 := ⟨zc_X0_lay, (by rw [h]; exact zin 298 (by decide +kernel) rfl), zs_X0_lay, zq_X0_lay, _, rfl, rfl⟩
theorem zf_RX7_67 (M : zM) (h : (zMy M).cls = RX7) : Cond.fieldLink (zMy M).cls 67 "LampPlate$Board" "size" "I" ∈ ztbl := by rw [h]; exact zin 158 (by decide +kernel) rfl
theorem zk_RX7_70 (M : zM) (h : (zMy M).cls = RX7) : zcV M zm_X0_write 2 70 0 := ⟨zc_X0_write, (by rw [h]; exact zin 309 (by decide +kernel) rfl), zs_X0_write, zq_X0_write, _, rfl, rfl⟩
theorem zf_RX7_74 (M : zM) (h : (zMy M).cls = RX7) : Cond.fieldLink (zMy M).cls 74 "LampPlate$Board" "kind" "I" ∈ ztbl := by rw [h]; exact zin 156 (by decide +kernel) rfl
theorem zk_RX7_77 (M : zM) (h : (zMy M).cls = RX7) : zcV M zm_X3_hasButton 1 77 3 := ⟨zc_X3_hasButton, (by rw [h]; exact zin 317 (by decide +kernel) rfl), zs_X3_hasButton, zq_X3_hasButton, _, rfl, rfl⟩
theorem zf_RX7_81 (M : zM) (h : (zMy M).cls = RX7) : Cond.fieldLink (zMy M).cls 81 "LampPlate$Plate" "kind" "[I" ∈ ztbl := by rw [h]; exact zin 113 (by decide +kernel) rfl
theorem zk_RX7_83 (M : zM) (h : (zMy M).cls = RX7) : zcV M zm_X3_wireTo 2 83 3 := ⟨zc_X3_wireTo, (by rw [h]; exact zin 318 (by decide +kernel) rfl), zs_X3_wireTo, zq_X3_wireTo, _, rfl, rfl⟩
theorem zf_RX7_87 (M : zM) (h : (zMy M).cls = RX7) : Cond.fieldLink (zMy M).cls 87 "LampPlate$Plate" "price" "[I" ∈ ztbl := by rw [h]; exact zin 119 (by decide +kernel) rfl
theorem zk_RX7_90 (M : zM) (h : (zMy M).cls = RX7) : zcV M zm_X3_hasLamp 1 90 3 := ⟨zc_X3_hasLamp, (by rw [h]; exact zin 341 (by decide +kernel) rfl), zs_X3_hasLamp, zq_X3_hasLamp, _, rfl, rfl⟩
theorem zf_RX7_93 (M : zM) (h : (zMy M).cls = RX7) : Cond.fieldLink (zMy M).cls 93 "LampPlate$Plate" "colours" "I" ∈ ztbl := by rw [h]; exact zin 98 (by decide +kernel) rfl
theorem zf_RX7_96 (M : zM) (h : (zMy M).cls = RX7) : Cond.fieldLink (zMy M).cls 96 "LampPlate$Plate" "shown" "[I" ∈ ztbl := by rw [h]; exact zin 110 (by decide +kernel) rfl
theorem zd_RX7_99 (M : zM) (h : (zMy M).cls = RX7) : Cond.constant (zMy M).cls 99 1000000 ∈ ztbl := by rw [h]; exact zin 346 (by decide +kernel) rfl
theorem zk_RX7_100 (M : zM) (h : (zMy M).cls = RX7) : zcV M zm_X3_pushOne 2 100 3 := ⟨zc_X3_pushOne, (by rw [h]; exact zin 347 (by decide +kernel) rfl), zs_X3_pushOne, zq_X3_pushOne, _, rfl, rfl⟩
theorem zk_RX7_104 (M : zM) (h : (zMy M).cls = RX7) : zcV M zm_X3_isAllCrosses 0 104 3 := ⟨zc_X3_isAllCrosses, (by rw [h]; exact zin 378 (by decide +kernel) rfl), zs_X3_isAllCrosses, zq_X3_isAllCrosses, _, rfl, rfl⟩
theorem zk_RX7_108 (M : zM) (h : (zMy M).cls = RX7) : zcV M zm_X3_chaseDown 0 108 3 := ⟨zc_X3_chaseDown, (by rw [h]; exact zin 382 (by decide +kernel) rfl), zs_X3_chaseDown, zq_X3_chaseDown, _, rfl, rfl⟩
theorem zf_RX7_112 (M : zM) (h : (zMy M).cls = RX7) : Cond.fieldLink (zMy M).cls 112 "LampPlate$History" "size" "I" ∈ ztbl := by rw [h]; exact zin 175 (by decide +kernel) rfl
theorem zk_RX7_113 (M : zM) (h : (zMy M).cls = RX7) : zcV M zm_X2_takeBack 1 113 2 := ⟨zc_X2_takeBack, (by rw [h]; exact zin 391 (by decide +kernel) rfl), zs_X2_takeBack, zq_X2_takeBack, _, rfl, rfl⟩
theorem zf_RX7_117 (M : zM) (h : (zMy M).cls = RX7) : Cond.fieldLink (zMy M).cls 117 "LampPlate$Told" "goesOn" "Z" ∈ ztbl := by rw [h]; exact zin 203 (by decide +kernel) rfl
theorem zf_RX7_121 (M : zM) (h : (zMy M).cls = RX7) : Cond.fieldLink (zMy M).cls 121 "LampPlate" "kept" "LLampPlate$Plate;" ∈ ztbl := by rw [h]; exact zin 222 (by decide +kernel) rfl
theorem zk_RX7_124 (M : zM) (h : (zMy M).cls = RX7) : zcV M zm_X3_copyFrom 1 124 3 := ⟨zc_X3_copyFrom, (by rw [h]; exact zin 403 (by decide +kernel) rfl), zs_X3_copyFrom, zq_X3_copyFrom, _, rfl, rfl⟩
theorem zf_RX7_127 (M : zM) (h : (zMy M).cls = RX7) : Cond.fieldLink (zMy M).cls 127 "LampPlate$Plate" "lamps" "I" ∈ ztbl := by rw [h]; exact zin 95 (by decide +kernel) rfl
theorem zf_RX7_130 (M : zM) (h : (zMy M).cls = RX7) : Cond.fieldLink (zMy M).cls 130 "LampPlate$Plate" "width" "I" ∈ ztbl := by rw [h]; exact zin 100 (by decide +kernel) rfl
theorem zk_RX7_133 (M : zM) (h : (zMy M).cls = RX7) : zcV M zm_X3_countLit 0 133 3 := ⟨zc_X3_countLit, (by rw [h]; exact zin 416 (by decide +kernel) rfl), zs_X3_countLit, zq_X3_countLit, _, rfl, rfl⟩
theorem zk_RX7_136 (M : zM) (h : (zMy M).cls = RX7) : zcV M zm_X3_sumShown 0 136 3 := ⟨zc_X3_sumShown, (by rw [h]; exact zin 420 (by decide +kernel) rfl), zs_X3_sumShown, zq_X3_sumShown, _, rfl, rfl⟩
theorem zk_RX7_139 (M : zM) (h : (zMy M).cls = RX7) : zcV M zm_X3_stepAt 2 139 3 := ⟨zc_X3_stepAt, (by rw [h]; exact zin 432 (by decide +kernel) rfl), zs_X3_stepAt, zq_X3_stepAt, _, rfl, rfl⟩
theorem zk_RX7_142 (M : zM) (h : (zMy M).cls = RX7) : zcV M zm_X7_freshSolver 0 142 7 := ⟨zc_X7_freshSolver, (by rw [h]; exact zin 437 (by decide +kernel) rfl), zs_X7_freshSolver, zq_X7_freshSolver, _, rfl, rfl⟩
theorem zk_RX7_146 (M : zM) (h : (zMy M).cls = RX7) : zcV M zm_X5_solve 0 146 5 := ⟨zc_X5_solve, (by rw [h]; exact zin 570 (by decide +kernel) rfl), zs_X5_solve, zq_X5_solve, _, rfl, rfl⟩
theorem zn_RX7_147 (M : zM) (h : (zMy M).cls = RX7) : Cond.classLink (zMy M).cls 147 "LampPlate$Solver" ∈ ztbl := by rw [h]; exact zin 441 (by decide +kernel) rfl
theorem zk_RX7_151 (M : zM) (h : (zMy M).cls = RX7) : zcV M zm_X5_tellPushing 1 151 5 := ⟨zc_X5_tellPushing, (by rw [h]; exact zin 580 (by decide +kernel) rfl), zs_X5_tellPushing, zq_X5_tellPushing, _, rfl, rfl⟩
theorem zk_RX7_155 (M : zM) (h : (zMy M).cls = RX7) : zcV M zm_X5_tellWhy 1 155 5 := ⟨zc_X5_tellWhy, (by rw [h]; exact zin 593 (by decide +kernel) rfl), zs_X5_tellWhy, zq_X5_tellWhy, _, rfl, rfl⟩
theorem zk_RX7_158 (M : zM) (h : (zMy M).cls = RX7) : zcV M zm_X5_goOn 1 158 5 := ⟨zc_X5_goOn, (by rw [h]; exact zin 618 (by decide +kernel) rfl), zs_X5_goOn, zq_X5_goOn, _, rfl, rfl⟩
theorem zf_RX7_162 (M : zM) (h : (zMy M).cls = RX7) : Cond.fieldLink (zMy M).cls 162 "LampPlate$Told" "size" "I" ∈ ztbl := by rw [h]; exact zin 200 (by decide +kernel) rfl
theorem zf_RX7_163 (M : zM) (h : (zMy M).cls = RX7) : Cond.fieldLink (zMy M).cls 163 "LampPlate$Told" "numbers" "[I" ∈ ztbl := by rw [h]; exact zin 206 (by decide +kernel) rfl
theorem zk_RX7_166 (M : zM) (h : (zMy M).cls = RX7) : zcV M zm_X5_primesOfPatterns 1 166 5 := ⟨zc_X5_primesOfPatterns, (by rw [h]; exact zin 639 (by decide +kernel) rfl), zs_X5_primesOfPatterns, zq_X5_primesOfPatterns, _, rfl, rfl⟩
theorem zk_RX7_170 (M : zM) (h : (zMy M).cls = RX7) : zcV M zm_X5_primesOfQuiet 1 170 5 := ⟨zc_X5_primesOfQuiet, (by rw [h]; exact zin 658 (by decide +kernel) rfl), zs_X5_primesOfQuiet, zq_X5_primesOfQuiet, _, rfl, rfl⟩
theorem zk_RX7_173 (M : zM) (h : (zMy M).cls = RX7) : zcV M zm_X5_primesOfAll 1 173 5 := ⟨zc_X5_primesOfAll, (by rw [h]; exact zin 659 (by decide +kernel) rfl), zs_X5_primesOfAll, zq_X5_primesOfAll, _, rfl, rfl⟩
theorem zk_RX7_176 (M : zM) (h : (zMy M).cls = RX7) : zcV M zm_X5_primesOfWeights 1 176 5 := ⟨zc_X5_primesOfWeights, (by rw [h]; exact zin 660 (by decide +kernel) rfl), zs_X5_primesOfWeights, zq_X5_primesOfWeights, _, rfl, rfl⟩
theorem zk_RX7_179 (M : zM) (h : (zMy M).cls = RX7) : zcV M zm_X5_countQuiet 0 179 5 := ⟨zc_X5_countQuiet, (by rw [h]; exact zin 669 (by decide +kernel) rfl), zs_X5_countQuiet, zq_X5_countQuiet, _, rfl, rfl⟩
theorem zk_RX7_182 (M : zM) (h : (zMy M).cls = RX7) : zcV M zm_X5_countWeights 0 182 5 := ⟨zc_X5_countWeights, (by rw [h]; exact zin 677 (by decide +kernel) rfl), zs_X5_countWeights, zq_X5_countWeights, _, rfl, rfl⟩
theorem zk_RX7_185 (M : zM) (h : (zMy M).cls = RX7) : zcV M zm_X5_tellQuiet 2 185 5 := ⟨zc_X5_tellQuiet, (by rw [h]; exact zin 685 (by decide +kernel) rfl), zs_X5_tellQuiet, zq_X5_tellQuiet, _, rfl, rfl⟩
theorem zk_RX7_189 (M : zM) (h : (zMy M).cls = RX7) : zcV M zm_X5_tellWeights 2 189 5 := ⟨zc_X5_tellWeights, (by rw [h]; exact zin 693 (by decide +kernel) rfl), zs_X5_tellWeights, zq_X5_tellWeights, _, rfl, rfl⟩
theorem zd_RX7_192 (M : zM) (h : (zMy M).cls = RX7) : Cond.constantLong (zMy M).cls 192 (-1) ∈ ztbl := by rw [h]; exact zin 701 (by decide +kernel) rfl
theorem zk_RX7_194 (M : zM) (h : (zMy M).cls = RX7) : zcV M zm_X5_hasManyQuiet 0 194 5 := ⟨zc_X5_hasManyQuiet, (by rw [h]; exact zin 702 (by decide +kernel) rfl), zs_X5_hasManyQuiet, zq_X5_hasManyQuiet, _, rfl, rfl⟩
theorem zd_RX7_197 (M : zM) (h : (zMy M).cls = RX7) : Cond.constantLong (zMy M).cls 197 (-2) ∈ ztbl := by rw [h]; exact zin 707 (by decide +kernel) rfl
theorem zk_RX7_199 (M : zM) (h : (zMy M).cls = RX7) : zcV M zm_X5_tellLeast 1 199 5 := ⟨zc_X5_tellLeast, (by rw [h]; exact zin 708 (by decide +kernel) rfl), zs_X5_tellLeast, zq_X5_tellLeast, _, rfl, rfl⟩
theorem zk_RX7_203 (M : zM) (h : (zMy M).cls = RX7) : zcV M zm_X5_hasManyPushings 0 203 5 := ⟨zc_X5_hasManyPushings, (by rw [h]; exact zin 802 (by decide +kernel) rfl), zs_X5_hasManyPushings, zq_X5_hasManyPushings, _, rfl, rfl⟩
theorem zk_RX7_206 (M : zM) (h : (zMy M).cls = RX7) : zcV M zm_X5_tellWorst 1 206 5 := ⟨zc_X5_tellWorst, (by rw [h]; exact zin 806 (by decide +kernel) rfl), zs_X5_tellWorst, zq_X5_tellWorst, _, rfl, rfl⟩
theorem zf_RX7_209 (M : zM) (h : (zMy M).cls = RX7) : Cond.fieldLink (zMy M).cls 209 "LampPlate$Told" "kind" "I" ∈ ztbl := by rw [h]; exact zin 198 (by decide +kernel) rfl
theorem zk_RX7_210 (M : zM) (h : (zMy M).cls = RX7) : zcV M zm_X3_isPushing 2 210 3 := ⟨zc_X3_isPushing, (by rw [h]; exact zin 833 (by decide +kernel) rfl), zs_X3_isPushing, zq_X3_isPushing, _, rfl, rfl⟩
theorem zk_RX7_214 (M : zM) (h : (zMy M).cls = RX7) : zcV M zm_X3_pushAll 1 214 3 := ⟨zc_X3_pushAll, (by rw [h]; exact zin 845 (by decide +kernel) rfl), zs_X3_pushAll, zq_X3_pushAll, _, rfl, rfl⟩
theorem zf_RX7_218 (M : zM) (h : (zMy M).cls = RX7) : Cond.fieldLink (zMy M).cls 218 "LampPlate" "listed" "I" ∈ ztbl := by rw [h]; exact zin 221 (by decide +kernel) rfl
theorem zk_RX7_221 (M : zM) (h : (zMy M).cls = RX7) : zcV M zm_X3_allBelowColours 2 221 3 := ⟨zc_X3_allBelowColours, (by rw [h]; exact zin 861 (by decide +kernel) rfl), zs_X3_allBelowColours, zq_X3_allBelowColours, _, rfl, rfl⟩
theorem zk_RX7_224 (M : zM) (h : (zMy M).cls = RX7) : zcV M zm_X7_checkPushing 0 224 7 := ⟨zc_X7_checkPushing, (by rw [h]; exact zin 862 (by decide +kernel) rfl), zs_X7_checkPushing, zq_X7_checkPushing, _, rfl, rfl⟩
theorem zk_RX7_227 (M : zM) (h : (zMy M).cls = RX7) : zcV M zm_X7_checkWeights 0 227 7 := ⟨zc_X7_checkWeights, (by rw [h]; exact zin 868 (by decide +kernel) rfl), zs_X7_checkWeights, zq_X7_checkWeights, _, rfl, rfl⟩
theorem zk_RX7_230 (M : zM) (h : (zMy M).cls = RX7) : zcV M zm_X3_firstStuckPushed 1 230 3 := ⟨zc_X3_firstStuckPushed, (by rw [h]; exact zin 866 (by decide +kernel) rfl), zs_X3_firstStuckPushed, zq_X3_firstStuckPushed, _, rfl, rfl⟩
theorem zk_RX7_233 (M : zM) (h : (zMy M).cls = RX7) : zcV M zm_X3_patternAt 2 233 3 := ⟨zc_X3_patternAt, (by rw [h]; exact zin 867 (by decide +kernel) rfl), zs_X3_patternAt, zq_X3_patternAt, _, rfl, rfl⟩
theorem zk_RX7_237 (M : zM) (h : (zMy M).cls = RX7) : zcV M zm_X3_weighSteps 2 237 3 := ⟨zc_X3_weighSteps, (by rw [h]; exact zin 872 (by decide +kernel) rfl), zs_X3_weighSteps, zq_X3_weighSteps, _, rfl, rfl⟩
theorem zk_RX7_240 (M : zM) (h : (zMy M).cls = RX7) : zcV M zm_X3_weighShown 2 240 3 := ⟨zc_X3_weighShown, (by rw [h]; exact zin 876 (by decide +kernel) rfl), zs_X3_weighShown, zq_X3_weighShown, _, rfl, rfl⟩
theorem zk_RX7_243 (M : zM) (h : (zMy M).cls = RX7) : zcV M zm_X2_note 3 243 2 := ⟨zc_X2_note, (by rw [h]; exact zin 280 (by decide +kernel) rfl), zs_X2_note, zq_X2_note, _, rfl, rfl⟩
theorem zf_RX7_247 (M : zM) (h : (zMy M).cls = RX7) : Cond.fieldLink (zMy M).cls 247 "LampPlate" "solver" "LLampPlate$Solver;" ∈ ztbl := by rw [h]; exact zin 223 (by decide +kernel) rfl
theorem zk_RX7_251 (M : zM) (h : (zMy M).cls = RX7) : zcI M zm_X5_init 1 251 := ⟨zc_X5_init, rfl, rfl, Or.inl (by rw [h]; exact zin 443 (by decide +kernel) rfl), zs_X5_init⟩
theorem zk_RX7_253 (M : zM) (h : (zMy M).cls = RX7) : zcV M zm_X5_refresh 0 253 5 := ⟨zc_X5_refresh, (by rw [h]; exact zin 518 (by decide +kernel) rfl), zs_X5_refresh, zq_X5_refresh, _, rfl, rfl⟩
theorem zk_RX0_1 (M : zM) (h : (zMy M).cls = RX0) : Cond.methodLink (zMy M).cls 1 objectInit ∈ ztbl := by rw [h]; exact zin 154 (by decide +kernel) rfl
theorem zf_RX0_9 (M : zM) (h : (zMy M).cls = RX0) : Cond.fieldLink (zMy M).cls 9 "LampPlate$Board" "kind" "I" ∈ ztbl := by rw [h]; exact zin 155 (by decide +kernel) rfl
theorem zf_RX0_13 (M : zM) (h : (zMy M).cls = RX0) : Cond.fieldLink (zMy M).cls 13 "LampPlate$Board" "entries" "[J" ∈ ztbl := by rw [h]; exact zin 159 (by decide +kernel) rfl
theorem zf_RX0_17 (M : zM) (h : (zMy M).cls = RX0) : Cond.fieldLink (zMy M).cls 17 "LampPlate$Board" "size" "I" ∈ ztbl := by rw [h]; exact zin 157 (by decide +kernel) rfl
theorem zk_RX0_20 (M : zM) (h : (zMy M).cls = RX0) : zcS M zm_J7_fill_d0a16 2 20 := ⟨zc_J7_fill_d0a16, (by rw [h]; exact zin 302 (by decide +kernel) rfl), zs_J7_fill_d0a16⟩
theorem zk_RX0_26 (M : zM) (h : (zMy M).cls = RX0) : zcS M zm_J9_floorMod_7cf53 2 26 := ⟨zc_J9_floorMod_7cf53, (by rw [h]; exact zin 326 (by decide +kernel) rfl), zs_J9_floorMod_7cf53⟩
theorem zk_RX0_32 (M : zM) (h : (zMy M).cls = RX0) : zcV M zm_X0_bitFor 2 32 0 := ⟨zc_X0_bitFor, (by rw [h]; exact zin 329 (by decide +kernel) rfl), zs_X0_bitFor, zq_X0_bitFor, _, rfl, rfl⟩
theorem zk_RX1_3 (M : zM) (h : (zMy M).cls = RX1) : Cond.methodLink (zMy M).cls 3 objectInit ∈ ztbl := by rw [h]; exact zin 452 (by decide +kernel) rfl
theorem zf_RX1_9 (M : zM) (h : (zMy M).cls = RX1) : Cond.fieldLink (zMy M).cls 9 "LampPlate$Form" "colours" "I" ∈ ztbl := by rw [h]; exact zin 453 (by decide +kernel) rfl
theorem zf_RX1_15 (M : zM) (h : (zMy M).cls = RX1) : Cond.fieldLink (zMy M).cls 15 "LampPlate$Form" "lead" "[I" ∈ ztbl := by rw [h]; exact zin 462 (by decide +kernel) rfl
theorem zf_RX1_19 (M : zM) (h : (zMy M).cls = RX1) : Cond.fieldLink (zMy M).cls 19 "LampPlate$Form" "rows" "[I" ∈ ztbl := by rw [h]; exact zin 465 (by decide +kernel) rfl
theorem zf_RX1_22 (M : zM) (h : (zMy M).cls = RX1) : Cond.fieldLink (zMy M).cls 22 "LampPlate$Form" "unit" "[I" ∈ ztbl := by rw [h]; exact zin 469 (by decide +kernel) rfl
theorem zf_RX1_25 (M : zM) (h : (zMy M).cls = RX1) : Cond.fieldLink (zMy M).cls 25 "LampPlate$Form" "work" "[I" ∈ ztbl := by rw [h]; exact zin 467 (by decide +kernel) rfl
theorem zf_RX1_28 (M : zM) (h : (zMy M).cls = RX1) : Cond.fieldLink (zMy M).cls 28 "LampPlate$Form" "heads" "I" ∈ ztbl := by rw [h]; exact zin 455 (by decide +kernel) rfl
theorem zf_RX1_31 (M : zM) (h : (zMy M).cls = RX1) : Cond.fieldLink (zMy M).cls 31 "LampPlate$Form" "wide" "I" ∈ ztbl := by rw [h]; exact zin 458 (by decide +kernel) rfl
theorem zf_RX1_34 (M : zM) (h : (zMy M).cls = RX1) : Cond.fieldLink (zMy M).cls 34 "LampPlate$Form" "open" "I" ∈ ztbl := by rw [h]; exact zin 461 (by decide +kernel) rfl
theorem zk_RX1_37 (M : zM) (h : (zMy M).cls = RX1) : zcS M zm_J7_fill_53178 2 37 := ⟨zc_J7_fill_53178, (by rw [h]; exact zin 526 (by decide +kernel) rfl), zs_J7_fill_53178⟩
theorem zk_RX1_43 (M : zM) (h : (zMy M).cls = RX1) : zcS M zm_X1_unitFor 2 43 := ⟨zc_X1_unitFor, (by rw [h]; exact zin 527 (by decide +kernel) rfl), zs_X1_unitFor⟩
theorem zk_RX1_47 (M : zM) (h : (zMy M).cls = RX1) : zcS M zm_X1_gcd 2 47 := ⟨zc_X1_gcd, (by rw [h]; exact zin 530 (by decide +kernel) rfl), zs_X1_gcd⟩
theorem zk_RX1_50 (M : zM) (h : (zMy M).cls = RX1) : zcV M zm_X1_clearColumn 1 50 1 := ⟨zc_X1_clearColumn, (by rw [h]; exact zin 542 (by decide +kernel) rfl), zs_X1_clearColumn, zq_X1_clearColumn, _, rfl, rfl⟩
theorem zk_RX1_54 (M : zM) (h : (zMy M).cls = RX1) : zcV M zm_X1_settle 2 54 1 := ⟨zc_X1_settle, (by rw [h]; exact zin 561 (by decide +kernel) rfl), zs_X1_settle, zq_X1_settle, _, rfl, rfl⟩
theorem zk_RX1_58 (M : zM) (h : (zMy M).cls = RX1) : zcV M zm_X1_reduce 4 58 1 := ⟨zc_X1_reduce, (by rw [h]; exact zin 566 (by decide +kernel) rfl), zs_X1_reduce, zq_X1_reduce, _, rfl, rfl⟩
theorem zk_RX1_62 (M : zM) (h : (zMy M).cls = RX1) : zcV M zm_X1_multiply 3 62 1 := ⟨zc_X1_multiply, (by rw [h]; exact zin 546 (by decide +kernel) rfl), zs_X1_multiply, zq_X1_multiply, _, rfl, rfl⟩
theorem zk_RX1_66 (M : zM) (h : (zMy M).cls = RX1) : zcV M zm_X1_clearOne 3 66 1 := ⟨zc_X1_clearOne, (by rw [h]; exact zin 550 (by decide +kernel) rfl), zs_X1_clearOne, zq_X1_clearOne, _, rfl, rfl⟩
theorem zk_RX1_70 (M : zM) (h : (zMy M).cls = RX1) : zcS M zm_J9_max_7cf53 2 70 := ⟨zc_J9_max_7cf53, (by rw [h]; exact zin 554 (by decide +kernel) rfl), zs_J9_max_7cf53⟩
theorem zk_RX1_75 (M : zM) (h : (zMy M).cls = RX1) : zcV M zm_X1_addTimes 6 75 1 := ⟨zc_X1_addTimes, (by rw [h]; exact zin 557 (by decide +kernel) rfl), zs_X1_addTimes, zq_X1_addTimes, _, rfl, rfl⟩
theorem zk_RX1_79 (M : zM) (h : (zMy M).cls = RX1) : Cond.methodLink (zMy M).cls 79 arraycopyName ∈ ztbl := by rw [h]; exact zin 565 (by decide +kernel) rfl
theorem zk_RX1_85 (M : zM) (h : (zMy M).cls = RX1) : zcV M zm_X1_addRow 2 85 1 := ⟨zc_X1_addRow, (by rw [h]; exact zin 626 (by decide +kernel) rfl), zs_X1_addRow, zq_X1_addRow, _, rfl, rfl⟩
theorem zk_RX2_3 (M : zM) (h : (zMy M).cls = RX2) : Cond.methodLink (zMy M).cls 3 objectInit ∈ ztbl := by rw [h]; exact zin 173 (by decide +kernel) rfl
theorem zf_RX2_11 (M : zM) (h : (zMy M).cls = RX2) : Cond.fieldLink (zMy M).cls 11 "LampPlate$History" "what" "[I" ∈ ztbl := by rw [h]; exact zin 177 (by decide +kernel) rfl
theorem zf_RX2_15 (M : zM) (h : (zMy M).cls = RX2) : Cond.fieldLink (zMy M).cls 15 "LampPlate$History" "button" "[I" ∈ ztbl := by rw [h]; exact zin 178 (by decide +kernel) rfl
theorem zf_RX2_18 (M : zM) (h : (zMy M).cls = RX2) : Cond.fieldLink (zMy M).cls 18 "LampPlate$History" "before" "[I" ∈ ztbl := by rw [h]; exact zin 179 (by decide +kernel) rfl
theorem zf_RX2_21 (M : zM) (h : (zMy M).cls = RX2) : Cond.fieldLink (zMy M).cls 21 "LampPlate$History" "free" "I" ∈ ztbl := by rw [h]; exact zin 176 (by decide +kernel) rfl
theorem zf_RX2_25 (M : zM) (h : (zMy M).cls = RX2) : Cond.fieldLink (zMy M).cls 25 "LampPlate$Plate" "shown" "[I" ∈ ztbl := by rw [h]; exact zin 108 (by decide +kernel) rfl
theorem zk_RX2_30 (M : zM) (h : (zMy M).cls = RX2) : Cond.methodLink (zMy M).cls 30 arraycopyName ∈ ztbl := by rw [h]; exact zin 284 (by decide +kernel) rfl
theorem zf_RX2_36 (M : zM) (h : (zMy M).cls = RX2) : Cond.fieldLink (zMy M).cls 36 "LampPlate$Plate" "wired" "[I" ∈ ztbl := by rw [h]; exact zin 122 (by decide +kernel) rfl
theorem zf_RX2_39 (M : zM) (h : (zMy M).cls = RX2) : Cond.fieldLink (zMy M).cls 39 "LampPlate$Plate" "price" "[I" ∈ ztbl := by rw [h]; exact zin 118 (by decide +kernel) rfl
theorem zf_RX2_42 (M : zM) (h : (zMy M).cls = RX2) : Cond.fieldLink (zMy M).cls 42 "LampPlate$History" "size" "I" ∈ ztbl := by rw [h]; exact zin 174 (by decide +kernel) rfl
theorem zk_RX2_45 (M : zM) (h : (zMy M).cls = RX2) : zcS M zm_J9_min_7cf53 2 45 := ⟨zc_J9_min_7cf53, (by rw [h]; exact zin 287 (by decide +kernel) rfl), zs_J9_min_7cf53⟩
theorem zf_RX2_51 (M : zM) (h : (zMy M).cls = RX2) : Cond.fieldLink (zMy M).cls 51 "LampPlate$Plate" "wirings" "I" ∈ ztbl := by rw [h]; exact zin 106 (by decide +kernel) rfl
theorem zk_RX2_54 (M : zM) (h : (zMy M).cls = RX2) : zcV M zm_X3_removeLastButton 0 54 3 := ⟨zc_X3_removeLastButton, (by rw [h]; exact zin 395 (by decide +kernel) rfl), zs_X3_removeLastButton, zq_X3_removeLastButton, _, rfl, rfl⟩
theorem zk_RX3_3 (M : zM) (h : (zMy M).cls = RX3) : Cond.methodLink (zMy M).cls 3 objectInit ∈ ztbl := by rw [h]; exact zin 92 (by decide +kernel) rfl
theorem zf_RX3_9 (M : zM) (h : (zMy M).cls = RX3) : Cond.fieldLink (zMy M).cls 9 "LampPlate$Plate" "lamps" "I" ∈ ztbl := by rw [h]; exact zin 93 (by decide +kernel) rfl
theorem zf_RX3_15 (M : zM) (h : (zMy M).cls = RX3) : Cond.fieldLink (zMy M).cls 15 "LampPlate$Plate" "colours" "I" ∈ ztbl := by rw [h]; exact zin 96 (by decide +kernel) rfl
theorem zf_RX3_18 (M : zM) (h : (zMy M).cls = RX3) : Cond.fieldLink (zMy M).cls 18 "LampPlate$Plate" "width" "I" ∈ ztbl := by rw [h]; exact zin 99 (by decide +kernel) rfl
theorem zf_RX3_21 (M : zM) (h : (zMy M).cls = RX3) : Cond.fieldLink (zMy M).cls 21 "LampPlate$Plate" "shown" "[I" ∈ ztbl := by rw [h]; exact zin 107 (by decide +kernel) rfl
theorem zf_RX3_25 (M : zM) (h : (zMy M).cls = RX3) : Cond.fieldLink (zMy M).cls 25 "LampPlate$Plate" "kind" "[I" ∈ ztbl := by rw [h]; exact zin 111 (by decide +kernel) rfl
theorem zf_RX3_28 (M : zM) (h : (zMy M).cls = RX3) : Cond.fieldLink (zMy M).cls 28 "LampPlate$Plate" "place" "[I" ∈ ztbl := by rw [h]; exact zin 114 (by decide +kernel) rfl
theorem zf_RX3_31 (M : zM) (h : (zMy M).cls = RX3) : Cond.fieldLink (zMy M).cls 31 "LampPlate$Plate" "add" "[I" ∈ ztbl := by rw [h]; exact zin 115 (by decide +kernel) rfl
theorem zf_RX3_34 (M : zM) (h : (zMy M).cls = RX3) : Cond.fieldLink (zMy M).cls 34 "LampPlate$Plate" "other" "[I" ∈ ztbl := by rw [h]; exact zin 116 (by decide +kernel) rfl
theorem zf_RX3_37 (M : zM) (h : (zMy M).cls = RX3) : Cond.fieldLink (zMy M).cls 37 "LampPlate$Plate" "price" "[I" ∈ ztbl := by rw [h]; exact zin 117 (by decide +kernel) rfl
theorem zf_RX3_40 (M : zM) (h : (zMy M).cls = RX3) : Cond.fieldLink (zMy M).cls 40 "LampPlate$Plate" "wired" "[I" ∈ ztbl := by rw [h]; exact zin 121 (by decide +kernel) rfl
theorem zf_RX3_43 (M : zM) (h : (zMy M).cls = RX3) : Cond.fieldLink (zMy M).cls 43 "LampPlate$Plate" "buttons" "I" ∈ ztbl := by rw [h]; exact zin 101 (by decide +kernel) rfl
theorem zf_RX3_46 (M : zM) (h : (zMy M).cls = RX3) : Cond.fieldLink (zMy M).cls 46 "LampPlate$Plate" "wirings" "I" ∈ ztbl := by rw [h]; exact zin 105 (by decide +kernel) rfl
theorem zk_RX3_49 (M : zM) (h : (zMy M).cls = RX3) : zcS M zm_J7_fill_53178 2 49 := ⟨zc_J7_fill_53178, (by rw [h]; exact zin 249 (by decide +kernel) rfl), zs_J7_fill_53178⟩
theorem zk_RX3_55 (M : zM) (h : (zMy M).cls = RX3) : Cond.methodLink (zMy M).cls 55 arraycopyName ∈ ztbl := by rw [h]; exact zin 407 (by decide +kernel) rfl
theorem zk_RX3_61 (M : zM) (h : (zMy M).cls = RX3) : zcV M zm_X3_hasLamp 1 61 3 := ⟨zc_X3_hasLamp, (by rw [h]; exact zin 264 (by decide +kernel) rfl), zs_X3_hasLamp, zq_X3_hasLamp, _, rfl, rfl⟩
theorem zk_RX3_65 (M : zM) (h : (zMy M).cls = RX3) : zcV M zm_X3_hasLine 1 65 3 := ⟨zc_X3_hasLine, (by rw [h]; exact zin 268 (by decide +kernel) rfl), zs_X3_hasLine, zq_X3_hasLine, _, rfl, rfl⟩
theorem zk_RX3_68 (M : zM) (h : (zMy M).cls = RX3) : zcV M zm_X3_hasButton 1 68 3 := ⟨zc_X3_hasButton, (by rw [h]; exact zin 272 (by decide +kernel) rfl), zs_X3_hasButton, zq_X3_hasButton, _, rfl, rfl⟩
theorem zk_RX3_71 (M : zM) (h : (zMy M).cls = RX3) : zcV M zm_X0_stepsFor 2 71 0 := ⟨zc_X0_stepsFor, (by rw [h]; exact zin 322 (by decide +kernel) rfl), zs_X0_stepsFor, zq_X0_stepsFor, _, rfl, rfl⟩
theorem zk_RX3_77 (M : zM) (h : (zMy M).cls = RX3) : zcV M zm_X3_ownStepAt 2 77 3 := ⟨zc_X3_ownStepAt, (by rw [h]; exact zin 355 (by decide +kernel) rfl), zs_X3_ownStepAt, zq_X3_ownStepAt, _, rfl, rfl⟩
theorem zk_RX3_80 (M : zM) (h : (zMy M).cls = RX3) : zcV M zm_X3_isOnLine 2 80 3 := ⟨zc_X3_isOnLine, (by rw [h]; exact zin 359 (by decide +kernel) rfl), zs_X3_isOnLine, zq_X3_isOnLine, _, rfl, rfl⟩
theorem zk_RX3_84 (M : zM) (h : (zMy M).cls = RX3) : zcV M zm_X3_isInCross 2 84 3 := ⟨zc_X3_isInCross, (by rw [h]; exact zin 363 (by decide +kernel) rfl), zs_X3_isInCross, zq_X3_isInCross, _, rfl, rfl⟩
theorem zk_RX3_87 (M : zM) (h : (zMy M).cls = RX3) : zcS M zm_J9_abs_0f7a4 1 87 := ⟨zc_J9_abs_0f7a4, (by rw [h]; exact zin 367 (by decide +kernel) rfl), zs_J9_abs_0f7a4⟩
theorem zk_RX3_93 (M : zM) (h : (zMy M).cls = RX3) : zcV M zm_X3_stepAt 2 93 3 := ⟨zc_X3_stepAt, (by rw [h]; exact zin 351 (by decide +kernel) rfl), zs_X3_stepAt, zq_X3_stepAt, _, rfl, rfl⟩
theorem zk_RX3_96 (M : zM) (h : (zMy M).cls = RX3) : zcV M zm_X3_turn 2 96 3 := ⟨zc_X3_turn, (by rw [h]; exact zin 370 (by decide +kernel) rfl), zs_X3_turn, zq_X3_turn, _, rfl, rfl⟩
theorem zk_RX3_99 (M : zM) (h : (zMy M).cls = RX3) : zcV M zm_X3_patternAt 2 99 3 := ⟨zc_X3_patternAt, (by rw [h]; exact zin 849 (by decide +kernel) rfl), zs_X3_patternAt, zq_X3_patternAt, _, rfl, rfl⟩
theorem zk_RX3_103 (M : zM) (h : (zMy M).cls = RX3) : zcV M zm_X3_pushOne 2 103 3 := ⟨zc_X3_pushOne, (by rw [h]; exact zin 386 (by decide +kernel) rfl), zs_X3_pushOne, zq_X3_pushOne, _, rfl, rfl⟩
theorem zk_RX3_106 (M : zM) (h : (zMy M).cls = RX3) : zcV M zm_X3_allBelowColours 2 106 3 := ⟨zc_X3_allBelowColours, (by rw [h]; exact zin 837 (by decide +kernel) rfl), zs_X3_allBelowColours, zq_X3_allBelowColours, _, rfl, rfl⟩
theorem zk_RX3_110 (M : zM) (h : (zMy M).cls = RX3) : zcV M zm_X3_firstStuckPushed 1 110 3 := ⟨zc_X3_firstStuckPushed, (by rw [h]; exact zin 841 (by decide +kernel) rfl), zs_X3_firstStuckPushed, zq_X3_firstStuckPushed, _, rfl, rfl⟩
theorem zk_RX4_3 (M : zM) (h : (zMy M).cls = RX4) : Cond.methodLink (zMy M).cls 3 objectInit ∈ ztbl := by rw [h]; exact zin 721 (by decide +kernel) rfl
theorem zf_RX4_9 (M : zM) (h : (zMy M).cls = RX4) : Cond.fieldLink (zMy M).cls 9 "LampPlate$Search" "columnOf" "[I" ∈ ztbl := by rw [h]; exact zin 726 (by decide +kernel) rfl
theorem zf_RX4_17 (M : zM) (h : (zMy M).cls = RX4) : Cond.fieldLink (zMy M).cls 17 "LampPlate$Search" "price" "[I" ∈ ztbl := by rw [h]; exact zin 727 (by decide +kernel) rfl
theorem zf_RX4_20 (M : zM) (h : (zMy M).cls = RX4) : Cond.fieldLink (zMy M).cls 20 "LampPlate$Search" "vector" "[I" ∈ ztbl := by rw [h]; exact zin 728 (by decide +kernel) rfl
theorem zf_RX4_23 (M : zM) (h : (zMy M).cls = RX4) : Cond.fieldLink (zMy M).cls 23 "LampPlate$Search" "found" "[I" ∈ ztbl := by rw [h]; exact zin 730 (by decide +kernel) rfl
theorem zf_RX4_26 (M : zM) (h : (zMy M).cls = RX4) : Cond.fieldLink (zMy M).cls 26 "LampPlate$Search" "picked" "[I" ∈ ztbl := by rw [h]; exact zin 732 (by decide +kernel) rfl
theorem zf_RX4_29 (M : zM) (h : (zMy M).cls = RX4) : Cond.fieldLink (zMy M).cls 29 "LampPlate$Search" "hardest" "[I" ∈ ztbl := by rw [h]; exact zin 735 (by decide +kernel) rfl
theorem zf_RX4_32 (M : zM) (h : (zMy M).cls = RX4) : Cond.fieldLink (zMy M).cls 32 "LampPlate$Search" "form" "LLampPlate$Form;" ∈ ztbl := by rw [h]; exact zin 722 (by decide +kernel) rfl
theorem zf_RX4_36 (M : zM) (h : (zMy M).cls = RX4) : Cond.fieldLink (zMy M).cls 36 "LampPlate$Search" "steps" "[I" ∈ ztbl := by rw [h]; exact zin 723 (by decide +kernel) rfl
theorem zf_RX4_39 (M : zM) (h : (zMy M).cls = RX4) : Cond.fieldLink (zMy M).cls 39 "LampPlate$Search" "lamps" "I" ∈ ztbl := by rw [h]; exact zin 724 (by decide +kernel) rfl
theorem zf_RX4_43 (M : zM) (h : (zMy M).cls = RX4) : Cond.fieldLink (zMy M).cls 43 "LampPlate$Search" "levels" "I" ∈ ztbl := by rw [h]; exact zin 725 (by decide +kernel) rfl
theorem zf_RX4_46 (M : zM) (h : (zMy M).cls = RX4) : Cond.fieldLink (zMy M).cls 46 "LampPlate$Search" "greatest" "I" ∈ ztbl := by rw [h]; exact zin 733 (by decide +kernel) rfl
theorem zf_RX4_49 (M : zM) (h : (zMy M).cls = RX4) : Cond.fieldLink (zMy M).cls 49 "LampPlate$Form" "heads" "I" ∈ ztbl := by rw [h]; exact zin 456 (by decide +kernel) rfl
theorem zf_RX4_52 (M : zM) (h : (zMy M).cls = RX4) : Cond.fieldLink (zMy M).cls 52 "LampPlate$Form" "wide" "I" ∈ ztbl := by rw [h]; exact zin 459 (by decide +kernel) rfl
theorem zf_RX4_55 (M : zM) (h : (zMy M).cls = RX4) : Cond.fieldLink (zMy M).cls 55 "LampPlate$Form" "lead" "[I" ∈ ztbl := by rw [h]; exact zin 463 (by decide +kernel) rfl
theorem zk_RX4_58 (M : zM) (h : (zMy M).cls = RX4) : Cond.methodLink (zMy M).cls 58 arraycopyName ∈ ztbl := by rw [h]; exact zin 786 (by decide +kernel) rfl
theorem zd_RX4_64 (M : zM) (h : (zMy M).cls = RX4) : Cond.constant (zMy M).cls 64 432000 ∈ ztbl := by rw [h]; exact zin 787 (by decide +kernel) rfl
theorem zf_RX4_65 (M : zM) (h : (zMy M).cls = RX4) : Cond.fieldLink (zMy M).cls 65 "LampPlate$Search" "best" "I" ∈ ztbl := by rw [h]; exact zin 729 (by decide +kernel) rfl
theorem zk_RX4_68 (M : zM) (h : (zMy M).cls = RX4) : zcS M zm_X4_explore 3 68 := ⟨zc_X4_explore, (by rw [h]; exact zin 788 (by decide +kernel) rfl), zs_X4_explore⟩
theorem zk_RX4_72 (M : zM) (h : (zMy M).cls = RX4) : zcV M zm_X4_endOf 1 72 4 := ⟨zc_X4_endOf, (by rw [h]; exact zin 774 (by decide +kernel) rfl), zs_X4_endOf, zq_X4_endOf, _, rfl, rfl⟩
theorem zk_RX4_76 (M : zM) (h : (zMy M).cls = RX4) : zcV M zm_X4_costOf 3 76 4 := ⟨zc_X4_costOf, (by rw [h]; exact zin 778 (by decide +kernel) rfl), zs_X4_costOf, zq_X4_costOf, _, rfl, rfl⟩
theorem zk_RX4_80 (M : zM) (h : (zMy M).cls = RX4) : zcV M zm_X4_findCheapest 2 80 4 := ⟨zc_X4_findCheapest, (by rw [h]; exact zin 782 (by decide +kernel) rfl), zs_X4_findCheapest, zq_X4_findCheapest, _, rfl, rfl⟩
theorem zk_RX4_84 (M : zM) (h : (zMy M).cls = RX4) : zcV M zm_X4_takeFound 1 84 4 := ⟨zc_X4_takeFound, (by rw [h]; exact zin 791 (by decide +kernel) rfl), zs_X4_takeFound, zq_X4_takeFound, _, rfl, rfl⟩
theorem zk_RX4_88 (M : zM) (h : (zMy M).cls = RX4) : zcS M zm_J9_max_7cf53 2 88 := ⟨zc_J9_max_7cf53, (by rw [h]; exact zin 795 (by decide +kernel) rfl), zs_J9_max_7cf53⟩
theorem zk_RX4_94 (M : zM) (h : (zMy M).cls = RX4) : zcV M zm_X1_reduce 4 94 1 := ⟨zc_X1_reduce, (by rw [h]; exact zin 796 (by decide +kernel) rfl), zs_X1_reduce, zq_X1_reduce, _, rfl, rfl⟩
theorem zf_RX4_98 (M : zM) (h : (zMy M).cls = RX4) : Cond.fieldLink (zMy M).cls 98 "LampPlate$Form" "colours" "I" ∈ ztbl := by rw [h]; exact zin 454 (by decide +kernel) rfl
theorem zk_RX4_101 (M : zM) (h : (zMy M).cls = RX4) : zcV M zm_X1_addRow 2 101 1 := ⟨zc_X1_addRow, (by rw [h]; exact zin 797 (by decide +kernel) rfl), zs_X1_addRow, zq_X1_addRow, _, rfl, rfl⟩
theorem zk_RX4_105 (M : zM) (h : (zMy M).cls = RX4) : zcS M zm_X4_pickFrom 3 105 := ⟨zc_X4_pickFrom, (by rw [h]; exact zin 814 (by decide +kernel) rfl), zs_X4_pickFrom⟩
theorem zk_RX4_108 (M : zM) (h : (zMy M).cls = RX4) : zcV M zm_X4_takePicked 1 108 4 := ⟨zc_X4_takePicked, (by rw [h]; exact zin 817 (by decide +kernel) rfl), zs_X4_takePicked, zq_X4_takePicked, _, rfl, rfl⟩
theorem zk_RX4_111 (M : zM) (h : (zMy M).cls = RX4) : zcV M zm_X4_isPickedAhead 0 111 4 := ⟨zc_X4_isPickedAhead, (by rw [h]; exact zin 821 (by decide +kernel) rfl), zs_X4_isPickedAhead, zq_X4_isPickedAhead, _, rfl, rfl⟩
theorem zk_RX4_115 (M : zM) (h : (zMy M).cls = RX4) : zcV M zm_X4_pickedAt 1 115 4 := ⟨zc_X4_pickedAt, (by rw [h]; exact zin 825 (by decide +kernel) rfl), zs_X4_pickedAt, zq_X4_pickedAt, _, rfl, rfl⟩
theorem zk_RX5_3 (M : zM) (h : (zMy M).cls = RX5) : Cond.methodLink (zMy M).cls 3 objectInit ∈ ztbl := by rw [h]; exact zin 446 (by decide +kernel) rfl
theorem zf_RX5_9 (M : zM) (h : (zMy M).cls = RX5) : Cond.fieldLink (zMy M).cls 9 "LampPlate$Solver" "stepsAt" "I" ∈ ztbl := by rw [h]; exact zin 488 (by decide +kernel) rfl
theorem zf_RX5_15 (M : zM) (h : (zMy M).cls = RX5) : Cond.fieldLink (zMy M).cls 15 "LampPlate$Solver" "weightsAt" "I" ∈ ztbl := by rw [h]; exact zin 489 (by decide +kernel) rfl
theorem zf_RX5_18 (M : zM) (h : (zMy M).cls = RX5) : Cond.fieldLink (zMy M).cls 18 "LampPlate$Solver" "buttonOf" "[I" ∈ ztbl := by rw [h]; exact zin 494 (by decide +kernel) rfl
theorem zf_RX5_22 (M : zM) (h : (zMy M).cls = RX5) : Cond.fieldLink (zMy M).cls 22 "LampPlate$Solver" "steps" "[I" ∈ ztbl := by rw [h]; exact zin 495 (by decide +kernel) rfl
theorem zn_RX5_25 (M : zM) (h : (zMy M).cls = RX5) : Cond.classLink (zMy M).cls 25 "LampPlate$Form" ∈ ztbl := by rw [h]; exact zin 447 (by decide +kernel) rfl
theorem zf_RX5_27 (M : zM) (h : (zMy M).cls = RX5) : Cond.fieldLink (zMy M).cls 27 "LampPlate$Solver" "vector" "[I" ∈ ztbl := by rw [h]; exact zin 496 (by decide +kernel) rfl
theorem zf_RX5_30 (M : zM) (h : (zMy M).cls = RX5) : Cond.fieldLink (zMy M).cls 30 "LampPlate$Solver" "plate" "LLampPlate$Plate;" ∈ ztbl := by rw [h]; exact zin 487 (by decide +kernel) rfl
theorem zk_RX5_34 (M : zM) (h : (zMy M).cls = RX5) : zcI M zm_X1_init 1 34 := ⟨zc_X1_init, rfl, rfl, Or.inl (by rw [h]; exact zin 449 (by decide +kernel) rfl), zs_X1_init⟩
theorem zf_RX5_37 (M : zM) (h : (zMy M).cls = RX5) : Cond.fieldLink (zMy M).cls 37 "LampPlate$Solver" "quiet" "LLampPlate$Form;" ∈ ztbl := by rw [h]; exact zin 490 (by decide +kernel) rfl
theorem zf_RX5_41 (M : zM) (h : (zMy M).cls = RX5) : Cond.fieldLink (zMy M).cls 41 "LampPlate$Plate" "wirings" "I" ∈ ztbl := by rw [h]; exact zin 104 (by decide +kernel) rfl
theorem zf_RX5_46 (M : zM) (h : (zMy M).cls = RX5) : Cond.fieldLink (zMy M).cls 46 "LampPlate$Solver" "free" "I" ∈ ztbl := by rw [h]; exact zin 493 (by decide +kernel) rfl
theorem zf_RX5_49 (M : zM) (h : (zMy M).cls = RX5) : Cond.fieldLink (zMy M).cls 49 "LampPlate$Plate" "buttons" "I" ∈ ztbl := by rw [h]; exact zin 102 (by decide +kernel) rfl
theorem zf_RX5_52 (M : zM) (h : (zMy M).cls = RX5) : Cond.fieldLink (zMy M).cls 52 "LampPlate$Plate" "kind" "[I" ∈ ztbl := by rw [h]; exact zin 112 (by decide +kernel) rfl
theorem zf_RX5_55 (M : zM) (h : (zMy M).cls = RX5) : Cond.fieldLink (zMy M).cls 55 "LampPlate$Plate" "colours" "I" ∈ ztbl := by rw [h]; exact zin 97 (by decide +kernel) rfl
theorem zf_RX5_58 (M : zM) (h : (zMy M).cls = RX5) : Cond.fieldLink (zMy M).cls 58 "LampPlate$Plate" "lamps" "I" ∈ ztbl := by rw [h]; exact zin 94 (by decide +kernel) rfl
theorem zk_RX5_61 (M : zM) (h : (zMy M).cls = RX5) : zcV M zm_X1_begin 3 61 1 := ⟨zc_X1_begin, (by rw [h]; exact zin 522 (by decide +kernel) rfl), zs_X1_begin, zq_X1_begin, _, rfl, rfl⟩
theorem zk_RX5_65 (M : zM) (h : (zMy M).cls = RX5) : zcV M zm_X3_stepAt 2 65 3 := ⟨zc_X3_stepAt, (by rw [h]; exact zin 533 (by decide +kernel) rfl), zs_X3_stepAt, zq_X3_stepAt, _, rfl, rfl⟩
theorem zk_RX5_69 (M : zM) (h : (zMy M).cls = RX5) : zcV M zm_X1_putHead 3 69 1 := ⟨zc_X1_putHead, (by rw [h]; exact zin 534 (by decide +kernel) rfl), zs_X1_putHead, zq_X1_putHead, _, rfl, rfl⟩
theorem zk_RX5_72 (M : zM) (h : (zMy M).cls = RX5) : zcV M zm_X1_build 0 72 1 := ⟨zc_X1_build, (by rw [h]; exact zin 538 (by decide +kernel) rfl), zs_X1_build, zq_X1_build, _, rfl, rfl⟩
theorem zf_RX5_75 (M : zM) (h : (zMy M).cls = RX5) : Cond.fieldLink (zMy M).cls 75 "LampPlate$Solver" "weights" "LLampPlate$Form;" ∈ ztbl := by rw [h]; exact zin 491 (by decide +kernel) rfl
theorem zf_RX5_78 (M : zM) (h : (zMy M).cls = RX5) : Cond.fieldLink (zMy M).cls 78 "LampPlate$Form" "work" "[I" ∈ ztbl := by rw [h]; exact zin 468 (by decide +kernel) rfl
theorem zk_RX5_81 (M : zM) (h : (zMy M).cls = RX5) : zcV M zm_X1_countElements 0 81 1 := ⟨zc_X1_countElements, (by rw [h]; exact zin 673 (by decide +kernel) rfl), zs_X1_countElements, zq_X1_countElements, _, rfl, rfl⟩
theorem zk_RX5_85 (M : zM) (h : (zMy M).cls = RX5) : zcV M zm_X5_freshWeights 0 85 5 := ⟨zc_X5_freshWeights, (by rw [h]; exact zin 597 (by decide +kernel) rfl), zs_X5_freshWeights, zq_X5_freshWeights, _, rfl, rfl⟩
theorem zk_RX5_89 (M : zM) (h : (zMy M).cls = RX5) : zcS M zm_J7_fill_53178 2 89 := ⟨zc_J7_fill_53178, (by rw [h]; exact zin 574 (by decide +kernel) rfl), zs_J7_fill_53178⟩
theorem zf_RX5_95 (M : zM) (h : (zMy M).cls = RX5) : Cond.fieldLink (zMy M).cls 95 "LampPlate$Plate" "shown" "[I" ∈ ztbl := by rw [h]; exact zin 109 (by decide +kernel) rfl
theorem zk_RX5_98 (M : zM) (h : (zMy M).cls = RX5) : zcV M zm_X1_reduceHead 1 98 1 := ⟨zc_X1_reduceHead, (by rw [h]; exact zin 575 (by decide +kernel) rfl), zs_X1_reduceHead, zq_X1_reduceHead, _, rfl, rfl⟩
theorem zf_RX5_102 (M : zM) (h : (zMy M).cls = RX5) : Cond.fieldLink (zMy M).cls 102 "LampPlate$Form" "heads" "I" ∈ ztbl := by rw [h]; exact zin 457 (by decide +kernel) rfl
theorem zf_RX5_105 (M : zM) (h : (zMy M).cls = RX5) : Cond.fieldLink (zMy M).cls 105 "LampPlate$Form" "wide" "I" ∈ ztbl := by rw [h]; exact zin 460 (by decide +kernel) rfl
theorem zk_RX5_108 (M : zM) (h : (zMy M).cls = RX5) : zcV M zm_X1_reduce 4 108 1 := ⟨zc_X1_reduce, (by rw [h]; exact zin 579 (by decide +kernel) rfl), zs_X1_reduce, zq_X1_reduce, _, rfl, rfl⟩
theorem zk_RX5_112 (M : zM) (h : (zMy M).cls = RX5) : zcV M zm_X5_tellTail 2 112 5 := ⟨zc_X5_tellTail, (by rw [h]; exact zin 584 (by decide +kernel) rfl), zs_X5_tellTail, zq_X5_tellTail, _, rfl, rfl⟩
theorem zk_RX5_118 (M : zM) (h : (zMy M).cls = RX5) : zcV M zm_X6_begin 2 118 6 := ⟨zc_X6_begin, (by rw [h]; exact zin 588 (by decide +kernel) rfl), zs_X6_begin, zq_X6_begin, _, rfl, rfl⟩
theorem zf_RX5_121 (M : zM) (h : (zMy M).cls = RX5) : Cond.fieldLink (zMy M).cls 121 "LampPlate$Told" "numbers" "[I" ∈ ztbl := by rw [h]; exact zin 205 (by decide +kernel) rfl
theorem zk_RX5_124 (M : zM) (h : (zMy M).cls = RX5) : zcV M zm_X1_stepTail 1 124 1 := ⟨zc_X1_stepTail, (by rw [h]; exact zin 622 (by decide +kernel) rfl), zs_X1_stepTail, zq_X1_stepTail, _, rfl, rfl⟩
theorem zk_RX5_127 (M : zM) (h : (zMy M).cls = RX5) : zcV M zm_X5_tellPushing 1 127 5 := ⟨zc_X5_tellPushing, (by rw [h]; exact zin 630 (by decide +kernel) rfl), zs_X5_tellPushing, zq_X5_tellPushing, _, rfl, rfl⟩
theorem zf_RX5_131 (M : zM) (h : (zMy M).cls = RX5) : Cond.fieldLink (zMy M).cls 131 "LampPlate$Told" "goesOn" "Z" ∈ ztbl := by rw [h]; exact zin 202 (by decide +kernel) rfl
theorem zk_RX5_135 (M : zM) (h : (zMy M).cls = RX5) : zcV M zm_X1_tailOf 1 135 1 := ⟨zc_X1_tailOf, (by rw [h]; exact zin 601 (by decide +kernel) rfl), zs_X1_tailOf, zq_X1_tailOf, _, rfl, rfl⟩
theorem zf_RX5_139 (M : zM) (h : (zMy M).cls = RX5) : Cond.fieldLink (zMy M).cls 139 "LampPlate$Form" "lead" "[I" ∈ ztbl := by rw [h]; exact zin 464 (by decide +kernel) rfl
theorem zf_RX5_142 (M : zM) (h : (zMy M).cls = RX5) : Cond.fieldLink (zMy M).cls 142 "LampPlate$Form" "rows" "[I" ∈ ztbl := by rw [h]; exact zin 466 (by decide +kernel) rfl
theorem zk_RX5_145 (M : zM) (h : (zMy M).cls = RX5) : zcV M zm_X3_weighShown 2 145 3 := ⟨zc_X3_weighShown, (by rw [h]; exact zin 605 (by decide +kernel) rfl), zs_X3_weighShown, zq_X3_weighShown, _, rfl, rfl⟩
theorem zk_RX5_149 (M : zM) (h : (zMy M).cls = RX5) : zcV M zm_X5_tellByLamps 3 149 5 := ⟨zc_X5_tellByLamps, (by rw [h]; exact zin 609 (by decide +kernel) rfl), zs_X5_tellByLamps, zq_X5_tellByLamps, _, rfl, rfl⟩
theorem zk_RX5_153 (M : zM) (h : (zMy M).cls = RX5) : Cond.methodLink (zMy M).cls 153 arraycopyName ∈ ztbl := by rw [h]; exact zin 613 (by decide +kernel) rfl
theorem zk_RX5_159 (M : zM) (h : (zMy M).cls = RX5) : zcV M zm_X1_columnOfElement 1 159 1 := ⟨zc_X1_columnOfElement, (by rw [h]; exact zin 689 (by decide +kernel) rfl), zs_X1_columnOfElement, zq_X1_columnOfElement, _, rfl, rfl⟩
theorem zk_RX5_162 (M : zM) (h : (zMy M).cls = RX5) : zcS M zm_X5_howOften 2 162 := ⟨zc_X5_howOften, (by rw [h]; exact zin 647 (by decide +kernel) rfl), zs_X5_howOften⟩
theorem zk_RX5_165 (M : zM) (h : (zMy M).cls = RX5) : zcV M zm_X1_orderAt 1 165 1 := ⟨zc_X1_orderAt, (by rw [h]; exact zin 654 (by decide +kernel) rfl), zs_X1_orderAt, zq_X1_orderAt, _, rfl, rfl⟩
theorem zk_RX5_168 (M : zM) (h : (zMy M).cls = RX5) : zcV M zm_X5_primesOfAll 1 168 5 := ⟨zc_X5_primesOfAll, (by rw [h]; exact zin 643 (by decide +kernel) rfl), zs_X5_primesOfAll, zq_X5_primesOfAll, _, rfl, rfl⟩
theorem zk_RX5_171 (M : zM) (h : (zMy M).cls = RX5) : zcV M zm_X5_primesOfQuiet 1 171 5 := ⟨zc_X5_primesOfQuiet, (by rw [h]; exact zin 650 (by decide +kernel) rfl), zs_X5_primesOfQuiet, zq_X5_primesOfQuiet, _, rfl, rfl⟩
theorem zk_RX5_174 (M : zM) (h : (zMy M).cls = RX5) : zcV M zm_X5_primesOfPatterns 1 174 5 := ⟨zc_X5_primesOfPatterns, (by rw [h]; exact zin 664 (by decide +kernel) rfl), zs_X5_primesOfPatterns, zq_X5_primesOfPatterns, _, rfl, rfl⟩
theorem zd_RX5_177 (M : zM) (h : (zMy M).cls = RX5) : Cond.constant (zMy M).cls 177 65536 ∈ ztbl := by rw [h]; exact zin 706 (by decide +kernel) rfl
theorem zf_RX5_178 (M : zM) (h : (zMy M).cls = RX5) : Cond.fieldLink (zMy M).cls 178 "LampPlate$Solver" "search" "LLampPlate$Search;" ∈ ztbl := by rw [h]; exact zin 492 (by decide +kernel) rfl
theorem zn_RX5_182 (M : zM) (h : (zMy M).cls = RX5) : Cond.classLink (zMy M).cls 182 "LampPlate$Search" ∈ ztbl := by rw [h]; exact zin 716 (by decide +kernel) rfl
theorem zk_RX5_184 (M : zM) (h : (zMy M).cls = RX5) : zcI M zm_X4_init 2 184 := ⟨zc_X4_init, rfl, rfl, Or.inl (by rw [h]; exact zin 718 (by decide +kernel) rfl), zs_X4_init⟩
theorem zk_RX5_187 (M : zM) (h : (zMy M).cls = RX5) : zcV M zm_X4_begin 1 187 4 := ⟨zc_X4_begin, (by rw [h]; exact zin 762 (by decide +kernel) rfl), zs_X4_begin, zq_X4_begin, _, rfl, rfl⟩
theorem zf_RX5_190 (M : zM) (h : (zMy M).cls = RX5) : Cond.fieldLink (zMy M).cls 190 "LampPlate$Plate" "price" "[I" ∈ ztbl := by rw [h]; exact zin 120 (by decide +kernel) rfl
theorem zk_RX5_193 (M : zM) (h : (zMy M).cls = RX5) : zcV M zm_X4_putPrice 2 193 4 := ⟨zc_X4_putPrice, (by rw [h]; exact zin 766 (by decide +kernel) rfl), zs_X4_putPrice, zq_X4_putPrice, _, rfl, rfl⟩
theorem zk_RX5_196 (M : zM) (h : (zMy M).cls = RX5) : zcV M zm_X5_freshSearch 0 196 5 := ⟨zc_X5_freshSearch, (by rw [h]; exact zin 712 (by decide +kernel) rfl), zs_X5_freshSearch, zq_X5_freshSearch, _, rfl, rfl⟩
theorem zk_RX5_200 (M : zM) (h : (zMy M).cls = RX5) : zcV M zm_X4_findCheapestFor 1 200 4 := ⟨zc_X4_findCheapestFor, (by rw [h]; exact zin 770 (by decide +kernel) rfl), zs_X4_findCheapestFor, zq_X4_findCheapestFor, _, rfl, rfl⟩
theorem zf_RX5_204 (M : zM) (h : (zMy M).cls = RX5) : Cond.fieldLink (zMy M).cls 204 "LampPlate$Search" "found" "[I" ∈ ztbl := by rw [h]; exact zin 731 (by decide +kernel) rfl
theorem zk_RX5_207 (M : zM) (h : (zMy M).cls = RX5) : zcV M zm_X4_findHardest 0 207 4 := ⟨zc_X4_findHardest, (by rw [h]; exact zin 810 (by decide +kernel) rfl), zs_X4_findHardest, zq_X4_findHardest, _, rfl, rfl⟩
theorem zf_RX5_210 (M : zM) (h : (zMy M).cls = RX5) : Cond.fieldLink (zMy M).cls 210 "LampPlate$Search" "hardest" "[I" ∈ ztbl := by rw [h]; exact zin 736 (by decide +kernel) rfl
theorem zf_RX5_213 (M : zM) (h : (zMy M).cls = RX5) : Cond.fieldLink (zMy M).cls 213 "LampPlate$Search" "greatest" "I" ∈ ztbl := by rw [h]; exact zin 734 (by decide +kernel) rfl
theorem zk_RX6_3 (M : zM) (h : (zMy M).cls = RX6) : Cond.methodLink (zMy M).cls 3 objectInit ∈ ztbl := by rw [h]; exact zin 196 (by decide +kernel) rfl
theorem zf_RX6_11 (M : zM) (h : (zMy M).cls = RX6) : Cond.fieldLink (zMy M).cls 11 "LampPlate$Told" "kind" "I" ∈ ztbl := by rw [h]; exact zin 197 (by decide +kernel) rfl
theorem zf_RX6_15 (M : zM) (h : (zMy M).cls = RX6) : Cond.fieldLink (zMy M).cls 15 "LampPlate$Told" "numbers" "[I" ∈ ztbl := by rw [h]; exact zin 204 (by decide +kernel) rfl
theorem zf_RX6_19 (M : zM) (h : (zMy M).cls = RX6) : Cond.fieldLink (zMy M).cls 19 "LampPlate$Told" "size" "I" ∈ ztbl := by rw [h]; exact zin 199 (by decide +kernel) rfl
theorem zf_RX6_22 (M : zM) (h : (zMy M).cls = RX6) : Cond.fieldLink (zMy M).cls 22 "LampPlate$Told" "goesOn" "Z" ∈ ztbl := by rw [h]; exact zin 201 (by decide +kernel) rfl
theorem zk_RX6_26 (M : zM) (h : (zMy M).cls = RX6) : zcS M zm_J7_fill_53178 2 26 := ⟨zc_J7_fill_53178, (by rw [h]; exact zin 592 (by decide +kernel) rfl), zs_J7_fill_53178⟩
theorem zn_RL_7 (M : zM) (h : (zMy M).cls = RL) : Cond.classLink (zMy M).cls 7 "LampPlate" ∈ ztbl := by rw [h]; exact zin 79 (by decide +kernel) rfl
theorem zk_RL_9 (M : zM) (h : (zMy M).cls = RL) : zcI M zm_X7_init 0 9 := ⟨zc_X7_init, rfl, rfl, Or.inl (by rw [h]; exact zin 81 (by decide +kernel) rfl), zs_X7_init⟩
theorem zn_RL_10 (M : zM) (h : (zMy M).cls = RL) : Cond.classLink (zMy M).cls 10 "LampPlateModel" ∈ ztbl := by rw [h]; exact zin 877 (by decide +kernel) rfl
theorem zk_RL_12 (M : zM) (h : (zMy M).cls = RL) : zcI M zm_X8_init 0 12 := ⟨zc_X8_init, rfl, rfl, Or.inl (by rw [h]; exact zin 879 (by decide +kernel) rfl), zs_X8_init⟩
theorem zk_RL_13 (M : zM) (h : (zMy M).cls = RL) : zcV M zm_X7_plate 3 13 7 := ⟨zc_X7_plate, (by rw [h]; exact zin 241 (by decide +kernel) rfl), zs_X7_plate, zq_X7_plate, _, rfl, rfl⟩
theorem zk_RL_17 (M : zM) (h : (zMy M).cls = RL) : zcV M zm_X8_plate 3 17 8 := ⟨zc_X8_plate, (by rw [h]; exact zin 965 (by decide +kernel) rfl), zs_X8_plate, zq_X8_plate, _, rfl, rfl⟩
theorem zk_RL_18 (M : zM) (h : (zMy M).cls = RL) : zcV M zm_X7_button 4 18 7 := ⟨zc_X7_button, (by rw [h]; exact zin 256 (by decide +kernel) rfl), zs_X7_button, zq_X7_button, _, rfl, rfl⟩
theorem zk_RL_22 (M : zM) (h : (zMy M).cls = RL) : zcV M zm_X8_button 4 22 8 := ⟨zc_X8_button, (by rw [h]; exact zin 975 (by decide +kernel) rfl), zs_X8_button, zq_X8_button, _, rfl, rfl⟩
theorem zk_RL_23 (M : zM) (h : (zMy M).cls = RL) : zcV M zm_X7_board 2 23 7 := ⟨zc_X7_board, (by rw [h]; exact zin 294 (by decide +kernel) rfl), zs_X7_board, zq_X7_board, _, rfl, rfl⟩
theorem zk_RL_27 (M : zM) (h : (zMy M).cls = RL) : zcV M zm_X8_board 2 27 8 := ⟨zc_X8_board, (by rw [h]; exact zin 1004 (by decide +kernel) rfl), zs_X8_board, zq_X8_board, _, rfl, rfl⟩
theorem zd_RL_28 (M : zM) (h : (zMy M).cls = RL) : Cond.constantLong (zMy M).cls 28 4294967295 ∈ ztbl := by rw [h]; exact zin 1253 (by decide +kernel) rfl
theorem zk_RL_30 (M : zM) (h : (zMy M).cls = RL) : zcV M zm_X7_entry 2 30 7 := ⟨zc_X7_entry, (by rw [h]; exact zin 305 (by decide +kernel) rfl), zs_X7_entry, zq_X7_entry, _, rfl, rfl⟩
theorem zk_RL_34 (M : zM) (h : (zMy M).cls = RL) : zcV M zm_X8_entry 2 34 8 := ⟨zc_X8_entry, (by rw [h]; exact zin 1009 (by decide +kernel) rfl), zs_X8_entry, zq_X8_entry, _, rfl, rfl⟩
theorem zk_RL_35 (M : zM) (h : (zMy M).cls = RL) : zcV M zm_X7_wire 1 35 7 := ⟨zc_X7_wire, (by rw [h]; exact zin 313 (by decide +kernel) rfl), zs_X7_wire, zq_X7_wire, _, rfl, rfl⟩
theorem zk_RL_39 (M : zM) (h : (zMy M).cls = RL) : zcV M zm_X8_wire 1 39 8 := ⟨zc_X8_wire, (by rw [h]; exact zin 1014 (by decide +kernel) rfl), zs_X8_wire, zq_X8_wire, _, rfl, rfl⟩
theorem zk_RL_40 (M : zM) (h : (zMy M).cls = RL) : zcV M zm_X7_cost 2 40 7 := ⟨zc_X7_cost, (by rw [h]; exact zin 333 (by decide +kernel) rfl), zs_X7_cost, zq_X7_cost, _, rfl, rfl⟩
theorem zk_RL_44 (M : zM) (h : (zMy M).cls = RL) : zcV M zm_X8_cost 2 44 8 := ⟨zc_X8_cost, (by rw [h]; exact zin 1029 (by decide +kernel) rfl), zs_X8_cost, zq_X8_cost, _, rfl, rfl⟩
theorem zk_RL_45 (M : zM) (h : (zMy M).cls = RL) : zcV M zm_X7_light 2 45 7 := ⟨zc_X7_light, (by rw [h]; exact zin 337 (by decide +kernel) rfl), zs_X7_light, zq_X7_light, _, rfl, rfl⟩
theorem zk_RL_48 (M : zM) (h : (zMy M).cls = RL) : zcV M zm_X8_light 2 48 8 := ⟨zc_X8_light, (by rw [h]; exact zin 1034 (by decide +kernel) rfl), zs_X8_light, zq_X8_light, _, rfl, rfl⟩
theorem zk_RL_49 (M : zM) (h : (zMy M).cls = RL) : zcV M zm_X7_push 2 49 7 := ⟨zc_X7_push, (by rw [h]; exact zin 342 (by decide +kernel) rfl), zs_X7_push, zq_X7_push, _, rfl, rfl⟩
theorem zk_RL_52 (M : zM) (h : (zMy M).cls = RL) : zcV M zm_X8_push 2 52 8 := ⟨zc_X8_push, (by rw [h]; exact zin 1038 (by decide +kernel) rfl), zs_X8_push, zq_X8_push, _, rfl, rfl⟩
theorem zk_RL_53 (M : zM) (h : (zMy M).cls = RL) : zcV M zm_X7_chase 0 53 7 := ⟨zc_X7_chase, (by rw [h]; exact zin 374 (by decide +kernel) rfl), zs_X7_chase, zq_X7_chase, _, rfl, rfl⟩
theorem zk_RL_57 (M : zM) (h : (zMy M).cls = RL) : zcV M zm_X8_chase 0 57 8 := ⟨zc_X8_chase, (by rw [h]; exact zin 1064 (by decide +kernel) rfl), zs_X8_chase, zq_X8_chase, _, rfl, rfl⟩
theorem zk_RL_58 (M : zM) (h : (zMy M).cls = RL) : zcV M zm_X7_undo 0 58 7 := ⟨zc_X7_undo, (by rw [h]; exact zin 387 (by decide +kernel) rfl), zs_X7_undo, zq_X7_undo, _, rfl, rfl⟩
theorem zk_RL_61 (M : zM) (h : (zMy M).cls = RL) : zcV M zm_X8_undo 0 61 8 := ⟨zc_X8_undo, (by rw [h]; exact zin 1068 (by decide +kernel) rfl), zs_X8_undo, zq_X8_undo, _, rfl, rfl⟩
theorem zk_RL_62 (M : zM) (h : (zMy M).cls = RL) : zcV M zm_X7_keep 0 62 7 := ⟨zc_X7_keep, (by rw [h]; exact zin 399 (by decide +kernel) rfl), zs_X7_keep, zq_X7_keep, _, rfl, rfl⟩
theorem zk_RL_66 (M : zM) (h : (zMy M).cls = RL) : zcV M zm_X8_keep 0 66 8 := ⟨zc_X8_keep, (by rw [h]; exact zin 1072 (by decide +kernel) rfl), zs_X8_keep, zq_X8_keep, _, rfl, rfl⟩
theorem zk_RL_67 (M : zM) (h : (zMy M).cls = RL) : zcV M zm_X7_back 0 67 7 := ⟨zc_X7_back, (by rw [h]; exact zin 408 (by decide +kernel) rfl), zs_X7_back, zq_X7_back, _, rfl, rfl⟩
theorem zk_RL_70 (M : zM) (h : (zMy M).cls = RL) : zcV M zm_X8_back 0 70 8 := ⟨zc_X8_back, (by rw [h]; exact zin 1076 (by decide +kernel) rfl), zs_X8_back, zq_X8_back, _, rfl, rfl⟩
theorem zk_RL_71 (M : zM) (h : (zMy M).cls = RL) : zcV M zm_X7_count 1 71 7 := ⟨zc_X7_count, (by rw [h]; exact zin 412 (by decide +kernel) rfl), zs_X7_count, zq_X7_count, _, rfl, rfl⟩
theorem zk_RL_74 (M : zM) (h : (zMy M).cls = RL) : zcV M zm_X8_count 1 74 8 := ⟨zc_X8_count, (by rw [h]; exact zin 1080 (by decide +kernel) rfl), zs_X8_count, zq_X8_count, _, rfl, rfl⟩
theorem zk_RL_75 (M : zM) (h : (zMy M).cls = RL) : zcV M zm_X7_shown 1 75 7 := ⟨zc_X7_shown, (by rw [h]; exact zin 424 (by decide +kernel) rfl), zs_X7_shown, zq_X7_shown, _, rfl, rfl⟩
theorem zk_RL_78 (M : zM) (h : (zMy M).cls = RL) : zcV M zm_X8_shown 1 78 8 := ⟨zc_X8_shown, (by rw [h]; exact zin 1084 (by decide +kernel) rfl), zs_X8_shown, zq_X8_shown, _, rfl, rfl⟩
theorem zk_RL_79 (M : zM) (h : (zMy M).cls = RL) : zcV M zm_X7_step 2 79 7 := ⟨zc_X7_step, (by rw [h]; exact zin 428 (by decide +kernel) rfl), zs_X7_step, zq_X7_step, _, rfl, rfl⟩
theorem zk_RL_82 (M : zM) (h : (zMy M).cls = RL) : zcV M zm_X8_step 2 82 8 := ⟨zc_X8_step, (by rw [h]; exact zin 1088 (by decide +kernel) rfl), zs_X8_step, zq_X8_step, _, rfl, rfl⟩
theorem zk_RL_83 (M : zM) (h : (zMy M).cls = RL) : zcV M zm_X7_can 0 83 7 := ⟨zc_X7_can, (by rw [h]; exact zin 433 (by decide +kernel) rfl), zs_X7_can, zq_X7_can, _, rfl, rfl⟩
theorem zk_RL_86 (M : zM) (h : (zMy M).cls = RL) : zcV M zm_X8_can 0 86 8 := ⟨zc_X8_can, (by rw [h]; exact zin 1092 (by decide +kernel) rfl), zs_X8_can, zq_X8_can, _, rfl, rfl⟩
theorem zk_RL_87 (M : zM) (h : (zMy M).cls = RL) : zcV M zm_X7_next 0 87 7 := ⟨zc_X7_next, (by rw [h]; exact zin 614 (by decide +kernel) rfl), zs_X7_next, zq_X7_next, _, rfl, rfl⟩
theorem zk_RL_90 (M : zM) (h : (zMy M).cls = RL) : zcV M zm_X8_next 0 90 8 := ⟨zc_X8_next, (by rw [h]; exact zin 1141 (by decide +kernel) rfl), zs_X8_next, zq_X8_next, _, rfl, rfl⟩
theorem zk_RL_91 (M : zM) (h : (zMy M).cls = RL) : zcV M zm_X7_row 1 91 7 := ⟨zc_X7_row, (by rw [h]; exact zin 631 (by decide +kernel) rfl), zs_X7_row, zq_X7_row, _, rfl, rfl⟩
theorem zk_RL_94 (M : zM) (h : (zMy M).cls = RL) : zcV M zm_X8_row 1 94 8 := ⟨zc_X8_row, (by rw [h]; exact zin 1153 (by decide +kernel) rfl), zs_X8_row, zq_X8_row, _, rfl, rfl⟩
theorem zk_RL_95 (M : zM) (h : (zMy M).cls = RL) : zcV M zm_X7_primes 2 95 7 := ⟨zc_X7_primes, (by rw [h]; exact zin 635 (by decide +kernel) rfl), zs_X7_primes, zq_X7_primes, _, rfl, rfl⟩
theorem zk_RL_98 (M : zM) (h : (zMy M).cls = RL) : zcV M zm_X8_primes 2 98 8 := ⟨zc_X8_primes, (by rw [h]; exact zin 1157 (by decide +kernel) rfl), zs_X8_primes, zq_X8_primes, _, rfl, rfl⟩
theorem zk_RL_99 (M : zM) (h : (zMy M).cls = RL) : zcV M zm_X7_base 1 99 7 := ⟨zc_X7_base, (by rw [h]; exact zin 665 (by decide +kernel) rfl), zs_X7_base, zq_X7_base, _, rfl, rfl⟩
theorem zk_RL_102 (M : zM) (h : (zMy M).cls = RL) : zcV M zm_X8_base 1 102 8 := ⟨zc_X8_base, (by rw [h]; exact zin 1172 (by decide +kernel) rfl), zs_X8_base, zq_X8_base, _, rfl, rfl⟩
theorem zk_RL_103 (M : zM) (h : (zMy M).cls = RL) : zcV M zm_X7_element 2 103 7 := ⟨zc_X7_element, (by rw [h]; exact zin 681 (by decide +kernel) rfl), zs_X7_element, zq_X7_element, _, rfl, rfl⟩
theorem zk_RL_106 (M : zM) (h : (zMy M).cls = RL) : zcV M zm_X8_element 2 106 8 := ⟨zc_X8_element, (by rw [h]; exact zin 1176 (by decide +kernel) rfl), zs_X8_element, zq_X8_element, _, rfl, rfl⟩
theorem zk_RL_107 (M : zM) (h : (zMy M).cls = RL) : zcV M zm_X7_least 0 107 7 := ⟨zc_X7_least, (by rw [h]; exact zin 697 (by decide +kernel) rfl), zs_X7_least, zq_X7_least, _, rfl, rfl⟩
theorem zk_RL_111 (M : zM) (h : (zMy M).cls = RL) : zcV M zm_X8_least 0 111 8 := ⟨zc_X8_least, (by rw [h]; exact zin 1181 (by decide +kernel) rfl), zs_X8_least, zq_X8_least, _, rfl, rfl⟩
theorem zk_RL_112 (M : zM) (h : (zMy M).cls = RL) : zcV M zm_X7_worst 0 112 7 := ⟨zc_X7_worst, (by rw [h]; exact zin 798 (by decide +kernel) rfl), zs_X7_worst, zq_X7_worst, _, rfl, rfl⟩
theorem zk_RL_115 (M : zM) (h : (zMy M).cls = RL) : zcV M zm_X8_worst 0 115 8 := ⟨zc_X8_worst, (by rw [h]; exact zin 1200 (by decide +kernel) rfl), zs_X8_worst, zq_X8_worst, _, rfl, rfl⟩
theorem zk_RL_116 (M : zM) (h : (zMy M).cls = RL) : zcV M zm_X7_apply 0 116 7 := ⟨zc_X7_apply, (by rw [h]; exact zin 829 (by decide +kernel) rfl), zs_X7_apply, zq_X7_apply, _, rfl, rfl⟩
theorem zk_RL_119 (M : zM) (h : (zMy M).cls = RL) : zcV M zm_X8_apply 0 119 8 := ⟨zc_X8_apply, (by rw [h]; exact zin 1232 (by decide +kernel) rfl), zs_X8_apply, zq_X8_apply, _, rfl, rfl⟩
theorem zk_RL_120 (M : zM) (h : (zMy M).cls = RL) : zcV M zm_X7_tell 1 120 7 := ⟨zc_X7_tell, (by rw [h]; exact zin 853 (by decide +kernel) rfl), zs_X7_tell, zq_X7_tell, _, rfl, rfl⟩
theorem zk_RL_123 (M : zM) (h : (zMy M).cls = RL) : zcV M zm_X8_tell 1 123 8 := ⟨zc_X8_tell, (by rw [h]; exact zin 1236 (by decide +kernel) rfl), zs_X8_tell, zq_X8_tell, _, rfl, rfl⟩
theorem zk_RL_124 (M : zM) (h : (zMy M).cls = RL) : zcV M zm_X7_check 1 124 7 := ⟨zc_X7_check, (by rw [h]; exact zin 857 (by decide +kernel) rfl), zs_X7_check, zq_X7_check, _, rfl, rfl⟩
theorem zk_RL_127 (M : zM) (h : (zMy M).cls = RL) : zcV M zm_X8_check 1 127 8 := ⟨zc_X8_check, (by rw [h]; exact zin 1241 (by decide +kernel) rfl), zs_X8_check, zq_X8_check, _, rfl, rfl⟩
theorem zk_RX8_3 (M : zM) (h : (zMy M).cls = RX8) : Cond.methodLink (zMy M).cls 3 objectInit ∈ ztbl := by rw [h]; exact zin 882 (by decide +kernel) rfl
theorem zf_RX8_9 (M : zM) (h : (zMy M).cls = RX8) : Cond.fieldLink (zMy M).cls 9 "LampPlateModel" "s" "[I" ∈ ztbl := by rw [h]; exact zin 889 (by decide +kernel) rfl
theorem zf_RX8_13 (M : zM) (h : (zMy M).cls = RX8) : Cond.fieldLink (zMy M).cls 13 "LampPlateModel" "kept" "[I" ∈ ztbl := by rw [h]; exact zin 890 (by decide +kernel) rfl
theorem zd_RX8_16 (M : zM) (h : (zMy M).cls = RX8) : Cond.constant (zMy M).cls 16 90960 ∈ ztbl := by rw [h]; exact zin 883 (by decide +kernel) rfl
theorem zf_RX8_17 (M : zM) (h : (zMy M).cls = RX8) : Cond.fieldLink (zMy M).cls 17 "LampPlateModel" "before" "[I" ∈ ztbl := by rw [h]; exact zin 892 (by decide +kernel) rfl
theorem zf_RX8_20 (M : zM) (h : (zMy M).cls = RX8) : Cond.fieldLink (zMy M).cls 20 "LampPlateModel" "board" "I" ∈ ztbl := by rw [h]; exact zin 895 (by decide +kernel) rfl
theorem zf_RX8_24 (M : zM) (h : (zMy M).cls = RX8) : Cond.fieldLink (zMy M).cls 24 "LampPlateModel" "entry" "[J" ∈ ztbl := by rw [h]; exact zin 897 (by decide +kernel) rfl
theorem zf_RX8_28 (M : zM) (h : (zMy M).cls = RX8) : Cond.fieldLink (zMy M).cls 28 "LampPlateModel" "v" "[I" ∈ ztbl := by rw [h]; exact zin 898 (by decide +kernel) rfl
theorem zf_RX8_31 (M : zM) (h : (zMy M).cls = RX8) : Cond.fieldLink (zMy M).cls 31 "LampPlateModel" "f" "[I" ∈ ztbl := by rw [h]; exact zin 900 (by decide +kernel) rfl
theorem zf_RX8_34 (M : zM) (h : (zMy M).cls = RX8) : Cond.fieldLink (zMy M).cls 34 "LampPlateModel" "u" "[I" ∈ ztbl := by rw [h]; exact zin 901 (by decide +kernel) rfl
theorem zf_RX8_37 (M : zM) (h : (zMy M).cls = RX8) : Cond.fieldLink (zMy M).cls 37 "LampPlateModel" "old" "[I" ∈ ztbl := by rw [h]; exact zin 902 (by decide +kernel) rfl
theorem zf_RX8_40 (M : zM) (h : (zMy M).cls = RX8) : Cond.fieldLink (zMy M).cls 40 "LampPlateModel" "row" "[I" ∈ ztbl := by rw [h]; exact zin 905 (by decide +kernel) rfl
theorem zf_RX8_43 (M : zM) (h : (zMy M).cls = RX8) : Cond.fieldLink (zMy M).cls 43 "LampPlateModel" "best" "[I" ∈ ztbl := by rw [h]; exact zin 909 (by decide +kernel) rfl
theorem zf_RX8_46 (M : zM) (h : (zMy M).cls = RX8) : Cond.fieldLink (zMy M).cls 46 "LampPlateModel" "wasRow" "[I" ∈ ztbl := by rw [h]; exact zin 910 (by decide +kernel) rfl
theorem zd_RX8_49 (M : zM) (h : (zMy M).cls = RX8) : Cond.constant (zMy M).cls 49 65536 ∈ ztbl := by rw [h]; exact zin 884 (by decide +kernel) rfl
theorem zf_RX8_50 (M : zM) (h : (zMy M).cls = RX8) : Cond.fieldLink (zMy M).cls 50 "LampPlateModel" "leastOf" "[J" ∈ ztbl := by rw [h]; exact zin 911 (by decide +kernel) rfl
theorem zf_RX8_53 (M : zM) (h : (zMy M).cls = RX8) : Cond.fieldLink (zMy M).cls 53 "LampPlateModel" "list" "[I" ∈ ztbl := by rw [h]; exact zin 912 (by decide +kernel) rfl
theorem zk_RX8_56 (M : zM) (h : (zMy M).cls = RX8) : zcV M zm_X8_set 3 56 8 := ⟨zc_X8_set, (by rw [h]; exact zin 885 (by decide +kernel) rfl), zs_X8_set, zq_X8_set, _, rfl, rfl⟩
theorem zf_RX8_60 (M : zM) (h : (zMy M).cls = RX8) : Cond.fieldLink (zMy M).cls 60 "LampPlateModel" "undoable" "I" ∈ ztbl := by rw [h]; exact zin 894 (by decide +kernel) rfl
theorem zf_RX8_63 (M : zM) (h : (zMy M).cls = RX8) : Cond.fieldLink (zMy M).cls 63 "LampPlateModel" "goesOn" "Z" ∈ ztbl := by rw [h]; exact zin 908 (by decide +kernel) rfl
theorem zd_RX8_67 (M : zM) (h : (zMy M).cls = RX8) : Cond.constantLong (zMy M).cls 67 36 ∈ ztbl := by rw [h]; exact zin 969 (by decide +kernel) rfl
theorem zk_RX8_69 (M : zM) (h : (zMy M).cls = RX8) : zcS M zm_X8_in 3 69 := ⟨zc_X8_in, (by rw [h]; exact zin 970 (by decide +kernel) rfl), zs_X8_in⟩
theorem zd_RX8_73 (M : zM) (h : (zMy M).cls = RX8) : Cond.constantLong (zMy M).cls 73 2 ∈ ztbl := by rw [h]; exact zin 973 (by decide +kernel) rfl
theorem zd_RX8_75 (M : zM) (h : (zMy M).cls = RX8) : Cond.constantLong (zMy M).cls 75 12 ∈ ztbl := by rw [h]; exact zin 974 (by decide +kernel) rfl
theorem zf_RX8_77 (M : zM) (h : (zMy M).cls = RX8) : Cond.fieldLink (zMy M).cls 77 "LampPlateModel" "newest" "I" ∈ ztbl := by rw [h]; exact zin 893 (by decide +kernel) rfl
theorem zk_RX8_80 (M : zM) (h : (zMy M).cls = RX8) : zcV M zm_X8_w 0 80 8 := ⟨zc_X8_w, (by rw [h]; exact zin 988 (by decide +kernel) rfl), zs_X8_w, zq_X8_w, _, rfl, rfl⟩
theorem zk_RX8_84 (M : zM) (h : (zMy M).cls = RX8) : zcV M zm_X8_n 0 84 8 := ⟨zc_X8_n, (by rw [h]; exact zin 992 (by decide +kernel) rfl), zs_X8_n, zq_X8_n, _, rfl, rfl⟩
theorem zd_RX8_87 (M : zM) (h : (zMy M).cls = RX8) : Cond.constantLong (zMy M).cls 87 4 ∈ ztbl := by rw [h]; exact zin 979 (by decide +kernel) rfl
theorem zk_RX8_89 (M : zM) (h : (zMy M).cls = RX8) : zcV M zm_X8_buttons 0 89 8 := ⟨zc_X8_buttons, (by rw [h]; exact zin 980 (by decide +kernel) rfl), zs_X8_buttons, zq_X8_buttons, _, rfl, rfl⟩
theorem zk_RX8_92 (M : zM) (h : (zMy M).cls = RX8) : zcV M zm_X8_isLine 1 92 8 := ⟨zc_X8_isLine, (by rw [h]; exact zin 984 (by decide +kernel) rfl), zs_X8_isLine, zq_X8_isLine, _, rfl, rfl⟩
theorem zk_RX8_96 (M : zM) (h : (zMy M).cls = RX8) : zcV M zm_X8_m 0 96 8 := ⟨zc_X8_m, (by rw [h]; exact zin 996 (by decide +kernel) rfl), zs_X8_m, zq_X8_m, _, rfl, rfl⟩
theorem zk_RX8_99 (M : zM) (h : (zMy M).cls = RX8) : zcV M zm_X8_act 0 99 8 := ⟨zc_X8_act, (by rw [h]; exact zin 1000 (by decide +kernel) rfl), zs_X8_act, zq_X8_act, _, rfl, rfl⟩
theorem zd_RX8_102 (M : zM) (h : (zMy M).cls = RX8) : Cond.constantLong (zMy M).cls 102 80 ∈ ztbl := by rw [h]; exact zin 1008 (by decide +kernel) rfl
theorem zf_RX8_104 (M : zM) (h : (zMy M).cls = RX8) : Cond.fieldLink (zMy M).cls 104 "LampPlateModel" "entries" "I" ∈ ztbl := by rw [h]; exact zin 896 (by decide +kernel) rfl
theorem zd_RX8_107 (M : zM) (h : (zMy M).cls = RX8) : Cond.constantLong (zMy M).cls 107 3 ∈ ztbl := by rw [h]; exact zin 1013 (by decide +kernel) rfl
theorem zk_RX8_109 (M : zM) (h : (zMy M).cls = RX8) : zcS M zm_J9_floorMod_f86c9 2 109 := ⟨zc_J9_floorMod_f86c9, (by rw [h]; exact zin 1026 (by decide +kernel) rfl), zs_J9_floorMod_f86c9⟩
theorem zk_RX8_115 (M : zM) (h : (zMy M).cls = RX8) : zcV M zm_X8_isButton 1 115 8 := ⟨zc_X8_isButton, (by rw [h]; exact zin 1018 (by decide +kernel) rfl), zs_X8_isButton, zq_X8_isButton, _, rfl, rfl⟩
theorem zk_RX8_118 (M : zM) (h : (zMy M).cls = RX8) : zcV M zm_X8_told 1 118 8 := ⟨zc_X8_told, (by rw [h]; exact zin 1022 (by decide +kernel) rfl), zs_X8_told, zq_X8_told, _, rfl, rfl⟩
theorem zd_RX8_122 (M : zM) (h : (zMy M).cls = RX8) : Cond.constantLong (zMy M).cls 122 1000 ∈ ztbl := by rw [h]; exact zin 1033 (by decide +kernel) rfl
theorem zk_RX8_124 (M : zM) (h : (zMy M).cls = RX8) : zcS M zm_J9_abs_0f7a4 1 124 := ⟨zc_J9_abs_0f7a4, (by rw [h]; exact zin 1063 (by decide +kernel) rfl), zs_J9_abs_0f7a4⟩
theorem zk_RX8_127 (M : zM) (h : (zMy M).cls = RX8) : zcV M zm_X8_cross 2 127 8 := ⟨zc_X8_cross, (by rw [h]; exact zin 1059 (by decide +kernel) rfl), zs_X8_cross, zq_X8_cross, _, rfl, rfl⟩
theorem zk_RX8_131 (M : zM) (h : (zMy M).cls = RX8) : zcV M zm_X8_own 2 131 8 := ⟨zc_X8_own, (by rw [h]; exact zin 1055 (by decide +kernel) rfl), zs_X8_own, zq_X8_own, _, rfl, rfl⟩
theorem zk_RX8_134 (M : zM) (h : (zMy M).cls = RX8) : zcV M zm_X8_steps 2 134 8 := ⟨zc_X8_steps, (by rw [h]; exact zin 1051 (by decide +kernel) rfl), zs_X8_steps, zq_X8_steps, _, rfl, rfl⟩
theorem zk_RX8_137 (M : zM) (h : (zMy M).cls = RX8) : zcV M zm_X8_isStuck 1 137 8 := ⟨zc_X8_isStuck, (by rw [h]; exact zin 1042 (by decide +kernel) rfl), zs_X8_isStuck, zq_X8_isStuck, _, rfl, rfl⟩
theorem zd_RX8_140 (M : zM) (h : (zMy M).cls = RX8) : Cond.constantLong (zMy M).cls 140 1000000 ∈ ztbl := by rw [h]; exact zin 1046 (by decide +kernel) rfl
theorem zk_RX8_142 (M : zM) (h : (zMy M).cls = RX8) : zcV M zm_X8_pushed 2 142 8 := ⟨zc_X8_pushed, (by rw [h]; exact zin 1047 (by decide +kernel) rfl), zs_X8_pushed, zq_X8_pushed, _, rfl, rfl⟩
theorem zf_RX8_145 (M : zM) (h : (zMy M).cls = RX8) : Cond.fieldLink (zMy M).cls 145 "LampPlateModel" "hasKept" "Z" ∈ ztbl := by rw [h]; exact zin 891 (by decide +kernel) rfl
theorem zf_RX8_148 (M : zM) (h : (zMy M).cls = RX8) : Cond.fieldLink (zMy M).cls 148 "LampPlateModel" "dims" "I" ∈ ztbl := by rw [h]; exact zin 899 (by decide +kernel) rfl
theorem zf_RX8_151 (M : zM) (h : (zMy M).cls = RX8) : Cond.fieldLink (zMy M).cls 151 "LampPlateModel" "times1" "I" ∈ ztbl := by rw [h]; exact zin 903 (by decide +kernel) rfl
theorem zf_RX8_154 (M : zM) (h : (zMy M).cls = RX8) : Cond.fieldLink (zMy M).cls 154 "LampPlateModel" "times2" "I" ∈ ztbl := by rw [h]; exact zin 904 (by decide +kernel) rfl
theorem zk_RX8_157 (M : zM) (h : (zMy M).cls = RX8) : zcV M zm_X8_common 2 157 8 := ⟨zc_X8_common, (by rw [h]; exact zin 1112 (by decide +kernel) rfl), zs_X8_common, zq_X8_common, _, rfl, rfl⟩
theorem zk_RX8_160 (M : zM) (h : (zMy M).cls = RX8) : zcS M zm_J9_floorMod_7cf53 2 160 := ⟨zc_J9_floorMod_7cf53, (by rw [h]; exact zin 1116 (by decide +kernel) rfl), zs_J9_floorMod_7cf53⟩
theorem zk_RX8_162 (M : zM) (h : (zMy M).cls = RX8) : zcV M zm_X8_whole 1 162 8 := ⟨zc_X8_whole, (by rw [h]; exact zin 1104 (by decide +kernel) rfl), zs_X8_whole, zq_X8_whole, _, rfl, rfl⟩
theorem zk_RX8_166 (M : zM) (h : (zMy M).cls = RX8) : zcV M zm_X8_impose 0 166 8 := ⟨zc_X8_impose, (by rw [h]; exact zin 1108 (by decide +kernel) rfl), zs_X8_impose, zq_X8_impose, _, rfl, rfl⟩
theorem zk_RX8_169 (M : zM) (h : (zMy M).cls = RX8) : zcV M zm_X8_reduce 0 169 8 := ⟨zc_X8_reduce, (by rw [h]; exact zin 1117 (by decide +kernel) rfl), zs_X8_reduce, zq_X8_reduce, _, rfl, rfl⟩
theorem zf_RX8_172 (M : zM) (h : (zMy M).cls = RX8) : Cond.fieldLink (zMy M).cls 172 "LampPlateModel" "rowLong" "I" ∈ ztbl := by rw [h]; exact zin 906 (by decide +kernel) rfl
theorem zf_RX8_175 (M : zM) (h : (zMy M).cls = RX8) : Cond.fieldLink (zMy M).cls 175 "LampPlateModel" "isPushing" "Z" ∈ ztbl := by rw [h]; exact zin 907 (by decide +kernel) rfl
theorem zk_RX8_178 (M : zM) (h : (zMy M).cls = RX8) : zcV M zm_X8_pushings 0 178 8 := ⟨zc_X8_pushings, (by rw [h]; exact zin 1100 (by decide +kernel) rfl), zs_X8_pushings, zq_X8_pushings, _, rfl, rfl⟩
theorem zk_RX8_181 (M : zM) (h : (zMy M).cls = RX8) : zcV M zm_X8_pivot 1 181 8 := ⟨zc_X8_pivot, (by rw [h]; exact zin 1121 (by decide +kernel) rfl), zs_X8_pivot, zq_X8_pivot, _, rfl, rfl⟩
theorem zk_RX8_184 (M : zM) (h : (zMy M).cls = RX8) : zcV M zm_X8_canBe 0 184 8 := ⟨zc_X8_canBe, (by rw [h]; exact zin 1096 (by decide +kernel) rfl), zs_X8_canBe, zq_X8_canBe, _, rfl, rfl⟩
theorem zk_RX8_188 (M : zM) (h : (zMy M).cls = RX8) : zcV M zm_X8_tells 2 188 8 := ⟨zc_X8_tells, (by rw [h]; exact zin 1125 (by decide +kernel) rfl), zs_X8_tells, zq_X8_tells, _, rfl, rfl⟩
theorem zk_RX8_192 (M : zM) (h : (zMy M).cls = RX8) : zcV M zm_X8_weights 0 192 8 := ⟨zc_X8_weights, (by rw [h]; exact zin 1129 (by decide +kernel) rfl), zs_X8_weights, zq_X8_weights, _, rfl, rfl⟩
theorem zk_RX8_195 (M : zM) (h : (zMy M).cls = RX8) : zcV M zm_X8_isZero 1 195 8 := ⟨zc_X8_isZero, (by rw [h]; exact zin 1133 (by decide +kernel) rfl), zs_X8_isZero, zq_X8_isZero, _, rfl, rfl⟩
theorem zk_RX8_198 (M : zM) (h : (zMy M).cls = RX8) : zcV M zm_X8_weigh 1 198 8 := ⟨zc_X8_weigh, (by rw [h]; exact zin 1137 (by decide +kernel) rfl), zs_X8_weigh, zq_X8_weigh, _, rfl, rfl⟩
theorem zk_RX8_201 (M : zM) (h : (zMy M).cls = RX8) : zcV M zm_X8_follows 1 201 8 := ⟨zc_X8_follows, (by rw [h]; exact zin 1145 (by decide +kernel) rfl), zs_X8_follows, zq_X8_follows, _, rfl, rfl⟩
theorem zk_RX8_204 (M : zM) (h : (zMy M).cls = RX8) : zcV M zm_X8_lower 1 204 8 := ⟨zc_X8_lower, (by rw [h]; exact zin 1149 (by decide +kernel) rfl), zs_X8_lower, zq_X8_lower, _, rfl, rfl⟩
theorem zk_RX8_207 (M : zM) (h : (zMy M).cls = RX8) : zcS M zm_X8_often 2 207 := ⟨zc_X8_often, (by rw [h]; exact zin 1165 (by decide +kernel) rfl), zs_X8_often⟩
theorem zk_RX8_210 (M : zM) (h : (zMy M).cls = RX8) : zcV M zm_X8_left 2 210 8 := ⟨zc_X8_left, (by rw [h]; exact zin 1161 (by decide +kernel) rfl), zs_X8_left, zq_X8_left, _, rfl, rfl⟩
theorem zk_RX8_213 (M : zM) (h : (zMy M).cls = RX8) : zcV M zm_X8_free 0 213 8 := ⟨zc_X8_free, (by rw [h]; exact zin 1168 (by decide +kernel) rfl), zs_X8_free, zq_X8_free, _, rfl, rfl⟩
theorem zk_RX8_216 (M : zM) (h : (zMy M).cls = RX8) : zcV M zm_X8_base 1 216 8 := ⟨zc_X8_base, (by rw [h]; exact zin 1180 (by decide +kernel) rfl), zs_X8_base, zq_X8_base, _, rfl, rfl⟩
theorem zd_RX8_219 (M : zM) (h : (zMy M).cls = RX8) : Cond.constantLong (zMy M).cls 219 65536 ∈ ztbl := by rw [h]; exact zin 1190 (by decide +kernel) rfl
theorem zd_RX8_221 (M : zM) (h : (zMy M).cls = RX8) : Cond.constantLong (zMy M).cls 221 (-1) ∈ ztbl := by rw [h]; exact zin 1185 (by decide +kernel) rfl
theorem zk_RX8_223 (M : zM) (h : (zMy M).cls = RX8) : zcV M zm_X8_quiet 0 223 8 := ⟨zc_X8_quiet, (by rw [h]; exact zin 1186 (by decide +kernel) rfl), zs_X8_quiet, zq_X8_quiet, _, rfl, rfl⟩
theorem zd_RX8_227 (M : zM) (h : (zMy M).cls = RX8) : Cond.constantLong (zMy M).cls 227 (-2) ∈ ztbl := by rw [h]; exact zin 1191 (by decide +kernel) rfl
theorem zk_RX8_229 (M : zM) (h : (zMy M).cls = RX8) : zcV M zm_X8_costOf 0 229 8 := ⟨zc_X8_costOf, (by rw [h]; exact zin 1192 (by decide +kernel) rfl), zs_X8_costOf, zq_X8_costOf, _, rfl, rfl⟩
theorem zk_RX8_232 (M : zM) (h : (zMy M).cls = RX8) : zcV M zm_X8_keepsRow 2 232 8 := ⟨zc_X8_keepsRow, (by rw [h]; exact zin 1196 (by decide +kernel) rfl), zs_X8_keepsRow, zq_X8_keepsRow, _, rfl, rfl⟩
theorem zk_RX8_236 (M : zM) (h : (zMy M).cls = RX8) : zcV M zm_X8_pushes 0 236 8 := ⟨zc_X8_pushes, (by rw [h]; exact zin 1204 (by decide +kernel) rfl), zs_X8_pushes, zq_X8_pushes, _, rfl, rfl⟩
theorem zd_RX8_241 (M : zM) (h : (zMy M).cls = RX8) : Cond.constantLong (zMy M).cls 241 9223372036854775807 ∈ ztbl := by rw [h]; exact zin 1208 (by decide +kernel) rfl
theorem zk_RX8_243 (M : zM) (h : (zMy M).cls = RX8) : zcV M zm_X8_pushing 1 243 8 := ⟨zc_X8_pushing, (by rw [h]; exact zin 1209 (by decide +kernel) rfl), zs_X8_pushing, zq_X8_pushing, _, rfl, rfl⟩
theorem zk_RX8_246 (M : zM) (h : (zMy M).cls = RX8) : zcV M zm_X8_numberOf 0 246 8 := ⟨zc_X8_numberOf, (by rw [h]; exact zin 1213 (by decide +kernel) rfl), zs_X8_numberOf, zq_X8_numberOf, _, rfl, rfl⟩
theorem zk_RX8_249 (M : zM) (h : (zMy M).cls = RX8) : zcS M zm_J9_min_f86c9 2 249 := ⟨zc_J9_min_f86c9, (by rw [h]; exact zin 1217 (by decide +kernel) rfl), zs_J9_min_f86c9⟩
theorem zk_RX8_252 (M : zM) (h : (zMy M).cls = RX8) : zcV M zm_X8_isLikeRow 2 252 8 := ⟨zc_X8_isLikeRow, (by rw [h]; exact zin 1220 (by decide +kernel) rfl), zs_X8_isLikeRow, zq_X8_isLikeRow, _, rfl, rfl⟩
theorem zk_RX8_256 (M : zM) (h : (zMy M).cls = RX8) : zcV M zm_X8_isAhead 0 256 8 := ⟨zc_X8_isAhead, (by rw [h]; exact zin 1224 (by decide +kernel) rfl), zs_X8_isAhead, zq_X8_isAhead, _, rfl, rfl⟩
theorem zk_RX8_259 (M : zM) (h : (zMy M).cls = RX8) : zcV M zm_X8_made 1 259 8 := ⟨zc_X8_made, (by rw [h]; exact zin 1228 (by decide +kernel) rfl), zs_X8_made, zq_X8_made, _, rfl, rfl⟩
theorem zf_RX8_262 (M : zM) (h : (zMy M).cls = RX8) : Cond.fieldLink (zMy M).cls 262 "LampPlateModel" "listed" "I" ∈ ztbl := by rw [h]; exact zin 913 (by decide +kernel) rfl
theorem zd_RX8_265 (M : zM) (h : (zMy M).cls = RX8) : Cond.constantLong (zMy M).cls 265 11 ∈ ztbl := by rw [h]; exact zin 1240 (by decide +kernel) rfl
theorem zk_RX8_267 (M : zM) (h : (zMy M).cls = RX8) : zcV M zm_X8_pushingWrong 0 267 8 := ⟨zc_X8_pushingWrong, (by rw [h]; exact zin 1245 (by decide +kernel) rfl), zs_X8_pushingWrong, zq_X8_pushingWrong, _, rfl, rfl⟩
theorem zk_RX8_270 (M : zM) (h : (zMy M).cls = RX8) : zcV M zm_X8_weightsWrong 0 270 8 := ⟨zc_X8_weightsWrong, (by rw [h]; exact zin 1249 (by decide +kernel) rfl), zs_X8_weightsWrong, zq_X8_weightsWrong, _, rfl, rfl⟩
theorem zw_copy : Cond.native arraycopyName ∈ ztbl ∧ Cond.static arraycopyName ∈ ztbl ∧ Cond.initialized "java/lang/System" ∈ ztbl := ⟨zin 286 (by decide +kernel) rfl, zin 285 (by decide +kernel) rfl, zin 74 (by decide +kernel) rfl⟩
theorem zw_oi1 : Cond.instanceMethod objectInit ∈ ztbl := zin 85 (by decide +kernel) rfl
theorem zw_oi2 : Cond.code objectInit ⟨#[0xb1]⟩ 1 none ∈ ztbl := zin 86 (by decide +kernel) rfl
theorem zw_arri : Cond.arrayClass .int ∈ ztbl := zin 148 (by decide +kernel) rfl
theorem zw_arrj : Cond.arrayClass .long ∈ ztbl := zin 167 (by decide +kernel) rfl
theorem zi_0 : ∀ w ∈ u_ws RX0 TX0 3, w ∈ ztbl := by decide +kernel
theorem zi2_0 : Cond.instantiable RX0 3 ∈ ztbl ∧ Cond.initialized RX0 ∈ ztbl := ⟨zin 150 (by decide +kernel) rfl, zin 69 (by decide +kernel) rfl⟩
theorem zi_1 : ∀ w ∈ u_ws RX1 TX1 8, w ∈ ztbl := by decide +kernel
theorem zi2_1 : Cond.instantiable RX1 8 ∈ ztbl ∧ Cond.initialized RX1 ∈ ztbl := ⟨zin 448 (by decide +kernel) rfl, zin 77 (by decide +kernel) rfl⟩
theorem zi_2 : ∀ w ∈ u_ws RX2 TX2 5, w ∈ ztbl := by decide +kernel
theorem zi2_2 : Cond.instantiable RX2 5 ∈ ztbl ∧ Cond.initialized RX2 ∈ ztbl := ⟨zin 169 (by decide +kernel) rfl, zin 70 (by decide +kernel) rfl⟩
theorem zi_3 : ∀ w ∈ u_ws RX3 TX3 12, w ∈ ztbl := by decide +kernel
theorem zi2_3 : Cond.instantiable RX3 12 ∈ ztbl ∧ Cond.initialized RX3 ∈ ztbl := ⟨zin 88 (by decide +kernel) rfl, zin 68 (by decide +kernel) rfl⟩
theorem zi_4 : ∀ w ∈ u_ws RX4 TX4 12, w ∈ ztbl := by decide +kernel
theorem zi2_4 : Cond.instantiable RX4 12 ∈ ztbl ∧ Cond.initialized RX4 ∈ ztbl := ⟨zin 717 (by decide +kernel) rfl, zin 78 (by decide +kernel) rfl⟩
theorem zi_5 : ∀ w ∈ u_ws RX5 TX5 10, w ∈ ztbl := by decide +kernel
theorem zi2_5 : Cond.instantiable RX5 10 ∈ ztbl ∧ Cond.initialized RX5 ∈ ztbl := ⟨zin 442 (by decide +kernel) rfl, zin 76 (by decide +kernel) rfl⟩
theorem zi_6 : ∀ w ∈ u_ws RX6 TX6 4, w ∈ ztbl := by decide +kernel
theorem zi2_6 : Cond.instantiable RX6 4 ∈ ztbl ∧ Cond.initialized RX6 ∈ ztbl := ⟨zin 192 (by decide +kernel) rfl, zin 71 (by decide +kernel) rfl⟩
theorem zi_7 : ∀ w ∈ u_ws RX7 TX7 8, w ∈ ztbl := by decide +kernel
theorem zi2_7 : Cond.instantiable RX7 8 ∈ ztbl ∧ Cond.initialized RX7 ∈ ztbl := ⟨zin 80 (by decide +kernel) rfl, zin 67 (by decide +kernel) rfl⟩
theorem zi_8 : ∀ w ∈ u_ws RX8 TX8 25, w ∈ ztbl := by decide +kernel
theorem zi2_8 : Cond.instantiable RX8 25 ∈ ztbl ∧ Cond.initialized RX8 ∈ ztbl := ⟨zin 878 (by decide +kernel) rfl, zin 72 (by decide +kernel) rfl⟩

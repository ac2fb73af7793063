/-! ===== method records ===== -/
abbrev mX0_init : MM := (yX0_init, cX0_init, 1, none)
abbrev mX0_append : MM := (yX0_append, cX0_append, 5, some .boolean)
abbrev mX0_remove : MM := (yX0_remove, cX0_remove, 2, none)
abbrev mX0_removeOf : MM := (yX0_removeOf, cX0_removeOf, 3, none)
abbrev mX0_takeOut : MM := (yX0_takeOut, cX0_takeOut, 3, none)
abbrev mX0_copy : MM := (yX0_copy, cX0_copy, 2, none)
abbrev mX0_joining : MM := (yX0_joining, cX0_joining, 3, some .int)
abbrev mX0_against : MM := (yX0_against, cX0_against, 3, some .int)
abbrev mX0_isOver : MM := (yX0_isOver, cX0_isOver, 2, some .boolean)
abbrev mX0_judgeAll : MM := (yX0_judgeAll, cX0_judgeAll, 2, none)
abbrev mX0_mergeBunches : MM := (yX0_mergeBunches, cX0_mergeBunches, 4, none)
abbrev mX0_verdictOn : MM := (yX0_verdictOn, cX0_verdictOn, 2, some .int)
abbrev mX0_goFrom : MM := (yX0_goFrom, cX0_goFrom, 7, some .int)
abbrev mX0_spreadFrom : MM := (yX0_spreadFrom, cX0_spreadFrom, 6, none)
abbrev mX1_init : MM := (yX1_init, cX1_init, 1, none)
abbrev mX1_read : MM := (yX1_read, cX1_read, 2, some .boolean)
abbrev mX1_readRatio : MM := (yX1_readRatio, cX1_readRatio, 2, some .boolean)
abbrev mX1_readProduct : MM := (yX1_readProduct, cX1_readProduct, 4, some .boolean)
abbrev mX1_addTo : MM := (yX1_addTo, cX1_addTo, 4, some .int)
abbrev mX1_partsRefusal : MM := (yX1_partsRefusal, cX1_partsRefusal, 4, some .int)
abbrev mX1_makeDimension : MM := (yX1_makeDimension, cX1_makeDimension, 5, none)
abbrev mX1_makeFactor : MM := (yX1_makeFactor, cX1_makeFactor, 4, some .boolean)
abbrev mX2_init : MM := (yX2_init, cX2_init, 4, none)
abbrev mX2_isEndless : MM := (yX2_isEndless, cX2_isEndless, 3, some .boolean)
abbrev mX2_ofDouble : MM := (yX2_ofDouble, cX2_ofDouble, 3, some .long)
abbrev mX2_ofFloat : MM := (yX2_ofFloat, cX2_ofFloat, 2, some .long)
abbrev mX2_isNoDouble : MM := (yX2_isNoDouble, cX2_isNoDouble, 3, some .boolean)
abbrev mX2_isNoFloat : MM := (yX2_isNoFloat, cX2_isNoFloat, 3, some .boolean)
abbrev mX2_toDouble : MM := (yX2_toDouble, cX2_toDouble, 5, some .double)
abbrev mX2_toFloat : MM := (yX2_toFloat, cX2_toFloat, 5, some .double)
abbrev mX2_isNegative : MM := (yX2_isNegative, cX2_isNegative, 2, some .boolean)
abbrev mX2_topExponent : MM := (yX2_topExponent, cX2_topExponent, 1, some .long)
abbrev mX2_isNoNumber : MM := (yX2_isNoNumber, cX2_isNoNumber, 4, some .boolean)
abbrev mX2_fromBits : MM := (yX2_fromBits, cX2_fromBits, 9, some .double)
abbrev mX2_magnitude : MM := (yX2_magnitude, cX2_magnitude, 10, some .long)
abbrev mX2_exponentOf : MM := (yX2_exponentOf, cX2_exponentOf, 8, some .int)
abbrev mX2_scaled : MM := (yX2_scaled, cX2_scaled, 7, some .double)
abbrev mX3_init : MM := (yX3_init, cX3_init, 1, none)
abbrev mX3_copy : MM := (yX3_copy, cX3_copy, 2, none)
abbrev mX3_set : MM := (yX3_set, cX3_set, 7, none)
abbrev mX3_cutToWhole : MM := (yX3_cutToWhole, cX3_cutToWhole, 1, none)
abbrev mX3_part : MM := (yX3_part, cX3_part, 2, some .long)
abbrev mX3_asDouble : MM := (yX3_asDouble, cX3_asDouble, 1, some .double)
abbrev mX3_multiply : MM := (yX3_multiply, cX3_multiply, 2, some .boolean)
abbrev mX3_divide : MM := (yX3_divide, cX3_divide, 2, some .boolean)
abbrev mX3_multiplyBy : MM := (yX3_multiplyBy, cX3_multiplyBy, 13, some .boolean)
abbrev mX3_add : MM := (yX3_add, cX3_add, 2, some .boolean)
abbrev mX3_subtract : MM := (yX3_subtract, cX3_subtract, 2, some .boolean)
abbrev mX3_addUp : MM := (yX3_addUp, cX3_addUp, 13, some .boolean)
abbrev mX3_compareWith : MM := (yX3_compareWith, cX3_compareWith, 20, some .int)
abbrev mX3_commonDivisor : MM := (yX3_commonDivisor, cX3_commonDivisor, 11, some .long)
abbrev mX3_product : MM := (yX3_product, cX3_product, 6, some .long)
abbrev mX3_total : MM := (yX3_total, cX3_total, 6, some .long)
abbrev mX4_init : MM := (yX4_init, cX4_init, 2, none)
abbrev mX4_isHeld : MM := (yX4_isHeld, cX4_isHeld, 1, some .boolean)
abbrev mX4_heldStep : MM := (yX4_heldStep, cX4_heldStep, 2, some (.object "UnitProver$Step"))
abbrev mX4_side : MM := (yX4_side, cX4_side, 3, some (.object "UnitProver$Step"))
abbrev mX4_sidesAgree : MM := (yX4_sidesAgree, cX4_sidesAgree, 2, some .boolean)
abbrev mX4_heldParts : MM := (yX4_heldParts, cX4_heldParts, 3, some .int)
abbrev mX4_read : MM := (yX4_read, cX4_read, 4, some .boolean)
abbrev mX4_append : MM := (yX4_append, cX4_append, 5, some (.object "UnitProver$Step"))
abbrev mX4_readSum : MM := (yX4_readSum, cX4_readSum, 7, some (.object "UnitProver$Step"))
abbrev mX4_readTerm : MM := (yX4_readTerm, cX4_readTerm, 7, some (.object "UnitProver$Step"))
abbrev mX4_readPart : MM := (yX4_readPart, cX4_readPart, 4, some (.object "UnitProver$Step"))
abbrev mX4_proveAll : MM := (yX4_proveAll, cX4_proveAll, 4, none)
abbrev mX4_findUnits : MM := (yX4_findUnits, cX4_findUnits, 5, some .boolean)
abbrev mX5_init : MM := (yX5_init, cX5_init, 3, none)
abbrev mX5_store : MM := (yX5_store, cX5_store, 5, some .boolean)
abbrev mX5_filled : MM := (yX5_filled, cX5_filled, 3, some .int)
abbrev mX6_init : MM := (yX6_init, cX6_init, 1, none)
abbrev mX6_start : MM := (yX6_start, cX6_start, 5, none)
abbrev mX6_isShiftedItself : MM := (yX6_isShiftedItself, cX6_isShiftedItself, 1, some .boolean)
abbrev mX6_read : MM := (yX6_read, cX6_read, 3, some .boolean)
abbrev mX6_endsByFigure : MM := (yX6_endsByFigure, cX6_endsByFigure, 1, some .boolean)
abbrev mX6_readName : MM := (yX6_readName, cX6_readName, 3, some .boolean)
abbrev mX6_readNumber : MM := (yX6_readNumber, cX6_readNumber, 4, some .boolean)
abbrev mX6_judge : MM := (yX6_judge, cX6_judge, 3, some .int)
abbrev mX6_judgeSingle : MM := (yX6_judgeSingle, cX6_judgeSingle, 3, some .int)
abbrev mX6_judgeMixed : MM := (yX6_judgeMixed, cX6_judgeMixed, 5, some .int)
abbrev mX6_mixedRefusal : MM := (yX6_mixedRefusal, cX6_mixedRefusal, 3, some .int)
abbrev mX6_judgeProduct : MM := (yX6_judgeProduct, cX6_judgeProduct, 3, some .int)
abbrev mX6_judgeSum : MM := (yX6_judgeSum, cX6_judgeSum, 2, some .int)
abbrev mX7_init : MM := (yX7_init, cX7_init, 1, none)
abbrev mX7_append : MM := (yX7_append, cX7_append, 2, some .boolean)
abbrev mX7_clear : MM := (yX7_clear, cX7_clear, 1, none)
abbrev mX7_look : MM := (yX7_look, cX7_look, 3, some .int)
abbrev mX7_holds : MM := (yX7_holds, cX7_holds, 5, some .boolean)
abbrev mX7_isAtEnd : MM := (yX7_isAtEnd, cX7_isAtEnd, 1, some .boolean)
abbrev mX7_takes : MM := (yX7_takes, cX7_takes, 2, some .boolean)
abbrev mX7_isFigure : MM := (yX7_isFigure, cX7_isFigure, 3, some .boolean)
abbrev mX7_isLetter : MM := (yX7_isLetter, cX7_isLetter, 3, some .boolean)
abbrev mX7_takeName : MM := (yX7_takeName, cX7_takeName, 2, some .int)
abbrev mX7_takeNumber : MM := (yX7_takeNumber, cX7_takeNumber, 3, some .int)
abbrev mX7_takeFigure : MM := (yX7_takeFigure, cX7_takeFigure, 1, some .int)
abbrev mX7_isPower : MM := (yX7_isPower, cX7_isPower, 1, some .boolean)
abbrev mX7_takePower : MM := (yX7_takePower, cX7_takePower, 1, some .int)
abbrev mX8_init : MM := (yX8_init, cX8_init, 1, none)
abbrev mX8_isNothing : MM := (yX8_isNothing, cX8_isNothing, 1, some .boolean)
abbrev mX8_become : MM := (yX8_become, cX8_become, 4, none)
abbrev mX8_store : MM := (yX8_store, cX8_store, 4, none)
abbrev mX8_storeBits : MM := (yX8_storeBits, cX8_storeBits, 7, none)
abbrev mX8_number : MM := (yX8_number, cX8_number, 2, some .double)
abbrev mX8_bitsOf : MM := (yX8_bitsOf, cX8_bitsOf, 5, some .long)
abbrev mX8_copy : MM := (yX8_copy, cX8_copy, 3, none)
abbrev mX8_convert : MM := (yX8_convert, cX8_convert, 4, none)
abbrev mX8_inFloats : MM := (yX8_inFloats, cX8_inFloats, 4, some .float)
abbrev mX8_inDoubles : MM := (yX8_inDoubles, cX8_inDoubles, 6, some .double)
abbrev mX8_sumBits : MM := (yX8_sumBits, cX8_sumBits, 5, some .long)
abbrev mX9_init : MM := (yX9_init, cX9_init, 1, none)
abbrev mX9_hasOffset : MM := (yX9_hasOffset, cX9_hasOffset, 1, some .boolean)
abbrev mX9_isLike : MM := (yX9_isLike, cX9_isLike, 2, some .boolean)
abbrev mX9_isNamed : MM := (yX9_isNamed, cX9_isNamed, 4, some .boolean)
abbrev mX9_takeName : MM := (yX9_takeName, cX9_takeName, 3, none)
abbrev mX9_copy : MM := (yX9_copy, cX9_copy, 2, none)
abbrev mX10_init : MM := (yX10_init, cX10_init, 2, none)
abbrev mX10_addBases : MM := (yX10_addBases, cX10_addBases, 3, none)
abbrev mX10_at : MM := (yX10_at, cX10_at, 2, some (.object "UnitProver$Unit"))
abbrev mX10_numberOf : MM := (yX10_numberOf, cX10_numberOf, 5, some .int)
abbrev mX10_append : MM := (yX10_append, cX10_append, 2, some .int)
abbrev mX10_nearestBelow : MM := (yX10_nearestBelow, cX10_nearestBelow, 6, some .int)
abbrev mX10_copy : MM := (yX10_copy, cX10_copy, 3, none)
abbrev mX11_init : MM := (yX11_init, cX11_init, 2, none)
abbrev mX11_feed : MM := (yX11_feed, cX11_feed, 2, some .int)
abbrev mX11_define : MM := (yX11_define, cX11_define, 2, some .int)
abbrev mX11_drop : MM := (yX11_drop, cX11_drop, 1, some .int)
abbrev mX11_find : MM := (yX11_find, cX11_find, 2, some .int)
abbrev mX11_name : MM := (yX11_name, cX11_name, 4, some .int)
abbrev mX11_power : MM := (yX11_power, cX11_power, 4, some .int)
abbrev mX11_scale : MM := (yX11_scale, cX11_scale, 5, some .long)
abbrev mX11_ratio : MM := (yX11_ratio, cX11_ratio, 6, some .long)
abbrev mX11_nearest : MM := (yX11_nearest, cX11_nearest, 5, some .int)
abbrev mX11_prove : MM := (yX11_prove, cX11_prove, 3, some .int)
abbrev mX11_proof : MM := (yX11_proof, cX11_proof, 2, some .int)
abbrev mX11_step : MM := (yX11_step, cX11_step, 4, some .int)
abbrev mX11_value : MM := (yX11_value, cX11_value, 4, some .long)
abbrev mX11_same : MM := (yX11_same, cX11_same, 5, some .int)
abbrev mX11_in : MM := (yX11_in, cX11_in, 4, some .long)
abbrev mX11_bits : MM := (yX11_bits, cX11_bits, 6, some .long)
abbrev mX11_parted : MM := (yX11_parted, cX11_parted, 8, some .long)
abbrev mX11_claim : MM := (yX11_claim, cX11_claim, 5, some .int)
abbrev mX11_unclaim : MM := (yX11_unclaim, cX11_unclaim, 2, some .int)
abbrev mX11_claimOf : MM := (yX11_claimOf, cX11_claimOf, 3, some .int)
abbrev mX11_rings : MM := (yX11_rings, cX11_rings, 2, some .int)
abbrev mX11_by : MM := (yX11_by, cX11_by, 4, some .long)
abbrev mX11_track : MM := (yX11_track, cX11_track, 5, some .int)
abbrev mX11_put : MM := (yX11_put, cX11_put, 6, some .int)
abbrev mX11_putBits : MM := (yX11_putBits, cX11_putBits, 6, some .int)
abbrev mX11_item : MM := (yX11_item, cX11_item, 4, some .long)
abbrev mX11_change : MM := (yX11_change, cX11_change, 7, some .int)
abbrev mX11_added : MM := (yX11_added, cX11_added, 3, some .long)
abbrev mX11_cast : MM := (yX11_cast, cX11_cast, 6, some .long)
abbrev mX11_twin : MM := (yX11_twin, cX11_twin, 5, some .int)
abbrev mX11_hang : MM := (yX11_hang, cX11_hang, 5, some .int)
abbrev mX11_hold : MM := (yX11_hold, cX11_hold, 6, some .int)
abbrev mX11_rack : MM := (yX11_rack, cX11_rack, 5, some .int)
abbrev mX11_shift : MM := (yX11_shift, cX11_shift, 6, some .int)
abbrev mX11_image : MM := (yX11_image, cX11_image, 1, some .int)
abbrev mX11_undo : MM := (yX11_undo, cX11_undo, 1, some .int)
abbrev mX11_count : MM := (yX11_count, cX11_count, 2, some .int)
abbrev mX11_isTold : MM := (yX11_isTold, cX11_isTold, 1, some .boolean)
abbrev mX11_isPlace : MM := (yX11_isPlace, cX11_isPlace, 1, some .boolean)
abbrev mX11_equalRows : MM := (yX11_equalRows, cX11_equalRows, 3, some .boolean)
abbrev mX11_goesBeyond : MM := (yX11_goesBeyond, cX11_goesBeyond, 3, some .boolean)
abbrev mX11_provedStep : MM := (yX11_provedStep, cX11_provedStep, 2, some (.object "UnitProver$Step"))
abbrev mX11_resultSide : MM := (yX11_resultSide, cX11_resultSide, 2, some (.object "UnitProver$Step"))
abbrev mX11_answerIn : MM := (yX11_answerIn, cX11_answerIn, 5, some .boolean)
abbrev mX11_splits : MM := (yX11_splits, cX11_splits, 6, some .boolean)
abbrev mX11_partOf : MM := (yX11_partOf, cX11_partOf, 6, some .boolean)
abbrev mX11_truthOf : MM := (yX11_truthOf, cX11_truthOf, 4, some .int)
abbrev mX11_trueClaims : MM := (yX11_trueClaims, cX11_trueClaims, 4, some .int)
abbrev mX11_trackAt : MM := (yX11_trackAt, cX11_trackAt, 2, some (.object "UnitProver$Track"))
abbrev mX11_rackAt : MM := (yX11_rackAt, cX11_rackAt, 2, some (.object "UnitProver$Rack"))
abbrev mX11_itemRefusal : MM := (yX11_itemRefusal, cX11_itemRefusal, 4, some .int)
abbrev mX11_filledTracks : MM := (yX11_filledTracks, cX11_filledTracks, 3, some .int)
abbrev mX11_filledPlaces : MM := (yX11_filledPlaces, cX11_filledPlaces, 3, some .int)
abbrev mX12_init : MM := (yX12_init, cX12_init, 2, none)
abbrev mX12_isIn : MM := (yX12_isIn, cX12_isIn, 6, some .boolean)
abbrev mX12_common : MM := (yX12_common, cX12_common, 10, some .long)
abbrev mX12_timed : MM := (yX12_timed, cX12_timed, 7, some .long)
abbrev mX12_becomes : MM := (yX12_becomes, cX12_becomes, 7, none)
abbrev mX12_times : MM := (yX12_times, cX12_times, 13, none)
abbrev mX12_by : MM := (yX12_by, cX12_by, 9, none)
abbrev mX12_plus : MM := (yX12_plus, cX12_plus, 20, none)
abbrev mX12_isLess : MM := (yX12_isLess, cX12_isLess, 21, some .boolean)
abbrev mX12_isUnit : MM := (yX12_isUnit, cX12_isUnit, 2, some .boolean)
abbrev mX12_hasOffset : MM := (yX12_hasOffset, cX12_hasOffset, 2, some .boolean)
abbrev mX12_areLike : MM := (yX12_areLike, cX12_areLike, 5, some .boolean)
abbrev mX12_lettersOf : MM := (yX12_lettersOf, cX12_lettersOf, 3, some .int)
abbrev mX12_whose : MM := (yX12_whose, cX12_whose, 6, some .int)
abbrev mX12_feed : MM := (yX12_feed, cX12_feed, 2, some .int)
abbrev mX12_here : MM := (yX12_here, cX12_here, 1, some .int)
abbrev mX12_isLetter : MM := (yX12_isLetter, cX12_isLetter, 1, some .boolean)
abbrev mX12_isFigure : MM := (yX12_isFigure, cX12_isFigure, 1, some .boolean)
abbrev mX12_fails : MM := (yX12_fails, cX12_fails, 1, none)
abbrev mX12_must : MM := (yX12_must, cX12_must, 2, none)
abbrev mX12_letters : MM := (yX12_letters, cX12_letters, 2, some .int)
abbrev mX12_figures : MM := (yX12_figures, cX12_figures, 4, some .int)
abbrev mX12_figure : MM := (yX12_figure, cX12_figure, 1, some .int)
abbrev mX12_below : MM := (yX12_below, cX12_below, 1, some .int)
abbrev mX12_product : MM := (yX12_product, cX12_product, 2, none)
abbrev mX12_defined : MM := (yX12_defined, cX12_defined, 2, some .int)
abbrev mX12_wrongWith : MM := (yX12_wrongWith, cX12_wrongWith, 4, some .int)
abbrev mX12_isWide : MM := (yX12_isWide, cX12_isWide, 4, some .boolean)
abbrev mX12_sums : MM := (yX12_sums, cX12_sums, 4, none)
abbrev mX12_factors : MM := (yX12_factors, cX12_factors, 4, none)
abbrev mX12_comes : MM := (yX12_comes, cX12_comes, 3, some .int)
abbrev mX12_define : MM := (yX12_define, cX12_define, 3, some .int)
abbrev mX12_drop : MM := (yX12_drop, cX12_drop, 2, some .int)
abbrev mX12_find : MM := (yX12_find, cX12_find, 3, some .int)
abbrev mX12_name : MM := (yX12_name, cX12_name, 3, some .int)
abbrev mX12_power : MM := (yX12_power, cX12_power, 3, some .int)
abbrev mX12_isPart : MM := (yX12_isPart, cX12_isPart, 1, some .boolean)
abbrev mX12_partOf : MM := (yX12_partOf, cX12_partOf, 5, some .long)
abbrev mX12_scale : MM := (yX12_scale, cX12_scale, 4, some .long)
abbrev mX12_latest : MM := (yX12_latest, cX12_latest, 2, some .long)
abbrev mX12_ratio : MM := (yX12_ratio, cX12_ratio, 4, some .long)
abbrev mX12_isLesser : MM := (yX12_isLesser, cX12_isLesser, 3, some .boolean)
abbrev mX12_nearest : MM := (yX12_nearest, cX12_nearest, 6, some .int)
abbrev mX12_amount : MM := (yX12_amount, cX12_amount, 6, some .long)
abbrev mX12_unit : MM := (yX12_unit, cX12_unit, 3, some .int)
abbrev mX12_isOwn : MM := (yX12_isOwn, cX12_isOwn, 2, some .boolean)
abbrev mX12_goesOn : MM := (yX12_goesOn, cX12_goesOn, 1, some .boolean)
abbrev mX12_ends : MM := (yX12_ends, cX12_ends, 2, some .int)
abbrev mX12_stepComes : MM := (yX12_stepComes, cX12_stepComes, 3, some .int)
abbrev mX12_clears : MM := (yX12_clears, cX12_clears, 2, none)
abbrev mX12_measured : MM := (yX12_measured, cX12_measured, 6, some .int)
abbrev mX12_wrongMixed : MM := (yX12_wrongMixed, cX12_wrongMixed, 2, some .int)
abbrev mX12_mixed : MM := (yX12_mixed, cX12_mixed, 7, some .int)
abbrev mX12_plain : MM := (yX12_plain, cX12_plain, 3, some .int)
abbrev mX12_numbered : MM := (yX12_numbered, cX12_numbered, 5, some .int)
abbrev mX12_part : MM := (yX12_part, cX12_part, 3, some .int)
abbrev mX12_areLikeSteps : MM := (yX12_areLikeSteps, cX12_areLikeSteps, 5, some .boolean)
abbrev mX12_product_ : MM := (yX12_product_, cX12_product_, 6, some .int)
abbrev mX12_added : MM := (yX12_added, cX12_added, 6, some .int)
abbrev mX12_term : MM := (yX12_term, cX12_term, 5, some .int)
abbrev mX12_sum : MM := (yX12_sum, cX12_sum, 4, some .int)
abbrev mX12_formula : MM := (yX12_formula, cX12_formula, 4, none)
abbrev mX12_prove : MM := (yX12_prove, cX12_prove, 2, some .int)
abbrev mX12_proof : MM := (yX12_proof, cX12_proof, 4, some .int)
abbrev mX12_isStep : MM := (yX12_isStep, cX12_isStep, 2, some .boolean)
abbrev mX12_step : MM := (yX12_step, cX12_step, 3, some .int)
abbrev mX12_value : MM := (yX12_value, cX12_value, 3, some .long)
abbrev mX12_same : MM := (yX12_same, cX12_same, 3, some .int)
abbrev mX12_result : MM := (yX12_result, cX12_result, 2, some .int)
abbrev mX12_isOf : MM := (yX12_isOf, cX12_isOf, 5, some .boolean)
abbrev mX12_isToldIn : MM := (yX12_isToldIn, cX12_isToldIn, 4, some .boolean)
abbrev mX12_in : MM := (yX12_in, cX12_in, 4, some .long)
abbrev mX12_bits : MM := (yX12_bits, cX12_bits, 6, some .long)
abbrev mX12_mayPart : MM := (yX12_mayPart, cX12_mayPart, 4, some .boolean)
abbrev mX12_parted : MM := (yX12_parted, cX12_parted, 16, some .long)
abbrev mX12_claim : MM := (yX12_claim, cX12_claim, 5, some .int)
abbrev mX12_unclaim : MM := (yX12_unclaim, cX12_unclaim, 3, some .int)
abbrev mX12_areBound : MM := (yX12_areBound, cX12_areBound, 8, some .boolean)
abbrev mX12_goes : MM := (yX12_goes, cX12_goes, 10, none)
abbrev mX12_tells : MM := (yX12_tells, cX12_tells, 8, none)
abbrev mX12_isTrue : MM := (yX12_isTrue, cX12_isTrue, 4, some .int)
abbrev mX12_claimOf : MM := (yX12_claimOf, cX12_claimOf, 3, some .int)
abbrev mX12_tolds : MM := (yX12_tolds, cX12_tolds, 4, some .int)
abbrev mX12_trues : MM := (yX12_trues, cX12_trues, 4, some .int)
abbrev mX12_rings : MM := (yX12_rings, cX12_rings, 2, some .int)
abbrev mX12_by_ : MM := (yX12_by_, cX12_by_, 4, some .long)
abbrev mX12_isTrack : MM := (yX12_isTrack, cX12_isTrack, 1, some .boolean)
abbrev mX12_track : MM := (yX12_track, cX12_track, 5, some .int)
abbrev mX12_barred : MM := (yX12_barred, cX12_barred, 3, some .int)
abbrev mX12_put : MM := (yX12_put, cX12_put, 5, some .int)
abbrev mX12_putBits : MM := (yX12_putBits, cX12_putBits, 6, some .int)
abbrev mX12_item : MM := (yX12_item, cX12_item, 3, some .long)
abbrev mX12_changed : MM := (yX12_changed, cX12_changed, 5, some .float)
abbrev mX12_changedWide : MM := (yX12_changedWide, cX12_changedWide, 7, some .double)
abbrev mX12_change : MM := (yX12_change, cX12_change, 5, some .int)
abbrev mX12_added_ : MM := (yX12_added_, cX12_added_, 6, some .long)
abbrev mX12_cast : MM := (yX12_cast, cX12_cast, 9, some .long)
abbrev mX12_twin : MM := (yX12_twin, cX12_twin, 4, some .int)
abbrev mX12_isRack : MM := (yX12_isRack, cX12_isRack, 1, some .boolean)
abbrev mX12_isPlace : MM := (yX12_isPlace, cX12_isPlace, 1, some .boolean)
abbrev mX12_stores : MM := (yX12_stores, cX12_stores, 5, some .int)
abbrev mX12_hang : MM := (yX12_hang, cX12_hang, 4, some .int)
abbrev mX12_hold : MM := (yX12_hold, cX12_hold, 4, some .int)
abbrev mX12_rack : MM := (yX12_rack, cX12_rack, 5, some .int)
abbrev mX12_shift : MM := (yX12_shift, cX12_shift, 5, some .int)
abbrev mX12_copies : MM := (yX12_copies, cX12_copies, 3, none)
abbrev mX12_copiesLong : MM := (yX12_copiesLong, cX12_copiesLong, 3, none)
abbrev mX12_image : MM := (yX12_image, cX12_image, 1, some .int)
abbrev mX12_undo : MM := (yX12_undo, cX12_undo, 1, some .int)
abbrev mX12_count : MM := (yX12_count, cX12_count, 4, some .int)
abbrev mJxe99ae_isNaN_b9ae7 : MM := (yJxe99ae_isNaN_b9ae7, cJxe99ae_isNaN_b9ae7, 2, some .boolean)
abbrev mJxe99ae_doubleToLongBits_ccdee : MM := (yJxe99ae_doubleToLongBits_ccdee, cJxe99ae_doubleToLongBits_ccdee, 2, some .long)
abbrev mJxf58ca_isNaN_12338 : MM := (yJxf58ca_isNaN_12338, cJxf58ca_isNaN_12338, 1, some .boolean)
abbrev mJxf58ca_floatToIntBits_5c35a : MM := (yJxf58ca_floatToIntBits_5c35a, cJxf58ca_floatToIntBits_5c35a, 1, some .int)
abbrev mJ13_compare_74951 : MM := (yJ13_compare_74951, cJ13_compare_74951, 4, some .int)
abbrev mJ13_signum_95d88 : MM := (yJ13_signum_95d88, cJ13_signum_95d88, 2, some .int)
abbrev mJ9_floorDiv_f86c9 : MM := (yJ9_floorDiv_f86c9, cJ9_floorDiv_f86c9, 6, some .long)
abbrev mJ9_abs_0f7a4 : MM := (yJ9_abs_0f7a4, cJ9_abs_0f7a4, 1, some .int)
abbrev mJ9_abs_067f4 : MM := (yJ9_abs_067f4, cJ9_abs_067f4, 2, some .long)
abbrev mJ9_min_7cf53 : MM := (yJ9_min_7cf53, cJ9_min_7cf53, 2, some .int)
abbrev mJ0_charAt_5068e : MM := (yJ0_charAt_5068e, cJ0_charAt_5068e, 2, some .char)
abbrev mJ0_isLatin1_aae02 : MM := (yJ0_isLatin1_aae02, cJ0_isLatin1_aae02, 1, some .boolean)
abbrev mJ0_checkIndex_df160 : MM := (yJ0_checkIndex_df160, cJ0_checkIndex_df160, 2, none)
abbrev mJ1_charAt_3b067 : MM := (yJ1_charAt_3b067, cJ1_charAt_3b067, 2, some .char)
abbrev mJ2_getChar_3b067 : MM := (yJ2_getChar_3b067, cJ2_getChar_3b067, 2, some .char)
abbrev mJ2_length_9d52b : MM := (yJ2_length_9d52b, cJ2_length_9d52b, 1, some .int)
abbrev mJ2_charAt_3b067 : MM := (yJ2_charAt_3b067, cJ2_charAt_3b067, 2, some .char)
abbrev mJ2_checkIndex_2214a : MM := (yJ2_checkIndex_2214a, cJ2_checkIndex_2214a, 2, none)
abbrev mJ3_checkIndex_8e157 : MM := (yJ3_checkIndex_8e157, cJ3_checkIndex_8e157, 3, some .int)
abbrev mL_law : MM := (⟨"UnitProverLaw", "law", "([I)Z"⟩, cL_law, 4, some .boolean)
/-! ===== classes ===== -/
theorem inG0 : ∀ w ∈ u_ws RX0 TX0 11, w ∈ tbG := by
  intro w hw
  obtain ⟨k, hk, rfl⟩ := List.mem_map.mp hw
  have hk := List.mem_range.mp hk
  match k, hk with
  | 0, _ => exact w_1_156
  | 1, _ => exact w_1_158
  | 2, _ => exact w_1_160
  | 3, _ => exact w_1_162
  | 4, _ => exact w_1_164
  | 5, _ => exact w_1_166
  | 6, _ => exact w_1_168
  | 7, _ => exact w_1_170
  | 8, _ => exact w_1_172
  | 9, _ => exact w_1_174
  | 10, _ => exact w_1_176
  | n + 11, h => exact absurd h (by omega)
theorem inG1 : ∀ w ∈ u_ws RX1 TX1 12, w ∈ tbG := by
  intro w hw
  obtain ⟨k, hk, rfl⟩ := List.mem_map.mp hw
  have hk := List.mem_range.mp hk
  match k, hk with
  | 0, _ => exact w_1_200
  | 1, _ => exact w_1_202
  | 2, _ => exact w_1_204
  | 3, _ => exact w_1_206
  | 4, _ => exact w_1_208
  | 5, _ => exact w_1_210
  | 6, _ => exact w_1_212
  | 7, _ => exact w_1_214
  | 8, _ => exact w_1_216
  | 9, _ => exact w_1_218
  | 10, _ => exact w_1_220
  | 11, _ => exact w_1_222
  | n + 12, h => exact absurd h (by omega)
theorem inG2 : ∀ w ∈ u_ws RX2 TX2 2, w ∈ tbG := by
  intro w hw
  obtain ⟨k, hk, rfl⟩ := List.mem_map.mp hw
  have hk := List.mem_range.mp hk
  match k, hk with
  | 0, _ => exact w_2_92
  | 1, _ => exact w_2_94
  | n + 2, h => exact absurd h (by omega)
theorem inG3 : ∀ w ∈ u_ws RX3 TX3 2, w ∈ tbG := by
  intro w hw
  obtain ⟨k, hk, rfl⟩ := List.mem_map.mp hw
  have hk := List.mem_range.mp hk
  match k, hk with
  | 0, _ => exact w_1_83
  | 1, _ => exact w_1_85
  | n + 2, h => exact absurd h (by omega)
theorem inG4 : ∀ w ∈ u_ws RX4 TX4 7, w ∈ tbG := by
  intro w hw
  obtain ⟨k, hk, rfl⟩ := List.mem_map.mp hw
  have hk := List.mem_range.mp hk
  match k, hk with
  | 0, _ => exact w_2_64
  | 1, _ => exact w_2_66
  | 2, _ => exact w_2_68
  | 3, _ => exact w_2_70
  | 4, _ => exact w_2_72
  | 5, _ => exact w_2_74
  | 6, _ => exact w_2_76
  | n + 7, h => exact absurd h (by omega)
theorem inG5 : ∀ w ∈ u_ws RX5 TX5 3, w ∈ tbG := by
  intro w hw
  obtain ⟨k, hk, rfl⟩ := List.mem_map.mp hw
  have hk := List.mem_range.mp hk
  match k, hk with
  | 0, _ => exact w_2_185
  | 1, _ => exact w_2_187
  | 2, _ => exact w_2_189
  | n + 3, h => exact absurd h (by omega)
theorem inG6 : ∀ w ∈ u_ws RX6 TX6 13, w ∈ tbG := by
  intro w hw
  obtain ⟨k, hk, rfl⟩ := List.mem_map.mp hw
  have hk := List.mem_range.mp hk
  match k, hk with
  | 0, _ => exact w_2_27
  | 1, _ => exact w_2_29
  | 2, _ => exact w_2_31
  | 3, _ => exact w_2_33
  | 4, _ => exact w_2_35
  | 5, _ => exact w_2_37
  | 6, _ => exact w_2_39
  | 7, _ => exact w_2_41
  | 8, _ => exact w_2_43
  | 9, _ => exact w_2_45
  | 10, _ => exact w_2_47
  | 11, _ => exact w_2_49
  | 12, _ => exact w_2_51
  | n + 13, h => exact absurd h (by omega)
theorem inG7 : ∀ w ∈ u_ws RX7 TX7 3, w ∈ tbG := by
  intro w hw
  obtain ⟨k, hk, rfl⟩ := List.mem_map.mp hw
  have hk := List.mem_range.mp hk
  match k, hk with
  | 0, _ => exact w_1_46
  | 1, _ => exact w_1_48
  | 2, _ => exact w_1_50
  | n + 3, h => exact absurd h (by omega)
theorem inG8 : ∀ w ∈ u_ws RX8 TX8 4, w ∈ tbG := by
  intro w hw
  obtain ⟨k, hk, rfl⟩ := List.mem_map.mp hw
  have hk := List.mem_range.mp hk
  match k, hk with
  | 0, _ => exact w_2_166
  | 1, _ => exact w_2_168
  | 2, _ => exact w_2_170
  | 3, _ => exact w_2_172
  | n + 4, h => exact absurd h (by omega)
theorem inG9 : ∀ w ∈ u_ws RX9 TX9 5, w ∈ tbG := by
  intro w hw
  obtain ⟨k, hk, rfl⟩ := List.mem_map.mp hw
  have hk := List.mem_range.mp hk
  match k, hk with
  | 0, _ => exact w_1_111
  | 1, _ => exact w_1_113
  | 2, _ => exact w_1_115
  | 3, _ => exact w_1_117
  | 4, _ => exact w_1_119
  | n + 5, h => exact absurd h (by omega)
theorem inG10 : ∀ w ∈ u_ws RX10 TX10 2, w ∈ tbG := by
  intro w hw
  obtain ⟨k, hk, rfl⟩ := List.mem_map.mp hw
  have hk := List.mem_range.mp hk
  match k, hk with
  | 0, _ => exact w_1_125
  | 1, _ => exact w_1_127
  | n + 2, h => exact absurd h (by omega)
theorem inG11 : ∀ w ∈ u_ws RX11 TX11 16, w ∈ tbG := by
  intro w hw
  obtain ⟨k, hk, rfl⟩ := List.mem_map.mp hw
  have hk := List.mem_range.mp hk
  match k, hk with
  | 0, _ => exact w_2_209
  | 1, _ => exact w_2_211
  | 2, _ => exact w_2_213
  | 3, _ => exact w_2_215
  | 4, _ => exact w_2_217
  | 5, _ => exact w_2_219
  | 6, _ => exact w_2_221
  | 7, _ => exact w_2_223
  | 8, _ => exact w_2_225
  | 9, _ => exact w_2_227
  | 10, _ => exact w_2_229
  | 11, _ => exact w_2_231
  | 12, _ => exact w_2_233
  | 13, _ => exact w_2_235
  | 14, _ => exact w_2_237
  | 15, _ => exact w_2_239
  | n + 16, h => exact absurd h (by omega)
theorem inG12 : ∀ w ∈ u_ws RX12 TX12 63, w ∈ tbG := by
  intro w hw
  obtain ⟨k, hk, rfl⟩ := List.mem_map.mp hw
  have hk := List.mem_range.mp hk
  match k, hk with
  | 0, _ => exact w_6_54
  | 1, _ => exact w_6_56
  | 2, _ => exact w_6_58
  | 3, _ => exact w_6_60
  | 4, _ => exact w_6_62
  | 5, _ => exact w_6_64
  | 6, _ => exact w_6_66
  | 7, _ => exact w_6_68
  | 8, _ => exact w_6_70
  | 9, _ => exact w_6_72
  | 10, _ => exact w_6_74
  | 11, _ => exact w_6_76
  | 12, _ => exact w_6_78
  | 13, _ => exact w_6_80
  | 14, _ => exact w_6_82
  | 15, _ => exact w_6_84
  | 16, _ => exact w_6_86
  | 17, _ => exact w_6_88
  | 18, _ => exact w_6_90
  | 19, _ => exact w_6_92
  | 20, _ => exact w_6_94
  | 21, _ => exact w_6_96
  | 22, _ => exact w_6_98
  | 23, _ => exact w_6_100
  | 24, _ => exact w_6_102
  | 25, _ => exact w_6_104
  | 26, _ => exact w_6_106
  | 27, _ => exact w_6_108
  | 28, _ => exact w_6_110
  | 29, _ => exact w_6_112
  | 30, _ => exact w_6_114
  | 31, _ => exact w_6_116
  | 32, _ => exact w_6_118
  | 33, _ => exact w_6_120
  | 34, _ => exact w_6_122
  | 35, _ => exact w_6_124
  | 36, _ => exact w_6_126
  | 37, _ => exact w_6_128
  | 38, _ => exact w_6_130
  | 39, _ => exact w_6_132
  | 40, _ => exact w_6_134
  | 41, _ => exact w_6_136
  | 42, _ => exact w_6_138
  | 43, _ => exact w_6_140
  | 44, _ => exact w_6_142
  | 45, _ => exact w_6_144
  | 46, _ => exact w_6_146
  | 47, _ => exact w_6_148
  | 48, _ => exact w_6_150
  | 49, _ => exact w_6_152
  | 50, _ => exact w_6_154
  | 51, _ => exact w_6_156
  | 52, _ => exact w_6_158
  | 53, _ => exact w_6_160
  | 54, _ => exact w_6_162
  | 55, _ => exact w_6_164
  | 56, _ => exact w_6_166
  | 57, _ => exact w_6_168
  | 58, _ => exact w_6_170
  | 59, _ => exact w_6_172
  | 60, _ => exact w_6_174
  | 61, _ => exact w_6_176
  | 62, _ => exact w_6_178
  | n + 63, h => exact absurd h (by omega)
/-! ===== pool entries: fields ===== -/
theorem fi_X7_9 : FI RX7 9 7 0 true (.array .byte) := ⟨RX7, TX7, 3, tyX7, rfl, by decide, inG7, w_1_37, rfl, by decide +kernel, nmX7, tyX7_ok, (fun _ => rfl)⟩
theorem fi_X7_9r : FIr RX7 9 7 0 := fi_X7_9.r
theorem fi_X9_53 : FIr RX9 53 7 0 := ⟨RX7, TX7, 3, rfl, by decide, inG7, w_1_38⟩
theorem fi_X7_15 : FI RX7 15 7 1 false .int := ⟨RX7, TX7, 3, tyX7, rfl, by decide, inG7, w_1_39, rfl, by decide +kernel, nmX7, tyX7_ok, (fun h => by cases h)⟩
theorem fi_X7_15r : FIr RX7 15 7 1 := fi_X7_15.r
theorem fi_X11_101 : FI RX11 101 7 1 false .int := ⟨RX7, TX7, 3, tyX7, rfl, by decide, inG7, w_1_40, rfl, by decide +kernel, nmX7, tyX7_ok, (fun h => by cases h)⟩
theorem fi_X11_101r : FIr RX11 101 7 1 := fi_X11_101.r
theorem fi_X7_19 : FI RX7 19 7 2 false .int := ⟨RX7, TX7, 3, tyX7, rfl, by decide, inG7, w_1_41, rfl, by decide +kernel, nmX7, tyX7_ok, (fun h => by cases h)⟩
theorem fi_X7_19r : FIr RX7 19 7 2 := fi_X7_19.r
theorem fi_X1_42 : FI RX1 42 7 2 false .int := ⟨RX7, TX7, 3, tyX7, rfl, by decide, inG7, w_1_42, rfl, by decide +kernel, nmX7, tyX7_ok, (fun h => by cases h)⟩
theorem fi_X1_42r : FIr RX1 42 7 2 := fi_X1_42.r
theorem fi_X11_113 : FI RX11 113 7 2 false .int := ⟨RX7, TX7, 3, tyX7, rfl, by decide, inG7, w_1_43, rfl, by decide +kernel, nmX7, tyX7_ok, (fun h => by cases h)⟩
theorem fi_X11_113r : FIr RX11 113 7 2 := fi_X11_113.r
theorem fi_X6_90 : FI RX6 90 7 2 false .int := ⟨RX7, TX7, 3, tyX7, rfl, by decide, inG7, w_1_44, rfl, by decide +kernel, nmX7, tyX7_ok, (fun h => by cases h)⟩
theorem fi_X6_90r : FIr RX6 90 7 2 := fi_X6_90.r
theorem fi_X4_70 : FI RX4 70 7 2 false .int := ⟨RX7, TX7, 3, tyX7, rfl, by decide, inG7, w_1_45, rfl, by decide +kernel, nmX7, tyX7_ok, (fun h => by cases h)⟩
theorem fi_X4_70r : FIr RX4 70 7 2 := fi_X4_70.r
theorem fi_X3_9 : FI RX3 9 3 0 false .long := ⟨RX3, TX3, 2, tyX3, rfl, by decide, inG3, w_1_73, rfl, by decide +kernel, nmX3, tyX3_ok, (fun h => by cases h)⟩
theorem fi_X3_9r : FIr RX3 9 3 0 := fi_X3_9.r
theorem fi_X9_35 : FI RX9 35 3 0 false .long := ⟨RX3, TX3, 2, tyX3, rfl, by decide, inG3, w_1_74, rfl, by decide +kernel, nmX3, tyX3_ok, (fun h => by cases h)⟩
theorem fi_X9_35r : FIr RX9 35 3 0 := fi_X9_35.r
theorem fi_X4_63 : FI RX4 63 3 0 false .long := ⟨RX3, TX3, 2, tyX3, rfl, by decide, inG3, w_1_75, rfl, by decide +kernel, nmX3, tyX3_ok, (fun h => by cases h)⟩
theorem fi_X4_63r : FIr RX4 63 3 0 := fi_X4_63.r
theorem fi_X8_80 : FI RX8 80 3 0 false .long := ⟨RX3, TX3, 2, tyX3, rfl, by decide, inG3, w_1_76, rfl, by decide +kernel, nmX3, tyX3_ok, (fun h => by cases h)⟩
theorem fi_X8_80r : FIr RX8 80 3 0 := fi_X8_80.r
theorem fi_X6_169 : FI RX6 169 3 0 false .long := ⟨RX3, TX3, 2, tyX3, rfl, by decide, inG3, w_1_77, rfl, by decide +kernel, nmX3, tyX3_ok, (fun h => by cases h)⟩
theorem fi_X6_169r : FIr RX6 169 3 0 := fi_X6_169.r
theorem fi_X11_223 : FI RX11 223 3 0 false .long := ⟨RX3, TX3, 2, tyX3, rfl, by decide, inG3, w_1_78, rfl, by decide +kernel, nmX3, tyX3_ok, (fun h => by cases h)⟩
theorem fi_X11_223r : FIr RX11 223 3 0 := fi_X11_223.r
theorem fi_X0_87 : FI RX0 87 3 0 false .long := ⟨RX3, TX3, 2, tyX3, rfl, by decide, inG3, w_1_79, rfl, by decide +kernel, nmX3, tyX3_ok, (fun h => by cases h)⟩
theorem fi_X0_87r : FIr RX0 87 3 0 := fi_X0_87.r
theorem fi_X3_15 : FI RX3 15 3 1 false .long := ⟨RX3, TX3, 2, tyX3, rfl, by decide, inG3, w_1_80, rfl, by decide +kernel, nmX3, tyX3_ok, (fun h => by cases h)⟩
theorem fi_X3_15r : FIr RX3 15 3 1 := fi_X3_15.r
theorem fi_X8_86 : FI RX8 86 3 1 false .long := ⟨RX3, TX3, 2, tyX3, rfl, by decide, inG3, w_1_81, rfl, by decide +kernel, nmX3, tyX3_ok, (fun h => by cases h)⟩
theorem fi_X8_86r : FIr RX8 86 3 1 := fi_X8_86.r
theorem fi_X0_91 : FI RX0 91 3 1 false .long := ⟨RX3, TX3, 2, tyX3, rfl, by decide, inG3, w_1_82, rfl, by decide +kernel, nmX3, tyX3_ok, (fun h => by cases h)⟩
theorem fi_X0_91r : FIr RX0 91 3 1 := fi_X0_91.r
theorem fi_X9_11 : FI RX9 11 9 0 true (.array .byte) := ⟨RX9, TX9, 5, tyX9, rfl, by decide, inG9, w_1_89, rfl, by decide +kernel, nmX9, tyX9_ok, (fun _ => rfl)⟩
theorem fi_X9_11r : FIr RX9 11 9 0 := fi_X9_11.r
theorem fi_X10_22 : FIr RX10 22 9 0 := ⟨RX9, TX9, 5, rfl, by decide, inG9, w_1_90⟩
theorem fi_X11_133 : FIr RX11 133 9 0 := ⟨RX9, TX9, 5, rfl, by decide, inG9, w_1_91⟩
theorem fi_X9_17 : FI RX9 17 9 1 false .int := ⟨RX9, TX9, 5, tyX9, rfl, by decide, inG9, w_1_92, rfl, by decide +kernel, nmX9, tyX9_ok, (fun h => by cases h)⟩
theorem fi_X9_17r : FIr RX9 17 9 1 := fi_X9_17.r
theorem fi_X10_34 : FI RX10 34 9 1 false .int := ⟨RX9, TX9, 5, tyX9, rfl, by decide, inG9, w_1_93, rfl, by decide +kernel, nmX9, tyX9_ok, (fun h => by cases h)⟩
theorem fi_X10_34r : FIr RX10 34 9 1 := fi_X10_34.r
theorem fi_X11_132 : FI RX11 132 9 1 false .int := ⟨RX9, TX9, 5, tyX9, rfl, by decide, inG9, w_1_94, rfl, by decide +kernel, nmX9, tyX9_ok, (fun h => by cases h)⟩
theorem fi_X11_132r : FIr RX11 132 9 1 := fi_X11_132.r
theorem fi_X9_21 : FI RX9 21 9 2 true (.array .int) := ⟨RX9, TX9, 5, tyX9, rfl, by decide, inG9, w_1_95, rfl, by decide +kernel, nmX9, tyX9_ok, (fun _ => rfl)⟩
theorem fi_X9_21r : FIr RX9 21 9 2 := fi_X9_21.r
theorem fi_X10_37 : FIr RX10 37 9 2 := ⟨RX9, TX9, 5, rfl, by decide, inG9, w_1_96⟩
theorem fi_X1_104 : FIr RX1 104 9 2 := ⟨RX9, TX9, 5, rfl, by decide, inG9, w_1_97⟩
theorem fi_X11_137 : FIr RX11 137 9 2 := ⟨RX9, TX9, 5, rfl, by decide, inG9, w_1_98⟩
theorem fi_X6_128 : FIr RX6 128 9 2 := ⟨RX9, TX9, 5, rfl, by decide, inG9, w_1_99⟩
theorem fi_X9_28 : FI RX9 28 9 3 true (.object "UnitProver$Fraction") := ⟨RX9, TX9, 5, tyX9, rfl, by decide, inG9, w_1_100, rfl, by decide +kernel, nmX9, tyX9_ok, (fun _ => rfl)⟩
theorem fi_X9_28r : FIr RX9 28 9 3 := fi_X9_28.r
theorem fi_X10_41 : FIr RX10 41 9 3 := ⟨RX9, TX9, 5, rfl, by decide, inG9, w_1_101⟩
theorem fi_X1_135 : FIr RX1 135 9 3 := ⟨RX9, TX9, 5, rfl, by decide, inG9, w_1_102⟩
theorem fi_X11_143 : FIr RX11 143 9 3 := ⟨RX9, TX9, 5, rfl, by decide, inG9, w_1_103⟩
theorem fi_X6_135 : FIr RX6 135 9 3 := ⟨RX9, TX9, 5, rfl, by decide, inG9, w_1_104⟩
theorem fi_X8_74 : FIr RX8 74 9 3 := ⟨RX9, TX9, 5, rfl, by decide, inG9, w_1_105⟩
theorem fi_X9_32 : FI RX9 32 9 4 true (.object "UnitProver$Fraction") := ⟨RX9, TX9, 5, tyX9, rfl, by decide, inG9, w_1_106, rfl, by decide +kernel, nmX9, tyX9_ok, (fun _ => rfl)⟩
theorem fi_X9_32r : FIr RX9 32 9 4 := fi_X9_32.r
theorem fi_X1_117 : FIr RX1 117 9 4 := ⟨RX9, TX9, 5, rfl, by decide, inG9, w_1_107⟩
theorem fi_X11_150 : FIr RX11 150 9 4 := ⟨RX9, TX9, 5, rfl, by decide, inG9, w_1_108⟩
theorem fi_X6_142 : FIr RX6 142 9 4 := ⟨RX9, TX9, 5, rfl, by decide, inG9, w_1_109⟩
theorem fi_X8_89 : FIr RX8 89 9 4 := ⟨RX9, TX9, 5, rfl, by decide, inG9, w_1_110⟩
theorem fi_X10_11 : FI RX10 11 10 0 true (.array (.object "UnitProver$Unit")) := ⟨RX10, TX10, 2, tyX10, rfl, by decide, inG10, w_1_122, rfl, by decide +kernel, nmX10, tyX10_ok, (fun _ => rfl)⟩
theorem fi_X10_11r : FIr RX10 11 10 0 := fi_X10_11.r
theorem fi_X10_17 : FI RX10 17 10 1 false .int := ⟨RX10, TX10, 2, tyX10, rfl, by decide, inG10, w_1_123, rfl, by decide +kernel, nmX10, tyX10_ok, (fun h => by cases h)⟩
theorem fi_X10_17r : FIr RX10 17 10 1 := fi_X10_17.r
theorem fi_X11_119 : FI RX11 119 10 1 false .int := ⟨RX10, TX10, 2, tyX10, rfl, by decide, inG10, w_1_124, rfl, by decide +kernel, nmX10, tyX10_ok, (fun h => by cases h)⟩
theorem fi_X11_119r : FIr RX11 119 10 1 := fi_X11_119.r
theorem fi_X0_9 : FI RX0 9 0 0 true (.array .int) := ⟨RX0, TX0, 11, tyX0, rfl, by decide, inG0, w_1_138, rfl, by decide +kernel, nmX0, tyX0_ok, (fun _ => rfl)⟩
theorem fi_X0_9r : FIr RX0 9 0 0 := fi_X0_9.r
theorem fi_X11_277 : FIr RX11 277 0 0 := ⟨RX0, TX0, 11, rfl, by decide, inG0, w_1_139⟩
theorem fi_X0_15 : FI RX0 15 0 1 true (.array .int) := ⟨RX0, TX0, 11, tyX0, rfl, by decide, inG0, w_1_140, rfl, by decide +kernel, nmX0, tyX0_ok, (fun _ => rfl)⟩
theorem fi_X0_15r : FIr RX0 15 0 1 := fi_X0_15.r
theorem fi_X11_280 : FIr RX11 280 0 1 := ⟨RX0, TX0, 11, rfl, by decide, inG0, w_1_141⟩
theorem fi_X0_18 : FI RX0 18 0 2 true (.array .int) := ⟨RX0, TX0, 11, tyX0, rfl, by decide, inG0, w_1_142, rfl, by decide +kernel, nmX0, tyX0_ok, (fun _ => rfl)⟩
theorem fi_X0_18r : FIr RX0 18 0 2 := fi_X0_18.r
theorem fi_X11_283 : FIr RX11 283 0 2 := ⟨RX0, TX0, 11, rfl, by decide, inG0, w_1_143⟩
theorem fi_X0_21 : FI RX0 21 0 3 true (.array .int) := ⟨RX0, TX0, 11, tyX0, rfl, by decide, inG0, w_1_144, rfl, by decide +kernel, nmX0, tyX0_ok, (fun _ => rfl)⟩
theorem fi_X0_21r : FIr RX0 21 0 3 := fi_X0_21.r
theorem fi_X11_286 : FIr RX11 286 0 3 := ⟨RX0, TX0, 11, rfl, by decide, inG0, w_1_145⟩
theorem fi_X0_24 : FI RX0 24 0 4 false .int := ⟨RX0, TX0, 11, tyX0, rfl, by decide, inG0, w_1_146, rfl, by decide +kernel, nmX0, tyX0_ok, (fun h => by cases h)⟩
theorem fi_X0_24r : FIr RX0 24 0 4 := fi_X0_24.r
theorem fi_X11_273 : FI RX11 273 0 4 false .int := ⟨RX0, TX0, 11, tyX0, rfl, by decide, inG0, w_1_147, rfl, by decide +kernel, nmX0, tyX0_ok, (fun h => by cases h)⟩
theorem fi_X11_273r : FIr RX11 273 0 4 := fi_X11_273.r
theorem fi_X0_28 : FI RX0 28 0 5 true (.array .boolean) := ⟨RX0, TX0, 11, tyX0, rfl, by decide, inG0, w_1_148, rfl, by decide +kernel, nmX0, tyX0_ok, (fun _ => rfl)⟩
theorem fi_X0_28r : FIr RX0 28 0 5 := fi_X0_28.r
theorem fi_X0_32 : FI RX0 32 0 6 true (.array .int) := ⟨RX0, TX0, 11, tyX0, rfl, by decide, inG0, w_1_149, rfl, by decide +kernel, nmX0, tyX0_ok, (fun _ => rfl)⟩
theorem fi_X0_32r : FIr RX0 32 0 6 := fi_X0_32.r
theorem fi_X11_289 : FIr RX11 289 0 6 := ⟨RX0, TX0, 11, rfl, by decide, inG0, w_1_150⟩
theorem fi_X0_35 : FI RX0 35 0 7 true (.array .int) := ⟨RX0, TX0, 11, tyX0, rfl, by decide, inG0, w_1_151, rfl, by decide +kernel, nmX0, tyX0_ok, (fun _ => rfl)⟩
theorem fi_X0_35r : FIr RX0 35 0 7 := fi_X0_35.r
theorem fi_X0_38 : FI RX0 38 0 8 true (.array .int) := ⟨RX0, TX0, 11, tyX0, rfl, by decide, inG0, w_1_152, rfl, by decide +kernel, nmX0, tyX0_ok, (fun _ => rfl)⟩
theorem fi_X0_38r : FIr RX0 38 0 8 := fi_X0_38.r
theorem fi_X0_44 : FI RX0 44 0 9 true (.object "UnitProver$Fraction") := ⟨RX0, TX0, 11, tyX0, rfl, by decide, inG0, w_1_153, rfl, by decide +kernel, nmX0, tyX0_ok, (fun _ => rfl)⟩
theorem fi_X0_44r : FIr RX0 44 0 9 := fi_X0_44.r
theorem fi_X11_312 : FIr RX11 312 0 9 := ⟨RX0, TX0, 11, rfl, by decide, inG0, w_1_154⟩
theorem fi_X0_48 : FI RX0 48 0 10 true (.object "UnitProver$Fraction") := ⟨RX0, TX0, 11, tyX0, rfl, by decide, inG0, w_1_155, rfl, by decide +kernel, nmX0, tyX0_ok, (fun _ => rfl)⟩
theorem fi_X0_48r : FIr RX0 48 0 10 := fi_X0_48.r
theorem fi_X1_9 : FI RX1 9 1 0 true (.array .int) := ⟨RX1, TX1, 12, tyX1, rfl, by decide, inG1, w_1_188, rfl, by decide +kernel, nmX1, tyX1_ok, (fun _ => rfl)⟩
theorem fi_X1_9r : FIr RX1 9 1 0 := fi_X1_9.r
theorem fi_X1_15 : FI RX1 15 1 1 true (.array .int) := ⟨RX1, TX1, 12, tyX1, rfl, by decide, inG1, w_1_189, rfl, by decide +kernel, nmX1, tyX1_ok, (fun _ => rfl)⟩
theorem fi_X1_15r : FIr RX1 15 1 1 := fi_X1_15.r
theorem fi_X1_48 : FI RX1 48 1 2 false .boolean := ⟨RX1, TX1, 12, tyX1, rfl, by decide, inG1, w_1_190, rfl, by decide +kernel, nmX1, tyX1_ok, (fun h => by cases h)⟩
theorem fi_X1_48r : FIr RX1 48 1 2 := fi_X1_48.r
theorem fi_X1_75 : FI RX1 75 1 3 false .int := ⟨RX1, TX1, 12, tyX1, rfl, by decide, inG1, w_1_191, rfl, by decide +kernel, nmX1, tyX1_ok, (fun h => by cases h)⟩
theorem fi_X1_75r : FIr RX1 75 1 3 := fi_X1_75.r
theorem fi_X1_56 : FI RX1 56 1 4 false .int := ⟨RX1, TX1, 12, tyX1, rfl, by decide, inG1, w_1_192, rfl, by decide +kernel, nmX1, tyX1_ok, (fun h => by cases h)⟩
theorem fi_X1_56r : FIr RX1 56 1 4 := fi_X1_56.r
theorem fi_X1_88 : FI RX1 88 1 5 false .int := ⟨RX1, TX1, 12, tyX1, rfl, by decide, inG1, w_1_193, rfl, by decide +kernel, nmX1, tyX1_ok, (fun h => by cases h)⟩
theorem fi_X1_88r : FIr RX1 88 1 5 := fi_X1_88.r
theorem fi_X1_18 : FI RX1 18 1 6 true (.array .int) := ⟨RX1, TX1, 12, tyX1, rfl, by decide, inG1, w_1_194, rfl, by decide +kernel, nmX1, tyX1_ok, (fun _ => rfl)⟩
theorem fi_X1_18r : FIr RX1 18 1 6 := fi_X1_18.r
theorem fi_X1_21 : FI RX1 21 1 7 true (.array .int) := ⟨RX1, TX1, 12, tyX1, rfl, by decide, inG1, w_1_195, rfl, by decide +kernel, nmX1, tyX1_ok, (fun _ => rfl)⟩
theorem fi_X1_21r : FIr RX1 21 1 7 := fi_X1_21.r
theorem fi_X1_24 : FI RX1 24 1 8 true (.array .int) := ⟨RX1, TX1, 12, tyX1, rfl, by decide, inG1, w_1_196, rfl, by decide +kernel, nmX1, tyX1_ok, (fun _ => rfl)⟩
theorem fi_X1_24r : FIr RX1 24 1 8 := fi_X1_24.r
theorem fi_X1_27 : FI RX1 27 1 9 true (.array .boolean) := ⟨RX1, TX1, 12, tyX1, rfl, by decide, inG1, w_1_197, rfl, by decide +kernel, nmX1, tyX1_ok, (fun _ => rfl)⟩
theorem fi_X1_27r : FIr RX1 27 1 9 := fi_X1_27.r
theorem fi_X1_33 : FI RX1 33 1 10 true (.array (.object "UnitProver$Unit")) := ⟨RX1, TX1, 12, tyX1, rfl, by decide, inG1, w_1_198, rfl, by decide +kernel, nmX1, tyX1_ok, (fun _ => rfl)⟩
theorem fi_X1_33r : FIr RX1 33 1 10 := fi_X1_33.r
theorem fi_X1_38 : FI RX1 38 1 11 true (.object "UnitProver$Unit") := ⟨RX1, TX1, 12, tyX1, rfl, by decide, inG1, w_1_199, rfl, by decide +kernel, nmX1, tyX1_ok, (fun _ => rfl)⟩
theorem fi_X1_38r : FIr RX1 38 1 11 := fi_X1_38.r
theorem fi_X6_34 : FI RX6 34 6 0 false .int := ⟨RX6, TX6, 13, tyX6, rfl, by decide, inG6, w_2_3, rfl, by decide +kernel, nmX6, tyX6_ok, (fun h => by cases h)⟩
theorem fi_X6_34r : FIr RX6 34 6 0 := fi_X6_34.r
theorem fi_X4_67 : FI RX4 67 6 0 false .int := ⟨RX6, TX6, 13, tyX6, rfl, by decide, inG6, w_2_4, rfl, by decide +kernel, nmX6, tyX6_ok, (fun h => by cases h)⟩
theorem fi_X4_67r : FIr RX4 67 6 0 := fi_X4_67.r
theorem fi_X11_215 : FI RX11 215 6 0 false .int := ⟨RX6, TX6, 13, tyX6, rfl, by decide, inG6, w_2_5, rfl, by decide +kernel, nmX6, tyX6_ok, (fun h => by cases h)⟩
theorem fi_X11_215r : FIr RX11 215 6 0 := fi_X11_215.r
theorem fi_X6_38 : FI RX6 38 6 1 false (.object "UnitProver$Step") := ⟨RX6, TX6, 13, tyX6, rfl, by decide, inG6, w_2_6, rfl, by decide +kernel, nmX6, tyX6_ok, (fun h => by cases h)⟩
theorem fi_X6_38r : FIr RX6 38 6 1 := fi_X6_38.r
theorem fi_X4_53 : FI RX4 53 6 1 false (.object "UnitProver$Step") := ⟨RX6, TX6, 13, tyX6, rfl, by decide, inG6, w_2_7, rfl, by decide +kernel, nmX6, tyX6_ok, (fun h => by cases h)⟩
theorem fi_X4_53r : FIr RX4 53 6 1 := fi_X4_53.r
theorem fi_X6_42 : FI RX6 42 6 2 false (.object "UnitProver$Step") := ⟨RX6, TX6, 13, tyX6, rfl, by decide, inG6, w_2_8, rfl, by decide +kernel, nmX6, tyX6_ok, (fun h => by cases h)⟩
theorem fi_X6_42r : FIr RX6 42 6 2 := fi_X6_42.r
theorem fi_X4_57 : FI RX4 57 6 2 false (.object "UnitProver$Step") := ⟨RX6, TX6, 13, tyX6, rfl, by decide, inG6, w_2_9, rfl, by decide +kernel, nmX6, tyX6_ok, (fun h => by cases h)⟩
theorem fi_X4_57r : FIr RX4 57 6 2 := fi_X4_57.r
theorem fi_X6_45 : FI RX6 45 6 3 false .boolean := ⟨RX6, TX6, 13, tyX6, rfl, by decide, inG6, w_2_10, rfl, by decide +kernel, nmX6, tyX6_ok, (fun h => by cases h)⟩
theorem fi_X6_45r : FIr RX6 45 6 3 := fi_X6_45.r
theorem fi_X4_108 : FI RX4 108 6 3 false .boolean := ⟨RX6, TX6, 13, tyX6, rfl, by decide, inG6, w_2_11, rfl, by decide +kernel, nmX6, tyX6_ok, (fun h => by cases h)⟩
theorem fi_X4_108r : FIr RX4 108 6 3 := fi_X4_108.r
theorem fi_X6_49 : FI RX6 49 6 4 false .boolean := ⟨RX6, TX6, 13, tyX6, rfl, by decide, inG6, w_2_12, rfl, by decide +kernel, nmX6, tyX6_ok, (fun h => by cases h)⟩
theorem fi_X6_49r : FIr RX6 49 6 4 := fi_X6_49.r
theorem fi_X6_52 : FI RX6 52 6 5 false .int := ⟨RX6, TX6, 13, tyX6, rfl, by decide, inG6, w_2_13, rfl, by decide +kernel, nmX6, tyX6_ok, (fun h => by cases h)⟩
theorem fi_X6_52r : FIr RX6 52 6 5 := fi_X6_52.r
theorem fi_X4_119 : FI RX4 119 6 5 false .int := ⟨RX6, TX6, 13, tyX6, rfl, by decide, inG6, w_2_14, rfl, by decide +kernel, nmX6, tyX6_ok, (fun h => by cases h)⟩
theorem fi_X4_119r : FIr RX4 119 6 5 := fi_X4_119.r
theorem fi_X6_55 : FI RX6 55 6 6 false .int := ⟨RX6, TX6, 13, tyX6, rfl, by decide, inG6, w_2_15, rfl, by decide +kernel, nmX6, tyX6_ok, (fun h => by cases h)⟩
theorem fi_X6_55r : FIr RX6 55 6 6 := fi_X6_55.r
theorem fi_X6_11 : FI RX6 11 6 7 true (.array .int) := ⟨RX6, TX6, 13, tyX6, rfl, by decide, inG6, w_2_16, rfl, by decide +kernel, nmX6, tyX6_ok, (fun _ => rfl)⟩
theorem fi_X6_11r : FIr RX6 11 6 7 := fi_X6_11.r
theorem fi_X6_15 : FI RX6 15 6 8 true (.array .int) := ⟨RX6, TX6, 13, tyX6, rfl, by decide, inG6, w_2_17, rfl, by decide +kernel, nmX6, tyX6_ok, (fun _ => rfl)⟩
theorem fi_X6_15r : FIr RX6 15 6 8 := fi_X6_15.r
theorem fi_X6_18 : FI RX6 18 6 9 true (.array .int) := ⟨RX6, TX6, 13, tyX6, rfl, by decide, inG6, w_2_18, rfl, by decide +kernel, nmX6, tyX6_ok, (fun _ => rfl)⟩
theorem fi_X6_18r : FIr RX6 18 6 9 := fi_X6_18.r
theorem fi_X4_122 : FIr RX4 122 6 9 := ⟨RX6, TX6, 13, rfl, by decide, inG6, w_2_19⟩
theorem fi_X6_21 : FI RX6 21 6 10 true (.array .int) := ⟨RX6, TX6, 13, tyX6, rfl, by decide, inG6, w_2_20, rfl, by decide +kernel, nmX6, tyX6_ok, (fun _ => rfl)⟩
theorem fi_X6_21r : FIr RX6 21 6 10 := fi_X6_21.r
theorem fi_X4_126 : FIr RX4 126 6 10 := ⟨RX6, TX6, 13, rfl, by decide, inG6, w_2_21⟩
theorem fi_X6_24 : FI RX6 24 6 11 true (.array .int) := ⟨RX6, TX6, 13, tyX6, rfl, by decide, inG6, w_2_22, rfl, by decide +kernel, nmX6, tyX6_ok, (fun _ => rfl)⟩
theorem fi_X6_24r : FIr RX6 24 6 11 := fi_X6_24.r
theorem fi_X11_231 : FIr RX11 231 6 11 := ⟨RX6, TX6, 13, rfl, by decide, inG6, w_2_23⟩
theorem fi_X6_30 : FI RX6 30 6 12 true (.object "UnitProver$Fraction") := ⟨RX6, TX6, 13, tyX6, rfl, by decide, inG6, w_2_24, rfl, by decide +kernel, nmX6, tyX6_ok, (fun _ => rfl)⟩
theorem fi_X6_30r : FIr RX6 30 6 12 := fi_X6_30.r
theorem fi_X4_60 : FIr RX4 60 6 12 := ⟨RX6, TX6, 13, rfl, by decide, inG6, w_2_25⟩
theorem fi_X11_220 : FIr RX11 220 6 12 := ⟨RX6, TX6, 13, rfl, by decide, inG6, w_2_26⟩
theorem fi_X4_11 : FI RX4 11 4 0 true (.array (.object "UnitProver$Step")) := ⟨RX4, TX4, 7, tyX4, rfl, by decide, inG4, w_2_54, rfl, by decide +kernel, nmX4, tyX4_ok, (fun _ => rfl)⟩
theorem fi_X4_11r : FIr RX4 11 4 0 := fi_X4_11.r
theorem fi_X4_17 : FI RX4 17 4 1 false .int := ⟨RX4, TX4, 7, tyX4, rfl, by decide, inG4, w_2_55, rfl, by decide +kernel, nmX4, tyX4_ok, (fun h => by cases h)⟩
theorem fi_X4_17r : FIr RX4 17 4 1 := fi_X4_17.r
theorem fi_X4_21 : FI RX4 21 4 2 false .int := ⟨RX4, TX4, 7, tyX4, rfl, by decide, inG4, w_2_56, rfl, by decide +kernel, nmX4, tyX4_ok, (fun h => by cases h)⟩
theorem fi_X4_21r : FIr RX4 21 4 2 := fi_X4_21.r
theorem fi_X11_192 : FI RX11 192 4 2 false .int := ⟨RX4, TX4, 7, tyX4, rfl, by decide, inG4, w_2_57, rfl, by decide +kernel, nmX4, tyX4_ok, (fun h => by cases h)⟩
theorem fi_X11_192r : FIr RX11 192 4 2 := fi_X11_192.r
theorem fi_X4_24 : FI RX4 24 4 3 false .int := ⟨RX4, TX4, 7, tyX4, rfl, by decide, inG4, w_2_58, rfl, by decide +kernel, nmX4, tyX4_ok, (fun h => by cases h)⟩
theorem fi_X4_24r : FIr RX4 24 4 3 := fi_X4_24.r
theorem fi_X11_198 : FI RX11 198 4 3 false .int := ⟨RX4, TX4, 7, tyX4, rfl, by decide, inG4, w_2_59, rfl, by decide +kernel, nmX4, tyX4_ok, (fun h => by cases h)⟩
theorem fi_X11_198r : FIr RX11 198 4 3 := fi_X11_198.r
theorem fi_X4_27 : FI RX4 27 4 4 false .boolean := ⟨RX4, TX4, 7, tyX4, rfl, by decide, inG4, w_2_60, rfl, by decide +kernel, nmX4, tyX4_ok, (fun h => by cases h)⟩
theorem fi_X4_27r : FIr RX4 27 4 4 := fi_X4_27.r
theorem fi_X11_201 : FI RX11 201 4 4 false .boolean := ⟨RX4, TX4, 7, tyX4, rfl, by decide, inG4, w_2_61, rfl, by decide +kernel, nmX4, tyX4_ok, (fun h => by cases h)⟩
theorem fi_X11_201r : FIr RX11 201 4 4 := fi_X11_201.r
theorem fi_X4_33 : FI RX4 33 4 5 true (.array (.object "UnitProver$Unit")) := ⟨RX4, TX4, 7, tyX4, rfl, by decide, inG4, w_2_62, rfl, by decide +kernel, nmX4, tyX4_ok, (fun _ => rfl)⟩
theorem fi_X4_33r : FIr RX4 33 4 5 := fi_X4_33.r
theorem fi_X4_40 : FI RX4 40 4 6 true (.object "UnitProver$Fraction") := ⟨RX4, TX4, 7, tyX4, rfl, by decide, inG4, w_2_63, rfl, by decide +kernel, nmX4, tyX4_ok, (fun _ => rfl)⟩
theorem fi_X4_40r : FIr RX4 40 4 6 := fi_X4_40.r
theorem fi_X2_9 : FI RX2 9 2 0 true (.array .double) := ⟨RX2, TX2, 2, tyX2, rfl, by decide, inG2, w_2_90, rfl, by decide +kernel, nmX2, tyX2_ok, (fun _ => rfl)⟩
theorem fi_X2_9r : FIr RX2 9 2 0 := fi_X2_9.r
theorem fi_X2_15 : FI RX2 15 2 1 true .double := ⟨RX2, TX2, 2, tyX2, rfl, by decide, inG2, w_2_91, rfl, by decide +kernel, nmX2, tyX2_ok, (fun _ => rfl)⟩
theorem fi_X2_15r : FIr RX2 15 2 1 := fi_X2_15.r
theorem fi_X8_9 : FI RX8 9 8 0 false .int := ⟨RX8, TX8, 4, tyX8, rfl, by decide, inG8, w_2_158, rfl, by decide +kernel, nmX8, tyX8_ok, (fun h => by cases h)⟩
theorem fi_X8_9r : FIr RX8 9 8 0 := fi_X8_9.r
theorem fi_X11_326 : FI RX11 326 8 0 false .int := ⟨RX8, TX8, 4, tyX8, rfl, by decide, inG8, w_2_159, rfl, by decide +kernel, nmX8, tyX8_ok, (fun h => by cases h)⟩
theorem fi_X11_326r : FIr RX11 326 8 0 := fi_X11_326.r
theorem fi_X8_15 : FI RX8 15 8 1 false .int := ⟨RX8, TX8, 4, tyX8, rfl, by decide, inG8, w_2_160, rfl, by decide +kernel, nmX8, tyX8_ok, (fun h => by cases h)⟩
theorem fi_X8_15r : FIr RX8 15 8 1 := fi_X8_15.r
theorem fi_X11_359 : FI RX11 359 8 1 false .int := ⟨RX8, TX8, 4, tyX8, rfl, by decide, inG8, w_2_161, rfl, by decide +kernel, nmX8, tyX8_ok, (fun h => by cases h)⟩
theorem fi_X11_359r : FIr RX11 359 8 1 := fi_X11_359.r
theorem fi_X8_18 : FI RX8 18 8 2 true (.array .double) := ⟨RX8, TX8, 4, tyX8, rfl, by decide, inG8, w_2_162, rfl, by decide +kernel, nmX8, tyX8_ok, (fun _ => rfl)⟩
theorem fi_X8_18r : FIr RX8 18 8 2 := fi_X8_18.r
theorem fi_X11_340 : FIr RX11 340 8 2 := ⟨RX8, TX8, 4, rfl, by decide, inG8, w_2_163⟩
theorem fi_X8_22 : FI RX8 22 8 3 true (.array .boolean) := ⟨RX8, TX8, 4, tyX8, rfl, by decide, inG8, w_2_164, rfl, by decide +kernel, nmX8, tyX8_ok, (fun _ => rfl)⟩
theorem fi_X8_22r : FIr RX8 22 8 3 := fi_X8_22.r
theorem fi_X11_344 : FIr RX11 344 8 3 := ⟨RX8, TX8, 4, rfl, by decide, inG8, w_2_165⟩
theorem fi_X5_19 : FI RX5 19 5 0 true .int := ⟨RX5, TX5, 3, tyX5, rfl, by decide, inG5, w_2_180, rfl, by decide +kernel, nmX5, tyX5_ok, (fun _ => rfl)⟩
theorem fi_X5_19r : FIr RX5 19 5 0 := fi_X5_19.r
theorem fi_X5_9 : FI RX5 9 5 1 true (.array .int) := ⟨RX5, TX5, 3, tyX5, rfl, by decide, inG5, w_2_181, rfl, by decide +kernel, nmX5, tyX5_ok, (fun _ => rfl)⟩
theorem fi_X5_9r : FIr RX5 9 5 1 := fi_X5_9.r
theorem fi_X11_381 : FIr RX11 381 5 1 := ⟨RX5, TX5, 3, rfl, by decide, inG5, w_2_182⟩
theorem fi_X5_15 : FI RX5 15 5 2 true (.array .long) := ⟨RX5, TX5, 3, tyX5, rfl, by decide, inG5, w_2_183, rfl, by decide +kernel, nmX5, tyX5_ok, (fun _ => rfl)⟩
theorem fi_X5_15r : FIr RX5 15 5 2 := fi_X5_15.r
theorem fi_X11_384 : FIr RX11 384 5 2 := ⟨RX5, TX5, 3, rfl, by decide, inG5, w_2_184⟩
theorem fi_X11_12 : FI RX11 12 11 0 true (.object "UnitProver$Tape") := ⟨RX11, TX11, 16, tyX11, rfl, by decide, inG11, w_2_193, rfl, by decide +kernel, nmX11, tyX11_ok, (fun _ => rfl)⟩
theorem fi_X11_12r : FIr RX11 12 11 0 := fi_X11_12.r
theorem fi_X11_21 : FI RX11 21 11 1 true (.object "UnitProver$Units") := ⟨RX11, TX11, 16, tyX11, rfl, by decide, inG11, w_2_194, rfl, by decide +kernel, nmX11, tyX11_ok, (fun _ => rfl)⟩
theorem fi_X11_21r : FIr RX11 21 11 1 := fi_X11_21.r
theorem fi_X11_28 : FI RX11 28 11 2 true (.object "UnitProver$Claims") := ⟨RX11, TX11, 16, tyX11, rfl, by decide, inG11, w_2_195, rfl, by decide +kernel, nmX11, tyX11_ok, (fun _ => rfl)⟩
theorem fi_X11_28r : FIr RX11 28 11 2 := fi_X11_28.r
theorem fi_X11_32 : FI RX11 32 11 3 true (.object "UnitProver$Units") := ⟨RX11, TX11, 16, tyX11, rfl, by decide, inG11, w_2_196, rfl, by decide +kernel, nmX11, tyX11_ok, (fun _ => rfl)⟩
theorem fi_X11_32r : FIr RX11 32 11 3 := fi_X11_32.r
theorem fi_X11_35 : FI RX11 35 11 4 true (.object "UnitProver$Claims") := ⟨RX11, TX11, 16, tyX11, rfl, by decide, inG11, w_2_197, rfl, by decide +kernel, nmX11, tyX11_ok, (fun _ => rfl)⟩
theorem fi_X11_35r : FIr RX11 35 11 4 := fi_X11_35.r
theorem fi_X11_394 : FI RX11 394 11 5 false .boolean := ⟨RX11, TX11, 16, tyX11, rfl, by decide, inG11, w_2_198, rfl, by decide +kernel, nmX11, tyX11_ok, (fun h => by cases h)⟩
theorem fi_X11_394r : FIr RX11 394 11 5 := fi_X11_394.r
theorem fi_X11_41 : FI RX11 41 11 6 true (.object "UnitProver$Definition") := ⟨RX11, TX11, 16, tyX11, rfl, by decide, inG11, w_2_199, rfl, by decide +kernel, nmX11, tyX11_ok, (fun _ => rfl)⟩
theorem fi_X11_41r : FIr RX11 41 11 6 := fi_X11_41.r
theorem fi_X11_48 : FI RX11 48 11 7 false (.object "UnitProver$Proof") := ⟨RX11, TX11, 16, tyX11, rfl, by decide, inG11, w_2_200, rfl, by decide +kernel, nmX11, tyX11_ok, (fun h => by cases h)⟩
theorem fi_X11_48r : FIr RX11 48 11 7 := fi_X11_48.r
theorem fi_X11_52 : FI RX11 52 11 8 false (.object "UnitProver$Proof") := ⟨RX11, TX11, 16, tyX11, rfl, by decide, inG11, w_2_201, rfl, by decide +kernel, nmX11, tyX11_ok, (fun h => by cases h)⟩
theorem fi_X11_52r : FIr RX11 52 11 8 := fi_X11_52.r
theorem fi_X11_188 : FI RX11 188 11 9 false .boolean := ⟨RX11, TX11, 16, tyX11, rfl, by decide, inG11, w_2_202, rfl, by decide +kernel, nmX11, tyX11_ok, (fun h => by cases h)⟩
theorem fi_X11_188r : FIr RX11 188 11 9 := fi_X11_188.r
theorem fi_X11_57 : FI RX11 57 11 10 true (.array (.object "UnitProver$Track")) := ⟨RX11, TX11, 16, tyX11, rfl, by decide, inG11, w_2_203, rfl, by decide +kernel, nmX11, tyX11_ok, (fun _ => rfl)⟩
theorem fi_X11_57r : FIr RX11 57 11 10 := fi_X11_57.r
theorem fi_X11_63 : FI RX11 63 11 11 true (.array (.object "UnitProver$Rack")) := ⟨RX11, TX11, 16, tyX11, rfl, by decide, inG11, w_2_204, rfl, by decide +kernel, nmX11, tyX11_ok, (fun _ => rfl)⟩
theorem fi_X11_63r : FIr RX11 63 11 11 := fi_X11_63.r
theorem fi_X11_70 : FI RX11 70 11 12 true (.object "UnitProver$FloatBits") := ⟨RX11, TX11, 16, tyX11, rfl, by decide, inG11, w_2_205, rfl, by decide +kernel, nmX11, tyX11_ok, (fun _ => rfl)⟩
theorem fi_X11_70r : FIr RX11 70 11 12 := fi_X11_70.r
theorem fi_X11_77 : FI RX11 77 11 13 true (.object "UnitProver$Fraction") := ⟨RX11, TX11, 16, tyX11, rfl, by decide, inG11, w_2_206, rfl, by decide +kernel, nmX11, tyX11_ok, (fun _ => rfl)⟩
theorem fi_X11_77r : FIr RX11 77 11 13 := fi_X11_77.r
theorem fi_X11_81 : FI RX11 81 11 14 true (.object "UnitProver$Fraction") := ⟨RX11, TX11, 16, tyX11, rfl, by decide, inG11, w_2_207, rfl, by decide +kernel, nmX11, tyX11_ok, (fun _ => rfl)⟩
theorem fi_X11_81r : FIr RX11 81 11 14 := fi_X11_81.r
theorem fi_X11_86 : FI RX11 86 11 15 true (.array (.object "UnitProver$Unit")) := ⟨RX11, TX11, 16, tyX11, rfl, by decide, inG11, w_2_208, rfl, by decide +kernel, nmX11, tyX11_ok, (fun _ => rfl)⟩
theorem fi_X11_86r : FIr RX11 86 11 15 := fi_X11_86.r
theorem fi_X12_11 : FI RX12 11 12 0 false .int := ⟨RX12, TX12, 63, tyX12, rfl, by decide, inG12, w_5_231, rfl, by decide +kernel, nmX12, tyX12_ok, (fun h => by cases h)⟩
theorem fi_X12_11r : FIr RX12 11 12 0 := fi_X12_11.r
theorem fi_X12_15 : FI RX12 15 12 1 true (.array .int) := ⟨RX12, TX12, 63, tyX12, rfl, by decide, inG12, w_5_232, rfl, by decide +kernel, nmX12, tyX12_ok, (fun _ => rfl)⟩
theorem fi_X12_15r : FIr RX12 15 12 1 := fi_X12_15.r
theorem fi_X12_19 : FI RX12 19 12 2 true (.array .int) := ⟨RX12, TX12, 63, tyX12, rfl, by decide, inG12, w_5_233, rfl, by decide +kernel, nmX12, tyX12_ok, (fun _ => rfl)⟩
theorem fi_X12_19r : FIr RX12 19 12 2 := fi_X12_19.r
theorem fi_X12_22 : FI RX12 22 12 3 true (.array .long) := ⟨RX12, TX12, 63, tyX12, rfl, by decide, inG12, w_5_234, rfl, by decide +kernel, nmX12, tyX12_ok, (fun _ => rfl)⟩
theorem fi_X12_22r : FIr RX12 22 12 3 := fi_X12_22.r
theorem fi_X12_26 : FI RX12 26 12 4 true (.array .long) := ⟨RX12, TX12, 63, tyX12, rfl, by decide, inG12, w_5_235, rfl, by decide +kernel, nmX12, tyX12_ok, (fun _ => rfl)⟩
theorem fi_X12_26r : FIr RX12 26 12 4 := fi_X12_26.r
theorem fi_X12_29 : FI RX12 29 12 5 true (.array .long) := ⟨RX12, TX12, 63, tyX12, rfl, by decide, inG12, w_5_236, rfl, by decide +kernel, nmX12, tyX12_ok, (fun _ => rfl)⟩
theorem fi_X12_29r : FIr RX12 29 12 5 := fi_X12_29.r
theorem fi_X12_32 : FI RX12 32 12 6 true (.array .long) := ⟨RX12, TX12, 63, tyX12, rfl, by decide, inG12, w_5_237, rfl, by decide +kernel, nmX12, tyX12_ok, (fun _ => rfl)⟩
theorem fi_X12_32r : FIr RX12 32 12 6 := fi_X12_32.r
theorem fi_X12_275 : FI RX12 275 12 7 false .int := ⟨RX12, TX12, 63, tyX12, rfl, by decide, inG12, w_5_238, rfl, by decide +kernel, nmX12, tyX12_ok, (fun h => by cases h)⟩
theorem fi_X12_275r : FIr RX12 275 12 7 := fi_X12_275.r
theorem fi_X12_35 : FI RX12 35 12 8 true (.array .int) := ⟨RX12, TX12, 63, tyX12, rfl, by decide, inG12, w_5_239, rfl, by decide +kernel, nmX12, tyX12_ok, (fun _ => rfl)⟩
theorem fi_X12_35r : FIr RX12 35 12 8 := fi_X12_35.r
theorem fi_X12_501 : FI RX12 501 12 9 false .boolean := ⟨RX12, TX12, 63, tyX12, rfl, by decide, inG12, w_6_0, rfl, by decide +kernel, nmX12, tyX12_ok, (fun h => by cases h)⟩
theorem fi_X12_501r : FIr RX12 501 12 9 := fi_X12_501.r
theorem fi_X12_504 : FI RX12 504 12 10 false .int := ⟨RX12, TX12, 63, tyX12, rfl, by decide, inG12, w_6_1, rfl, by decide +kernel, nmX12, tyX12_ok, (fun h => by cases h)⟩
theorem fi_X12_504r : FIr RX12 504 12 10 := fi_X12_504.r
theorem fi_X12_507 : FI RX12 507 12 11 false .int := ⟨RX12, TX12, 63, tyX12, rfl, by decide, inG12, w_6_2, rfl, by decide +kernel, nmX12, tyX12_ok, (fun h => by cases h)⟩
theorem fi_X12_507r : FIr RX12 507 12 11 := fi_X12_507.r
theorem fi_X12_38 : FI RX12 38 12 12 true (.array .int) := ⟨RX12, TX12, 63, tyX12, rfl, by decide, inG12, w_6_3, rfl, by decide +kernel, nmX12, tyX12_ok, (fun _ => rfl)⟩
theorem fi_X12_38r : FIr RX12 38 12 12 := fi_X12_38.r
theorem fi_X12_41 : FI RX12 41 12 13 true (.array .int) := ⟨RX12, TX12, 63, tyX12, rfl, by decide, inG12, w_6_4, rfl, by decide +kernel, nmX12, tyX12_ok, (fun _ => rfl)⟩
theorem fi_X12_41r : FIr RX12 41 12 13 := fi_X12_41.r
theorem fi_X12_44 : FI RX12 44 12 14 true (.array .int) := ⟨RX12, TX12, 63, tyX12, rfl, by decide, inG12, w_6_5, rfl, by decide +kernel, nmX12, tyX12_ok, (fun _ => rfl)⟩
theorem fi_X12_44r : FIr RX12 44 12 14 := fi_X12_44.r
theorem fi_X12_47 : FI RX12 47 12 15 true (.array .long) := ⟨RX12, TX12, 63, tyX12, rfl, by decide, inG12, w_6_6, rfl, by decide +kernel, nmX12, tyX12_ok, (fun _ => rfl)⟩
theorem fi_X12_47r : FIr RX12 47 12 15 := fi_X12_47.r
theorem fi_X12_50 : FI RX12 50 12 16 true (.array .long) := ⟨RX12, TX12, 63, tyX12, rfl, by decide, inG12, w_6_7, rfl, by decide +kernel, nmX12, tyX12_ok, (fun _ => rfl)⟩
theorem fi_X12_50r : FIr RX12 50 12 16 := fi_X12_50.r
theorem fi_X12_53 : FI RX12 53 12 17 true (.array .long) := ⟨RX12, TX12, 63, tyX12, rfl, by decide, inG12, w_6_8, rfl, by decide +kernel, nmX12, tyX12_ok, (fun _ => rfl)⟩
theorem fi_X12_53r : FIr RX12 53 12 17 := fi_X12_53.r
theorem fi_X12_56 : FI RX12 56 12 18 true (.array .long) := ⟨RX12, TX12, 63, tyX12, rfl, by decide, inG12, w_6_9, rfl, by decide +kernel, nmX12, tyX12_ok, (fun _ => rfl)⟩
theorem fi_X12_56r : FIr RX12 56 12 18 := fi_X12_56.r
theorem fi_X12_143 : FI RX12 143 12 19 false .long := ⟨RX12, TX12, 63, tyX12, rfl, by decide, inG12, w_6_10, rfl, by decide +kernel, nmX12, tyX12_ok, (fun h => by cases h)⟩
theorem fi_X12_143r : FIr RX12 143 12 19 := fi_X12_143.r
theorem fi_X12_147 : FI RX12 147 12 20 false .long := ⟨RX12, TX12, 63, tyX12, rfl, by decide, inG12, w_6_11, rfl, by decide +kernel, nmX12, tyX12_ok, (fun h => by cases h)⟩
theorem fi_X12_147r : FIr RX12 147 12 20 := fi_X12_147.r
theorem fi_X12_133 : FI RX12 133 12 21 false .boolean := ⟨RX12, TX12, 63, tyX12, rfl, by decide, inG12, w_6_12, rfl, by decide +kernel, nmX12, tyX12_ok, (fun h => by cases h)⟩
theorem fi_X12_133r : FIr RX12 133 12 21 := fi_X12_133.r
theorem fi_X12_59 : FI RX12 59 12 22 true (.array .int) := ⟨RX12, TX12, 63, tyX12, rfl, by decide, inG12, w_6_13, rfl, by decide +kernel, nmX12, tyX12_ok, (fun _ => rfl)⟩
theorem fi_X12_59r : FIr RX12 59 12 22 := fi_X12_59.r
theorem fi_X12_171 : FI RX12 171 12 23 false .int := ⟨RX12, TX12, 63, tyX12, rfl, by decide, inG12, w_6_14, rfl, by decide +kernel, nmX12, tyX12_ok, (fun h => by cases h)⟩
theorem fi_X12_171r : FIr RX12 171 12 23 := fi_X12_171.r
theorem fi_X12_174 : FI RX12 174 12 24 false .int := ⟨RX12, TX12, 63, tyX12, rfl, by decide, inG12, w_6_15, rfl, by decide +kernel, nmX12, tyX12_ok, (fun h => by cases h)⟩
theorem fi_X12_174r : FIr RX12 174 12 24 := fi_X12_174.r
theorem fi_X12_189 : FI RX12 189 12 25 false .int := ⟨RX12, TX12, 63, tyX12, rfl, by decide, inG12, w_6_16, rfl, by decide +kernel, nmX12, tyX12_ok, (fun h => by cases h)⟩
theorem fi_X12_189r : FIr RX12 189 12 25 := fi_X12_189.r
theorem fi_X12_369 : FI RX12 369 12 26 false .int := ⟨RX12, TX12, 63, tyX12, rfl, by decide, inG12, w_6_17, rfl, by decide +kernel, nmX12, tyX12_ok, (fun h => by cases h)⟩
theorem fi_X12_369r : FIr RX12 369 12 26 := fi_X12_369.r
theorem fi_X12_222 : FI RX12 222 12 27 false .int := ⟨RX12, TX12, 63, tyX12, rfl, by decide, inG12, w_6_18, rfl, by decide +kernel, nmX12, tyX12_ok, (fun h => by cases h)⟩
theorem fi_X12_222r : FIr RX12 222 12 27 := fi_X12_222.r
theorem fi_X12_228 : FI RX12 228 12 28 false .int := ⟨RX12, TX12, 63, tyX12, rfl, by decide, inG12, w_6_19, rfl, by decide +kernel, nmX12, tyX12_ok, (fun h => by cases h)⟩
theorem fi_X12_228r : FIr RX12 228 12 28 := fi_X12_228.r
theorem fi_X12_240 : FI RX12 240 12 29 false .int := ⟨RX12, TX12, 63, tyX12, rfl, by decide, inG12, w_6_20, rfl, by decide +kernel, nmX12, tyX12_ok, (fun h => by cases h)⟩
theorem fi_X12_240r : FIr RX12 240 12 29 := fi_X12_240.r
theorem fi_X12_237 : FI RX12 237 12 30 false .int := ⟨RX12, TX12, 63, tyX12, rfl, by decide, inG12, w_6_21, rfl, by decide +kernel, nmX12, tyX12_ok, (fun h => by cases h)⟩
theorem fi_X12_237r : FIr RX12 237 12 30 := fi_X12_237.r
theorem fi_X12_234 : FI RX12 234 12 31 false .int := ⟨RX12, TX12, 63, tyX12, rfl, by decide, inG12, w_6_22, rfl, by decide +kernel, nmX12, tyX12_ok, (fun h => by cases h)⟩
theorem fi_X12_234r : FIr RX12 234 12 31 := fi_X12_234.r
theorem fi_X12_209 : FI RX12 209 12 32 false .int := ⟨RX12, TX12, 63, tyX12, rfl, by decide, inG12, w_6_23, rfl, by decide +kernel, nmX12, tyX12_ok, (fun h => by cases h)⟩
theorem fi_X12_209r : FIr RX12 209 12 32 := fi_X12_209.r
theorem fi_X12_62 : FI RX12 62 12 33 true (.array .int) := ⟨RX12, TX12, 63, tyX12, rfl, by decide, inG12, w_6_24, rfl, by decide +kernel, nmX12, tyX12_ok, (fun _ => rfl)⟩
theorem fi_X12_62r : FIr RX12 62 12 33 := fi_X12_62.r
theorem fi_X12_65 : FI RX12 65 12 34 true (.array .int) := ⟨RX12, TX12, 63, tyX12, rfl, by decide, inG12, w_6_25, rfl, by decide +kernel, nmX12, tyX12_ok, (fun _ => rfl)⟩
theorem fi_X12_65r : FIr RX12 65 12 34 := fi_X12_65.r
theorem fi_X12_68 : FI RX12 68 12 35 true (.array .int) := ⟨RX12, TX12, 63, tyX12, rfl, by decide, inG12, w_6_26, rfl, by decide +kernel, nmX12, tyX12_ok, (fun _ => rfl)⟩
theorem fi_X12_68r : FIr RX12 68 12 35 := fi_X12_68.r
theorem fi_X12_71 : FI RX12 71 12 36 true (.array .int) := ⟨RX12, TX12, 63, tyX12, rfl, by decide, inG12, w_6_27, rfl, by decide +kernel, nmX12, tyX12_ok, (fun _ => rfl)⟩
theorem fi_X12_71r : FIr RX12 71 12 36 := fi_X12_71.r
theorem fi_X12_74 : FI RX12 74 12 37 true (.array .int) := ⟨RX12, TX12, 63, tyX12, rfl, by decide, inG12, w_6_28, rfl, by decide +kernel, nmX12, tyX12_ok, (fun _ => rfl)⟩
theorem fi_X12_74r : FIr RX12 74 12 37 := fi_X12_74.r
theorem fi_X12_314 : FI RX12 314 12 38 false .boolean := ⟨RX12, TX12, 63, tyX12, rfl, by decide, inG12, w_6_29, rfl, by decide +kernel, nmX12, tyX12_ok, (fun h => by cases h)⟩
theorem fi_X12_314r : FIr RX12 314 12 38 := fi_X12_314.r
theorem fi_X12_405 : FI RX12 405 12 39 false .boolean := ⟨RX12, TX12, 63, tyX12, rfl, by decide, inG12, w_6_30, rfl, by decide +kernel, nmX12, tyX12_ok, (fun h => by cases h)⟩
theorem fi_X12_405r : FIr RX12 405 12 39 := fi_X12_405.r
theorem fi_X12_393 : FI RX12 393 12 40 false .boolean := ⟨RX12, TX12, 63, tyX12, rfl, by decide, inG12, w_6_31, rfl, by decide +kernel, nmX12, tyX12_ok, (fun h => by cases h)⟩
theorem fi_X12_393r : FIr RX12 393 12 40 := fi_X12_393.r
theorem fi_X12_320 : FI RX12 320 12 41 false .int := ⟨RX12, TX12, 63, tyX12, rfl, by decide, inG12, w_6_32, rfl, by decide +kernel, nmX12, tyX12_ok, (fun h => by cases h)⟩
theorem fi_X12_320r : FIr RX12 320 12 41 := fi_X12_320.r
theorem fi_X12_317 : FI RX12 317 12 42 false .int := ⟨RX12, TX12, 63, tyX12, rfl, by decide, inG12, w_6_33, rfl, by decide +kernel, nmX12, tyX12_ok, (fun h => by cases h)⟩
theorem fi_X12_317r : FIr RX12 317 12 42 := fi_X12_317.r
theorem fi_X12_396 : FI RX12 396 12 43 false .int := ⟨RX12, TX12, 63, tyX12, rfl, by decide, inG12, w_6_34, rfl, by decide +kernel, nmX12, tyX12_ok, (fun h => by cases h)⟩
theorem fi_X12_396r : FIr RX12 396 12 43 := fi_X12_396.r
theorem fi_X12_399 : FI RX12 399 12 44 false .int := ⟨RX12, TX12, 63, tyX12, rfl, by decide, inG12, w_6_35, rfl, by decide +kernel, nmX12, tyX12_ok, (fun h => by cases h)⟩
theorem fi_X12_399r : FIr RX12 399 12 44 := fi_X12_399.r
theorem fi_X12_77 : FI RX12 77 12 45 true (.array .int) := ⟨RX12, TX12, 63, tyX12, rfl, by decide, inG12, w_6_36, rfl, by decide +kernel, nmX12, tyX12_ok, (fun _ => rfl)⟩
theorem fi_X12_77r : FIr RX12 77 12 45 := fi_X12_77.r
theorem fi_X12_80 : FI RX12 80 12 46 true (.array .int) := ⟨RX12, TX12, 63, tyX12, rfl, by decide, inG12, w_6_37, rfl, by decide +kernel, nmX12, tyX12_ok, (fun _ => rfl)⟩
theorem fi_X12_80r : FIr RX12 80 12 46 := fi_X12_80.r
theorem fi_X12_83 : FI RX12 83 12 47 true (.array .long) := ⟨RX12, TX12, 63, tyX12, rfl, by decide, inG12, w_6_38, rfl, by decide +kernel, nmX12, tyX12_ok, (fun _ => rfl)⟩
theorem fi_X12_83r : FIr RX12 83 12 47 := fi_X12_83.r
theorem fi_X12_86 : FI RX12 86 12 48 true (.array .long) := ⟨RX12, TX12, 63, tyX12, rfl, by decide, inG12, w_6_39, rfl, by decide +kernel, nmX12, tyX12_ok, (fun _ => rfl)⟩
theorem fi_X12_86r : FIr RX12 86 12 48 := fi_X12_86.r
theorem fi_X12_359 : FI RX12 359 12 49 false .boolean := ⟨RX12, TX12, 63, tyX12, rfl, by decide, inG12, w_6_40, rfl, by decide +kernel, nmX12, tyX12_ok, (fun h => by cases h)⟩
theorem fi_X12_359r : FIr RX12 359 12 49 := fi_X12_359.r
theorem fi_X12_89 : FI RX12 89 12 50 true (.array .long) := ⟨RX12, TX12, 63, tyX12, rfl, by decide, inG12, w_6_41, rfl, by decide +kernel, nmX12, tyX12_ok, (fun _ => rfl)⟩
theorem fi_X12_89r : FIr RX12 89 12 50 := fi_X12_89.r
theorem fi_X12_92 : FI RX12 92 12 51 true (.array .int) := ⟨RX12, TX12, 63, tyX12, rfl, by decide, inG12, w_6_42, rfl, by decide +kernel, nmX12, tyX12_ok, (fun _ => rfl)⟩
theorem fi_X12_92r : FIr RX12 92 12 51 := fi_X12_92.r
theorem fi_X12_336 : FI RX12 336 12 52 false .int := ⟨RX12, TX12, 63, tyX12, rfl, by decide, inG12, w_6_43, rfl, by decide +kernel, nmX12, tyX12_ok, (fun h => by cases h)⟩
theorem fi_X12_336r : FIr RX12 336 12 52 := fi_X12_336.r
theorem fi_X12_95 : FI RX12 95 12 53 true (.array .int) := ⟨RX12, TX12, 63, tyX12, rfl, by decide, inG12, w_6_44, rfl, by decide +kernel, nmX12, tyX12_ok, (fun _ => rfl)⟩
theorem fi_X12_95r : FIr RX12 95 12 53 := fi_X12_95.r
theorem fi_X12_98 : FI RX12 98 12 54 true (.array .int) := ⟨RX12, TX12, 63, tyX12, rfl, by decide, inG12, w_6_45, rfl, by decide +kernel, nmX12, tyX12_ok, (fun _ => rfl)⟩
theorem fi_X12_98r : FIr RX12 98 12 54 := fi_X12_98.r
theorem fi_X12_101 : FI RX12 101 12 55 true (.array .int) := ⟨RX12, TX12, 63, tyX12, rfl, by decide, inG12, w_6_46, rfl, by decide +kernel, nmX12, tyX12_ok, (fun _ => rfl)⟩
theorem fi_X12_101r : FIr RX12 101 12 55 := fi_X12_101.r
theorem fi_X12_104 : FI RX12 104 12 56 true (.array .int) := ⟨RX12, TX12, 63, tyX12, rfl, by decide, inG12, w_6_47, rfl, by decide +kernel, nmX12, tyX12_ok, (fun _ => rfl)⟩
theorem fi_X12_104r : FIr RX12 104 12 56 := fi_X12_104.r
theorem fi_X12_107 : FI RX12 107 12 57 true (.array .int) := ⟨RX12, TX12, 63, tyX12, rfl, by decide, inG12, w_6_48, rfl, by decide +kernel, nmX12, tyX12_ok, (fun _ => rfl)⟩
theorem fi_X12_107r : FIr RX12 107 12 57 := fi_X12_107.r
theorem fi_X12_110 : FI RX12 110 12 58 true (.array .int) := ⟨RX12, TX12, 63, tyX12, rfl, by decide, inG12, w_6_49, rfl, by decide +kernel, nmX12, tyX12_ok, (fun _ => rfl)⟩
theorem fi_X12_110r : FIr RX12 110 12 58 := fi_X12_110.r
theorem fi_X12_113 : FI RX12 113 12 59 true (.array .float) := ⟨RX12, TX12, 63, tyX12, rfl, by decide, inG12, w_6_50, rfl, by decide +kernel, nmX12, tyX12_ok, (fun _ => rfl)⟩
theorem fi_X12_113r : FIr RX12 113 12 59 := fi_X12_113.r
theorem fi_X12_117 : FI RX12 117 12 60 true (.array .double) := ⟨RX12, TX12, 63, tyX12, rfl, by decide, inG12, w_6_51, rfl, by decide +kernel, nmX12, tyX12_ok, (fun _ => rfl)⟩
theorem fi_X12_117r : FIr RX12 117 12 60 := fi_X12_117.r
theorem fi_X12_121 : FI RX12 121 12 61 true (.array .int) := ⟨RX12, TX12, 63, tyX12, rfl, by decide, inG12, w_6_52, rfl, by decide +kernel, nmX12, tyX12_ok, (fun _ => rfl)⟩
theorem fi_X12_121r : FIr RX12 121 12 61 := fi_X12_121.r
theorem fi_X12_124 : FI RX12 124 12 62 true (.array .int) := ⟨RX12, TX12, 63, tyX12, rfl, by decide, inG12, w_6_53, rfl, by decide +kernel, nmX12, tyX12_ok, (fun _ => rfl)⟩
theorem fi_X12_124r : FIr RX12 124 12 62 := fi_X12_124.r
/-! ===== pool entries: methods ===== -/
theorem lk_L_9 : LkI RL 9 mX11_init 0 := ⟨⟨Or.inl w_1_25, w_1_27, w_1_1, by decide, by decide, by decide +kernel, by decide⟩, rfl, w_1_26, rfl⟩
theorem lk_X11_20 : LkI RX11 20 mX10_init 0 := ⟨⟨Or.inl w_1_56, w_1_58, w_1_3, by decide, by decide, by decide +kernel, by decide⟩, rfl, w_1_57, rfl⟩
theorem lk_X11_47 : LkI RX11 47 mX4_init 0 := ⟨⟨Or.inl w_1_227, w_1_229, w_1_8, by decide, by decide, by decide +kernel, by decide⟩, rfl, w_1_228, rfl⟩
theorem lk_X11_69 : LkI RX11 69 mX2_init 0 := ⟨⟨Or.inl w_2_85, w_2_87, w_1_10, by decide, by decide, by decide +kernel, by decide⟩, rfl, w_2_86, rfl⟩
theorem lk_X11_90 : LkV RX11 90 mX10_addBases 0 := ⟨⟨Or.inl w_2_101, w_2_104, w_1_3, by decide, by decide, by decide +kernel, by decide⟩, w_2_102, w_2_103⟩
theorem lk_X10_28 : LkV RX10 28 mJ0_charAt_5068e 1 := ⟨⟨Or.inl w_2_106, w_2_109, w_1_11, by decide, by decide, by decide +kernel, by decide⟩, w_2_107, w_2_108⟩
theorem lk_J0_492 : LkV RJ0 492 mJ0_isLatin1_aae02 0 := ⟨⟨Or.inl w_2_110, w_2_113, w_1_11, by decide, by decide, by decide +kernel, by decide⟩, w_2_111, w_2_112⟩
theorem lk_J0_495 : LkS RJ0 495 mJ1_charAt_3b067 2 := ⟨⟨Or.inl w_2_116, w_2_118, w_1_12, by decide, by decide, by decide +kernel, by decide⟩, w_2_117⟩
theorem lk_J1_9 : LkS RJ1 9 mJ0_checkIndex_df160 2 := ⟨⟨Or.inl w_2_119, w_2_121, w_1_11, by decide, by decide, by decide +kernel, by decide⟩, w_2_120⟩
theorem lk_J0_1059 : LkS RJ0 1059 mJ3_checkIndex_8e157 3 := ⟨⟨Or.inl w_2_124, w_2_126, w_1_13, by decide, by decide, by decide +kernel, by decide⟩, w_2_125⟩
theorem lk_J0_498 : LkS RJ0 498 mJ2_charAt_3b067 2 := ⟨⟨Or.inl w_2_127, w_2_129, w_1_14, by decide, by decide, by decide +kernel, by decide⟩, w_2_128⟩
theorem lk_J2_67 : LkS RJ2 67 mJ2_checkIndex_2214a 2 := ⟨⟨Or.inl w_2_130, w_2_132, w_1_14, by decide, by decide, by decide +kernel, by decide⟩, w_2_131⟩
theorem lk_J2_48 : LkS RJ2 48 mJ2_length_9d52b 1 := ⟨⟨Or.inl w_2_133, w_2_135, w_1_14, by decide, by decide, by decide +kernel, by decide⟩, w_2_134⟩
theorem lk_J2_414 : LkS RJ2 414 mJ0_checkIndex_df160 2 := ⟨⟨Or.inl w_2_136, w_2_121, w_1_11, by decide, by decide, by decide +kernel, by decide⟩, w_2_120⟩
theorem lk_J2_71 : LkS RJ2 71 mJ2_getChar_3b067 2 := ⟨⟨Or.inl w_2_137, w_2_139, w_1_14, by decide, by decide, by decide +kernel, by decide⟩, w_2_138⟩
theorem lk_X10_45 : LkV RX10 45 mX3_set 2 := ⟨⟨Or.inl w_2_146, w_2_149, w_1_5, by decide, by decide, by decide +kernel, by decide⟩, w_2_147, w_2_148⟩
theorem lk_X3_18 : LkS RX3 18 mX3_commonDivisor 2 := ⟨⟨Or.inl w_2_150, w_2_152, w_1_5, by decide, by decide, by decide +kernel, by decide⟩, w_2_151⟩
theorem lk_X11_94 : LkI RX11 94 mX5_init 1 := ⟨⟨Or.inl w_2_176, w_2_178, w_1_16, by decide, by decide, by decide +kernel, by decide⟩, rfl, w_2_177, rfl⟩
theorem lk_L_13 : LkV RL 13 mX11_feed 1 := ⟨⟨Or.inl w_3_2, w_3_5, w_1_1, by decide, by decide, by decide +kernel, by decide⟩, w_3_3, w_3_4⟩
theorem lk_X11_97 : LkV RX11 97 mX7_append 1 := ⟨⟨Or.inl w_3_6, w_3_9, w_1_2, by decide, by decide, by decide +kernel, by decide⟩, w_3_7, w_3_8⟩
theorem lk_L_18 : LkV RL 18 mX11_define 0 := ⟨⟨Or.inl w_3_10, w_3_13, w_1_1, by decide, by decide, by decide +kernel, by decide⟩, w_3_11, w_3_12⟩
theorem lk_X11_105 : LkV RX11 105 mX1_read 1 := ⟨⟨Or.inl w_3_14, w_3_17, w_1_7, by decide, by decide, by decide +kernel, by decide⟩, w_3_15, w_3_16⟩
theorem lk_X1_52 : LkV RX1 52 mX7_takeName 0 := ⟨⟨Or.inl w_3_18, w_3_21, w_1_2, by decide, by decide, by decide +kernel, by decide⟩, w_3_19, w_3_20⟩
theorem lk_X7_26 : LkV RX7 26 mX7_isLetter 1 := ⟨⟨Or.inl w_3_22, w_3_25, w_1_2, by decide, by decide, by decide +kernel, by decide⟩, w_3_23, w_3_24⟩
theorem lk_X7_22 : LkV RX7 22 mX7_look 1 := ⟨⟨Or.inl w_3_26, w_3_29, w_1_2, by decide, by decide, by decide +kernel, by decide⟩, w_3_27, w_3_28⟩
theorem lk_X1_59 : LkV RX1 59 mX7_takes 1 := ⟨⟨Or.inl w_3_30, w_3_33, w_1_2, by decide, by decide, by decide +kernel, by decide⟩, w_3_31, w_3_32⟩
theorem lk_X1_63 : LkS RX1 63 mX1_readRatio 2 := ⟨⟨Or.inl w_3_34, w_3_36, w_1_7, by decide, by decide, by decide +kernel, by decide⟩, w_3_35⟩
theorem lk_X1_82 : LkV RX1 82 mX7_takeNumber 0 := ⟨⟨Or.inl w_3_37, w_3_40, w_1_2, by decide, by decide, by decide +kernel, by decide⟩, w_3_38, w_3_39⟩
theorem lk_X7_30 : LkV RX7 30 mX7_isFigure 1 := ⟨⟨Or.inl w_3_41, w_3_44, w_1_2, by decide, by decide, by decide +kernel, by decide⟩, w_3_42, w_3_43⟩
theorem lk_X7_33 : LkV RX7 33 mX7_takeFigure 0 := ⟨⟨Or.inl w_3_45, w_3_48, w_1_2, by decide, by decide, by decide +kernel, by decide⟩, w_3_46, w_3_47⟩
theorem lk_X1_67 : LkV RX1 67 mX1_readProduct 1 := ⟨⟨Or.inl w_3_49, w_3_52, w_1_7, by decide, by decide, by decide +kernel, by decide⟩, w_3_51, (inP1 (q := (mX1_readProduct.1, _)) (List.mem_of_getElem? (i := 0) rfl))⟩
theorem lk_X1_85 : LkV RX1 85 mX7_takePower 0 := ⟨⟨Or.inl w_3_53, w_3_56, w_1_2, by decide, by decide, by decide +kernel, by decide⟩, w_3_54, w_3_55⟩
theorem lk_X7_37 : LkV RX7 37 mX7_isPower 0 := ⟨⟨Or.inl w_3_57, w_3_60, w_1_2, by decide, by decide, by decide +kernel, by decide⟩, w_3_58, w_3_59⟩
theorem lk_X1_71 : LkV RX1 71 mX7_look 1 := ⟨⟨Or.inl w_3_61, w_3_29, w_1_2, by decide, by decide, by decide +kernel, by decide⟩, w_3_27, w_3_28⟩
theorem lk_X1_78 : LkV RX1 78 mX7_isAtEnd 0 := ⟨⟨Or.inl w_3_62, w_3_65, w_1_2, by decide, by decide, by decide +kernel, by decide⟩, w_3_63, w_3_64⟩
theorem lk_X11_109 : LkV RX11 109 mX1_addTo 2 := ⟨⟨Or.inl w_3_66, w_3_69, w_1_7, by decide, by decide, by decide +kernel, by decide⟩, w_3_67, w_3_68⟩
theorem lk_X1_91 : LkV RX1 91 mX1_partsRefusal 2 := ⟨⟨Or.inl w_3_70, w_3_73, w_1_7, by decide, by decide, by decide +kernel, by decide⟩, w_3_72, (inP1 (q := (mX1_partsRefusal.1, _)) (List.mem_of_getElem? (i := 1) rfl))⟩
theorem lk_X1_95 : LkV RX1 95 mX10_numberOf 3 := ⟨⟨Or.inl w_3_74, w_3_77, w_1_3, by decide, by decide, by decide +kernel, by decide⟩, w_3_75, w_3_76⟩
theorem lk_X10_51 : LkV RX10 51 mX9_isNamed 3 := ⟨⟨Or.inl w_3_78, w_3_81, w_1_4, by decide, by decide, by decide +kernel, by decide⟩, w_3_79, w_3_80⟩
theorem lk_X9_43 : LkV RX9 43 mX7_holds 3 := ⟨⟨Or.inl w_3_82, w_3_85, w_1_2, by decide, by decide, by decide +kernel, by decide⟩, w_3_83, w_3_84⟩
theorem lk_X1_130 : LkV RX1 130 mX10_at 1 := ⟨⟨Or.inl w_3_86, w_3_89, w_1_3, by decide, by decide, by decide +kernel, by decide⟩, w_3_87, w_3_88⟩
theorem lk_X1_133 : LkV RX1 133 mX9_hasOffset 0 := ⟨⟨Or.inl w_3_90, w_3_93, w_1_4, by decide, by decide, by decide +kernel, by decide⟩, w_3_91, w_3_92⟩
theorem lk_X1_101 : LkV RX1 101 mX1_makeDimension 0 := ⟨⟨Or.inl w_3_94, w_3_97, w_1_7, by decide, by decide, by decide +kernel, by decide⟩, w_3_96, (inP1 (q := (mX1_makeDimension.1, _)) (List.mem_of_getElem? (i := 2) rfl))⟩
theorem lk_X11_404 : LkS RX11 404 mJ9_abs_0f7a4 1 := ⟨⟨Or.inl w_3_101, w_3_103, w_1_18, by decide, by decide, by decide +kernel, by decide⟩, w_3_102⟩
theorem lk_X1_111 : LkV RX1 111 mX1_makeFactor 0 := ⟨⟨Or.inl w_3_104, w_3_107, w_1_7, by decide, by decide, by decide +kernel, by decide⟩, w_3_106, (inP1 (q := (mX1_makeFactor.1, _)) (List.mem_of_getElem? (i := 3) rfl))⟩
theorem lk_X1_120 : LkV RX1 120 mX3_set 2 := ⟨⟨Or.inl w_3_108, w_2_149, w_1_5, by decide, by decide, by decide +kernel, by decide⟩, w_2_147, w_2_148⟩
theorem lk_X1_138 : LkV RX1 138 mX3_divide 1 := ⟨⟨Or.inl w_3_109, w_3_112, w_1_5, by decide, by decide, by decide +kernel, by decide⟩, w_3_110, w_3_111⟩
theorem lk_X3_24 : LkV RX3 24 mX3_multiplyBy 2 := ⟨⟨Or.inl w_3_113, w_3_116, w_1_5, by decide, by decide, by decide +kernel, by decide⟩, w_3_114, w_3_115⟩
theorem lk_X3_28 : LkS RX3 28 mX3_product 2 := ⟨⟨Or.inl w_3_117, w_3_119, w_1_5, by decide, by decide, by decide +kernel, by decide⟩, w_3_118⟩
theorem lk_X1_142 : LkV RX1 142 mX3_multiply 1 := ⟨⟨Or.inl w_3_121, w_3_124, w_1_5, by decide, by decide, by decide +kernel, by decide⟩, w_3_122, w_3_123⟩
theorem lk_X1_114 : LkV RX1 114 mX9_takeName 2 := ⟨⟨Or.inl w_3_125, w_3_128, w_1_4, by decide, by decide, by decide +kernel, by decide⟩, w_3_126, w_3_127⟩
theorem lk_X9_47 : LkS RX9 47 mJ9_min_7cf53 2 := ⟨⟨Or.inl w_3_129, w_3_131, w_1_18, by decide, by decide, by decide +kernel, by decide⟩, w_3_130⟩
theorem lk_X1_126 : LkV RX1 126 mX10_append 1 := ⟨⟨Or.inl w_3_135, w_3_138, w_1_3, by decide, by decide, by decide +kernel, by decide⟩, w_3_136, w_3_137⟩
theorem lk_X10_55 : LkV RX10 55 mX9_copy 1 := ⟨⟨Or.inl w_3_139, w_3_142, w_1_4, by decide, by decide, by decide +kernel, by decide⟩, w_3_140, w_3_141⟩
theorem lk_X9_62 : LkV RX9 62 mX3_copy 1 := ⟨⟨Or.inl w_3_143, w_3_146, w_1_5, by decide, by decide, by decide +kernel, by decide⟩, w_3_144, w_3_145⟩
theorem lk_X11_116 : LkV RX11 116 mX7_clear 0 := ⟨⟨Or.inl w_3_147, w_3_150, w_1_2, by decide, by decide, by decide +kernel, by decide⟩, w_3_148, w_3_149⟩
theorem lk_L_23 : LkV RL 23 mX11_drop 0 := ⟨⟨Or.inl w_3_151, w_3_154, w_1_1, by decide, by decide, by decide +kernel, by decide⟩, w_3_152, w_3_153⟩
theorem lk_X11_122 : LkV RX11 122 mX0_removeOf 1 := ⟨⟨Or.inl w_3_155, w_3_158, w_1_6, by decide, by decide, by decide +kernel, by decide⟩, w_3_156, w_3_157⟩
theorem lk_X0_54 : LkV RX0 54 mX0_takeOut 1 := ⟨⟨Or.inl w_3_159, w_3_162, w_1_6, by decide, by decide, by decide +kernel, by decide⟩, w_3_161, (inP1 (q := (mX0_takeOut.1, _)) (List.mem_of_getElem? (i := 4) rfl))⟩
theorem lk_X0_51 : LkV RX0 51 mX0_judgeAll 0 := ⟨⟨Or.inl w_3_163, w_3_166, w_1_6, by decide, by decide, by decide +kernel, by decide⟩, w_3_165, (inP1 (q := (mX0_judgeAll.1, _)) (List.mem_of_getElem? (i := 5) rfl))⟩
theorem lk_X0_64 : LkV RX0 64 mX0_mergeBunches 2 := ⟨⟨Or.inl w_3_167, w_3_170, w_1_6, by decide, by decide, by decide +kernel, by decide⟩, w_3_169, (inP1 (q := (mX0_mergeBunches.1, _)) (List.mem_of_getElem? (i := 6) rfl))⟩
theorem lk_X0_68 : LkV RX0 68 mX0_verdictOn 1 := ⟨⟨Or.inl w_3_171, w_3_174, w_1_6, by decide, by decide, by decide +kernel, by decide⟩, w_3_173, (inP1 (q := (mX0_verdictOn.1, _)) (List.mem_of_getElem? (i := 7) rfl))⟩
theorem lk_X0_72 : LkV RX0 72 mX0_goFrom 2 := ⟨⟨Or.inl w_3_175, w_3_178, w_1_6, by decide, by decide, by decide +kernel, by decide⟩, w_3_176, w_3_177⟩
theorem lk_X0_76 : LkV RX0 76 mX3_set 2 := ⟨⟨Or.inl w_3_179, w_2_149, w_1_5, by decide, by decide, by decide +kernel, by decide⟩, w_2_147, w_2_148⟩
theorem lk_X0_84 : LkV RX0 84 mX0_spreadFrom 1 := ⟨⟨Or.inl w_3_180, w_3_183, w_1_6, by decide, by decide, by decide +kernel, by decide⟩, w_3_182, (inP1 (q := (mX0_spreadFrom.1, _)) (List.mem_of_getElem? (i := 8) rfl))⟩
theorem lk_X0_94 : LkV RX0 94 mX3_multiplyBy 2 := ⟨⟨Or.inl w_3_184, w_3_116, w_1_5, by decide, by decide, by decide +kernel, by decide⟩, w_3_114, w_3_115⟩
theorem lk_X0_80 : LkV RX0 80 mX3_compareWith 1 := ⟨⟨Or.inl w_3_185, w_3_188, w_1_5, by decide, by decide, by decide +kernel, by decide⟩, w_3_186, w_3_187⟩
theorem lk_X3_37 : LkS RX3 37 mJ9_floorDiv_f86c9 2 := ⟨⟨Or.inl w_3_189, w_3_191, w_1_18, by decide, by decide, by decide +kernel, by decide⟩, w_3_190⟩
theorem lk_L_27 : LkV RL 27 mX11_find 0 := ⟨⟨Or.inl w_3_192, w_3_195, w_1_1, by decide, by decide, by decide +kernel, by decide⟩, w_3_193, w_3_194⟩
theorem lk_X11_125 : LkV RX11 125 mX10_numberOf 3 := ⟨⟨Or.inl w_3_196, w_3_77, w_1_3, by decide, by decide, by decide +kernel, by decide⟩, w_3_75, w_3_76⟩
theorem lk_L_31 : LkV RL 31 mX11_name 2 := ⟨⟨Or.inl w_3_197, w_3_200, w_1_1, by decide, by decide, by decide +kernel, by decide⟩, w_3_198, w_3_199⟩
theorem lk_X11_129 : LkV RX11 129 mX10_at 1 := ⟨⟨Or.inl w_3_201, w_3_89, w_1_3, by decide, by decide, by decide +kernel, by decide⟩, w_3_87, w_3_88⟩
theorem lk_L_36 : LkV RL 36 mX11_power 2 := ⟨⟨Or.inl w_3_202, w_3_205, w_1_1, by decide, by decide, by decide +kernel, by decide⟩, w_3_203, w_3_204⟩
theorem lk_L_40 : LkV RL 40 mX11_scale 3 := ⟨⟨Or.inl w_3_206, w_3_209, w_1_1, by decide, by decide, by decide +kernel, by decide⟩, w_3_207, w_3_208⟩
theorem lk_X11_146 : LkV RX11 146 mX3_part 1 := ⟨⟨Or.inl w_3_211, w_3_214, w_1_5, by decide, by decide, by decide +kernel, by decide⟩, w_3_212, w_3_213⟩
theorem lk_L_45 : LkV RL 45 mX11_ratio 3 := ⟨⟨Or.inl w_3_215, w_3_218, w_1_1, by decide, by decide, by decide +kernel, by decide⟩, w_3_216, w_3_217⟩
theorem lk_X11_153 : LkV RX11 153 mX9_isLike 1 := ⟨⟨Or.inl w_3_219, w_3_222, w_1_4, by decide, by decide, by decide +kernel, by decide⟩, w_3_220, w_3_221⟩
theorem lk_X11_157 : LkV RX11 157 mX9_hasOffset 0 := ⟨⟨Or.inl w_3_226, w_3_93, w_1_4, by decide, by decide, by decide +kernel, by decide⟩, w_3_91, w_3_92⟩
theorem lk_X11_161 : LkV RX11 161 mX3_copy 1 := ⟨⟨Or.inl w_3_227, w_3_146, w_1_5, by decide, by decide, by decide +kernel, by decide⟩, w_3_144, w_3_145⟩
theorem lk_X11_165 : LkV RX11 165 mX3_divide 1 := ⟨⟨Or.inl w_3_228, w_3_112, w_1_5, by decide, by decide, by decide +kernel, by decide⟩, w_3_110, w_3_111⟩
theorem lk_L_49 : LkV RL 49 mX11_nearest 3 := ⟨⟨Or.inl w_3_229, w_3_232, w_1_1, by decide, by decide, by decide +kernel, by decide⟩, w_3_230, w_3_231⟩
theorem lk_X11_169 : LkS RX11 169 mX11_isTold 1 := ⟨⟨Or.inl w_3_233, w_3_235, w_1_1, by decide, by decide, by decide +kernel, by decide⟩, w_3_234⟩
theorem lk_X11_172 : LkV RX11 172 mX3_set 2 := ⟨⟨Or.inl w_3_237, w_2_149, w_1_5, by decide, by decide, by decide +kernel, by decide⟩, w_2_147, w_2_148⟩
theorem lk_X11_176 : LkV RX11 176 mX3_multiply 1 := ⟨⟨Or.inl w_3_238, w_3_124, w_1_5, by decide, by decide, by decide +kernel, by decide⟩, w_3_122, w_3_123⟩
theorem lk_X11_179 : LkV RX11 179 mX10_nearestBelow 2 := ⟨⟨Or.inl w_3_239, w_4_2, w_1_3, by decide, by decide, by decide +kernel, by decide⟩, w_4_0, w_4_1⟩
theorem lk_X10_59 : LkV RX10 59 mX9_isLike 1 := ⟨⟨Or.inl w_4_3, w_3_222, w_1_4, by decide, by decide, by decide +kernel, by decide⟩, w_3_220, w_3_221⟩
theorem lk_X10_63 : LkV RX10 63 mX3_compareWith 1 := ⟨⟨Or.inl w_4_4, w_3_188, w_1_5, by decide, by decide, by decide +kernel, by decide⟩, w_3_186, w_3_187⟩
theorem lk_L_54 : LkV RL 54 mX11_prove 0 := ⟨⟨Or.inl w_4_5, w_4_8, w_1_1, by decide, by decide, by decide +kernel, by decide⟩, w_4_6, w_4_7⟩
theorem lk_X11_183 : LkV RX11 183 mX4_read 1 := ⟨⟨Or.inl w_4_9, w_4_12, w_1_8, by decide, by decide, by decide +kernel, by decide⟩, w_4_10, w_4_11⟩
theorem lk_X4_75 : LkV RX4 75 mX4_readSum 2 := ⟨⟨Or.inl w_4_13, w_4_16, w_1_8, by decide, by decide, by decide +kernel, by decide⟩, w_4_15, (inP1 (q := (mX4_readSum.1, _)) (List.mem_of_getElem? (i := 9) rfl))⟩
theorem lk_X4_94 : LkV RX4 94 mX4_readTerm 2 := ⟨⟨Or.inl w_4_17, w_4_20, w_1_8, by decide, by decide, by decide +kernel, by decide⟩, w_4_19, (inP1 (q := (mX4_readTerm.1, _)) (List.mem_of_getElem? (i := 10) rfl))⟩
theorem lk_X4_101 : LkV RX4 101 mX4_readPart 2 := ⟨⟨Or.inl w_4_21, w_4_24, w_1_8, by decide, by decide, by decide +kernel, by decide⟩, w_4_23, (inP1 (q := (mX4_readPart.1, _)) (List.mem_of_getElem? (i := 11) rfl))⟩
theorem lk_X4_97 : LkV RX4 97 mX7_look 1 := ⟨⟨Or.inl w_4_25, w_3_29, w_1_2, by decide, by decide, by decide +kernel, by decide⟩, w_3_27, w_3_28⟩
theorem lk_X4_86 : LkV RX4 86 mX4_append 3 := ⟨⟨Or.inl w_4_26, w_4_29, w_1_8, by decide, by decide, by decide +kernel, by decide⟩, w_4_28, (inP1 (q := (mX4_append.1, _)) (List.mem_of_getElem? (i := 12) rfl))⟩
theorem lk_X4_90 : LkV RX4 90 mX6_start 3 := ⟨⟨Or.inl w_4_30, w_4_33, w_1_9, by decide, by decide, by decide +kernel, by decide⟩, w_4_31, w_4_32⟩
theorem lk_X4_104 : LkV RX4 104 mX6_read 1 := ⟨⟨Or.inl w_4_34, w_4_37, w_1_9, by decide, by decide, by decide +kernel, by decide⟩, w_4_35, w_4_36⟩
theorem lk_X6_58 : LkV RX6 58 mX7_isFigure 1 := ⟨⟨Or.inl w_4_38, w_3_44, w_1_2, by decide, by decide, by decide +kernel, by decide⟩, w_3_42, w_3_43⟩
theorem lk_X6_64 : LkV RX6 64 mX6_readName 2 := ⟨⟨Or.inl w_4_39, w_4_42, w_1_9, by decide, by decide, by decide +kernel, by decide⟩, w_4_41, (inP1 (q := (mX6_readName.1, _)) (List.mem_of_getElem? (i := 13) rfl))⟩
theorem lk_X6_93 : LkV RX6 93 mX7_takeName 0 := ⟨⟨Or.inl w_4_43, w_3_21, w_1_2, by decide, by decide, by decide +kernel, by decide⟩, w_3_19, w_3_20⟩
theorem lk_X6_68 : LkV RX6 68 mX7_takePower 0 := ⟨⟨Or.inl w_4_44, w_3_56, w_1_2, by decide, by decide, by decide +kernel, by decide⟩, w_3_54, w_3_55⟩
theorem lk_X6_72 : LkV RX6 72 mX6_readNumber 2 := ⟨⟨Or.inl w_4_45, w_4_48, w_1_9, by decide, by decide, by decide +kernel, by decide⟩, w_4_47, (inP1 (q := (mX6_readNumber.1, _)) (List.mem_of_getElem? (i := 14) rfl))⟩
theorem lk_X6_96 : LkV RX6 96 mX7_takeNumber 0 := ⟨⟨Or.inl w_4_49, w_3_40, w_1_2, by decide, by decide, by decide +kernel, by decide⟩, w_3_38, w_3_39⟩
theorem lk_X6_99 : LkV RX6 99 mX7_takes 1 := ⟨⟨Or.inl w_4_50, w_3_33, w_1_2, by decide, by decide, by decide +kernel, by decide⟩, w_3_31, w_3_32⟩
theorem lk_X6_102 : LkV RX6 102 mX7_takeFigure 0 := ⟨⟨Or.inl w_4_51, w_3_48, w_1_2, by decide, by decide, by decide +kernel, by decide⟩, w_3_46, w_3_47⟩
theorem lk_X6_75 : LkS RX6 75 mX6_endsByFigure 1 := ⟨⟨Or.inl w_4_52, w_4_54, w_1_9, by decide, by decide, by decide +kernel, by decide⟩, w_4_53⟩
theorem lk_X6_79 : LkV RX6 79 mX7_isPower 0 := ⟨⟨Or.inl w_4_55, w_3_60, w_1_2, by decide, by decide, by decide +kernel, by decide⟩, w_3_58, w_3_59⟩
theorem lk_X6_83 : LkV RX6 83 mX7_isLetter 1 := ⟨⟨Or.inl w_4_56, w_3_25, w_1_2, by decide, by decide, by decide +kernel, by decide⟩, w_3_23, w_3_24⟩
theorem lk_X6_86 : LkV RX6 86 mX7_look 1 := ⟨⟨Or.inl w_4_57, w_3_29, w_1_2, by decide, by decide, by decide +kernel, by decide⟩, w_3_27, w_3_28⟩
theorem lk_X4_79 : LkV RX4 79 mX7_takes 1 := ⟨⟨Or.inl w_4_58, w_3_33, w_1_2, by decide, by decide, by decide +kernel, by decide⟩, w_3_31, w_3_32⟩
theorem lk_X4_83 : LkV RX4 83 mX7_isAtEnd 0 := ⟨⟨Or.inl w_4_59, w_3_65, w_1_2, by decide, by decide, by decide +kernel, by decide⟩, w_3_63, w_3_64⟩
theorem lk_X11_184 : LkV RX11 184 mX4_proveAll 2 := ⟨⟨Or.inl w_4_60, w_4_63, w_1_8, by decide, by decide, by decide +kernel, by decide⟩, w_4_61, w_4_62⟩
theorem lk_X4_111 : LkV RX4 111 mX4_findUnits 3 := ⟨⟨Or.inl w_4_64, w_4_67, w_1_8, by decide, by decide, by decide +kernel, by decide⟩, w_4_66, (inP1 (q := (mX4_findUnits.1, _)) (List.mem_of_getElem? (i := 15) rfl))⟩
theorem lk_X4_129 : LkV RX4 129 mX10_numberOf 3 := ⟨⟨Or.inl w_4_68, w_3_77, w_1_3, by decide, by decide, by decide +kernel, by decide⟩, w_3_75, w_3_76⟩
theorem lk_X4_135 : LkV RX4 135 mX10_at 1 := ⟨⟨Or.inl w_4_69, w_3_89, w_1_3, by decide, by decide, by decide +kernel, by decide⟩, w_3_87, w_3_88⟩
theorem lk_X4_115 : LkV RX4 115 mX6_judge 2 := ⟨⟨Or.inl w_4_70, w_4_73, w_1_9, by decide, by decide, by decide +kernel, by decide⟩, w_4_71, w_4_72⟩
theorem lk_X6_105 : LkV RX6 105 mX6_judgeMixed 2 := ⟨⟨Or.inl w_4_74, w_4_77, w_1_9, by decide, by decide, by decide +kernel, by decide⟩, w_4_76, (inP2 (q := (mX6_judgeMixed.1, _)) (List.mem_of_getElem? (i := 0) rfl))⟩
theorem lk_X6_148 : LkV RX6 148 mX6_mixedRefusal 1 := ⟨⟨Or.inl w_4_78, w_4_81, w_1_9, by decide, by decide, by decide +kernel, by decide⟩, w_4_80, (inP2 (q := (mX6_mixedRefusal.1, _)) (List.mem_of_getElem? (i := 1) rfl))⟩
theorem lk_X6_123 : LkV RX6 123 mX9_hasOffset 0 := ⟨⟨Or.inl w_4_82, w_3_93, w_1_4, by decide, by decide, by decide +kernel, by decide⟩, w_3_91, w_3_92⟩
theorem lk_X6_158 : LkV RX6 158 mX9_isLike 1 := ⟨⟨Or.inl w_4_83, w_3_222, w_1_4, by decide, by decide, by decide +kernel, by decide⟩, w_3_220, w_3_221⟩
theorem lk_X6_162 : LkV RX6 162 mX3_compareWith 1 := ⟨⟨Or.inl w_4_84, w_3_188, w_1_5, by decide, by decide, by decide +kernel, by decide⟩, w_3_186, w_3_187⟩
theorem lk_X6_119 : LkV RX6 119 mX3_set 2 := ⟨⟨Or.inl w_4_86, w_2_149, w_1_5, by decide, by decide, by decide +kernel, by decide⟩, w_2_147, w_2_148⟩
theorem lk_X6_138 : LkV RX6 138 mX3_multiply 1 := ⟨⟨Or.inl w_4_87, w_3_124, w_1_5, by decide, by decide, by decide +kernel, by decide⟩, w_3_122, w_3_123⟩
theorem lk_X6_145 : LkV RX6 145 mX3_add 1 := ⟨⟨Or.inl w_4_88, w_4_91, w_1_5, by decide, by decide, by decide +kernel, by decide⟩, w_4_89, w_4_90⟩
theorem lk_X3_31 : LkV RX3 31 mX3_addUp 2 := ⟨⟨Or.inl w_4_92, w_4_95, w_1_5, by decide, by decide, by decide +kernel, by decide⟩, w_4_94, (inP2 (q := (mX3_addUp.1, _)) (List.mem_of_getElem? (i := 2) rfl))⟩
theorem lk_X3_34 : LkS RX3 34 mX3_total 2 := ⟨⟨Or.inl w_4_96, w_4_98, w_1_5, by decide, by decide, by decide +kernel, by decide⟩, w_4_97⟩
theorem lk_X6_109 : LkV RX6 109 mX6_judgeSingle 1 := ⟨⟨Or.inl w_4_99, w_4_102, w_1_9, by decide, by decide, by decide +kernel, by decide⟩, w_4_101, (inP2 (q := (mX6_judgeSingle.1, _)) (List.mem_of_getElem? (i := 3) rfl))⟩
theorem lk_X6_113 : LkV RX6 113 mX6_judgeProduct 0 := ⟨⟨Or.inl w_4_104, w_4_107, w_1_9, by decide, by decide, by decide +kernel, by decide⟩, w_4_106, (inP2 (q := (mX6_judgeProduct.1, _)) (List.mem_of_getElem? (i := 4) rfl))⟩
theorem lk_X6_166 : LkV RX6 166 mX6_isShiftedItself 0 := ⟨⟨Or.inl w_4_108, w_4_111, w_1_9, by decide, by decide, by decide +kernel, by decide⟩, w_4_109, w_4_110⟩
theorem lk_X6_172 : LkV RX6 172 mX3_copy 1 := ⟨⟨Or.inl w_4_112, w_3_146, w_1_5, by decide, by decide, by decide +kernel, by decide⟩, w_3_144, w_3_145⟩
theorem lk_X6_176 : LkV RX6 176 mX3_divide 1 := ⟨⟨Or.inl w_4_113, w_3_112, w_1_5, by decide, by decide, by decide +kernel, by decide⟩, w_3_110, w_3_111⟩
theorem lk_X6_116 : LkV RX6 116 mX6_judgeSum 0 := ⟨⟨Or.inl w_4_114, w_4_117, w_1_9, by decide, by decide, by decide +kernel, by decide⟩, w_4_116, (inP2 (q := (mX6_judgeSum.1, _)) (List.mem_of_getElem? (i := 5) rfl))⟩
theorem lk_X6_183 : LkV RX6 183 mX3_subtract 1 := ⟨⟨Or.inl w_4_119, w_4_122, w_1_5, by decide, by decide, by decide +kernel, by decide⟩, w_4_120, w_4_121⟩
theorem lk_L_58 : LkV RL 58 mX11_proof 1 := ⟨⟨Or.inl w_4_123, w_4_126, w_1_1, by decide, by decide, by decide +kernel, by decide⟩, w_4_124, w_4_125⟩
theorem lk_X11_195 : LkV RX11 195 mX4_isHeld 0 := ⟨⟨Or.inl w_4_127, w_4_130, w_1_8, by decide, by decide, by decide +kernel, by decide⟩, w_4_128, w_4_129⟩
theorem lk_X11_204 : LkV RX11 204 mX4_sidesAgree 0 := ⟨⟨Or.inl w_4_131, w_4_134, w_1_8, by decide, by decide, by decide +kernel, by decide⟩, w_4_132, w_4_133⟩
theorem lk_X4_45 : LkV RX4 45 mX4_heldStep 1 := ⟨⟨Or.inl w_4_135, w_4_138, w_1_8, by decide, by decide, by decide +kernel, by decide⟩, w_4_136, w_4_137⟩
theorem lk_X4_49 : LkV RX4 49 mX4_isHeld 0 := ⟨⟨Or.inl w_4_139, w_4_130, w_1_8, by decide, by decide, by decide +kernel, by decide⟩, w_4_128, w_4_129⟩
theorem lk_X11_207 : LkV RX11 207 mX4_heldParts 0 := ⟨⟨Or.inl w_4_140, w_4_143, w_1_8, by decide, by decide, by decide +kernel, by decide⟩, w_4_141, w_4_142⟩
theorem lk_L_62 : LkV RL 62 mX11_step 2 := ⟨⟨Or.inl w_4_144, w_4_147, w_1_1, by decide, by decide, by decide +kernel, by decide⟩, w_4_145, w_4_146⟩
theorem lk_X11_211 : LkV RX11 211 mX4_heldStep 1 := ⟨⟨Or.inl w_4_148, w_4_138, w_1_8, by decide, by decide, by decide +kernel, by decide⟩, w_4_136, w_4_137⟩
theorem lk_X11_227 : LkS RX11 227 mJ13_compare_74951 2 := ⟨⟨Or.inl w_4_149, w_4_151, w_1_20, by decide, by decide, by decide +kernel, by decide⟩, w_4_150⟩
theorem lk_L_66 : LkV RL 66 mX11_value 2 := ⟨⟨Or.inl w_4_152, w_4_155, w_1_1, by decide, by decide, by decide +kernel, by decide⟩, w_4_153, w_4_154⟩
theorem lk_X11_232 : LkV RX11 232 mX11_provedStep 1 := ⟨⟨Or.inl w_4_156, w_4_159, w_1_1, by decide, by decide, by decide +kernel, by decide⟩, w_4_158, (inP2 (q := (mX11_provedStep.1, _)) (List.mem_of_getElem? (i := 6) rfl))⟩
theorem lk_L_71 : LkV RL 71 mX11_same 2 := ⟨⟨Or.inl w_4_160, w_4_163, w_1_1, by decide, by decide, by decide +kernel, by decide⟩, w_4_161, w_4_162⟩
theorem lk_X11_235 : LkS RX11 235 mX11_equalRows 2 := ⟨⟨Or.inl w_4_164, w_3_225, w_1_1, by decide, by decide, by decide +kernel, by decide⟩, w_3_224⟩
theorem lk_X11_239 : LkV RX11 239 mX3_compareWith 1 := ⟨⟨Or.inl w_4_165, w_3_188, w_1_5, by decide, by decide, by decide +kernel, by decide⟩, w_3_186, w_3_187⟩
theorem lk_L_75 : LkV RL 75 mX11_in 3 := ⟨⟨Or.inl w_4_166, w_4_169, w_1_1, by decide, by decide, by decide +kernel, by decide⟩, w_4_167, w_4_168⟩
theorem lk_X11_243 : LkV RX11 243 mX11_answerIn 2 := ⟨⟨Or.inl w_4_170, w_4_173, w_1_1, by decide, by decide, by decide +kernel, by decide⟩, w_4_172, (inP2 (q := (mX11_answerIn.1, _)) (List.mem_of_getElem? (i := 7) rfl))⟩
theorem lk_X11_259 : LkV RX11 259 mX11_resultSide 1 := ⟨⟨Or.inl w_4_174, w_4_177, w_1_1, by decide, by decide, by decide +kernel, by decide⟩, w_4_176, (inP2 (q := (mX11_resultSide.1, _)) (List.mem_of_getElem? (i := 8) rfl))⟩
theorem lk_X11_409 : LkV RX11 409 mX4_side 1 := ⟨⟨Or.inl w_4_178, w_4_181, w_1_8, by decide, by decide, by decide +kernel, by decide⟩, w_4_179, w_4_180⟩
theorem lk_X11_412 : LkV RX11 412 mX3_subtract 1 := ⟨⟨Or.inl w_4_182, w_4_122, w_1_5, by decide, by decide, by decide +kernel, by decide⟩, w_4_120, w_4_121⟩
theorem lk_L_79 : LkV RL 79 mX11_bits 3 := ⟨⟨Or.inl w_4_183, w_4_186, w_1_1, by decide, by decide, by decide +kernel, by decide⟩, w_4_184, w_4_185⟩
theorem lk_X11_247 : LkV RX11 247 mX3_asDouble 0 := ⟨⟨Or.inl w_4_187, w_4_190, w_1_5, by decide, by decide, by decide +kernel, by decide⟩, w_4_188, w_4_189⟩
theorem lk_X11_251 : LkV RX11 251 mX2_ofDouble 1 := ⟨⟨Or.inl w_4_191, w_4_194, w_1_10, by decide, by decide, by decide +kernel, by decide⟩, w_4_192, w_4_193⟩
theorem lk_X2_19 : LkV RX2 19 mX2_magnitude 3 := ⟨⟨Or.inl w_4_195, w_4_198, w_1_10, by decide, by decide, by decide +kernel, by decide⟩, w_4_197, (inP2 (q := (mX2_magnitude.1, _)) (List.mem_of_getElem? (i := 9) rfl))⟩
theorem lk_X2_41 : LkS RX2 41 mX2_topExponent 1 := ⟨⟨Or.inl w_4_199, w_4_201, w_1_10, by decide, by decide, by decide +kernel, by decide⟩, w_4_200⟩
theorem lk_X2_49 : LkV RX2 49 mX2_exponentOf 1 := ⟨⟨Or.inl w_4_203, w_4_206, w_1_10, by decide, by decide, by decide +kernel, by decide⟩, w_4_205, (inP2 (q := (mX2_exponentOf.1, _)) (List.mem_of_getElem? (i := 10) rfl))⟩
theorem lk_X2_45 : LkV RX2 45 mX2_scaled 2 := ⟨⟨Or.inl w_4_207, w_4_210, w_1_10, by decide, by decide, by decide +kernel, by decide⟩, w_4_209, (inP2 (q := (mX2_scaled.1, _)) (List.mem_of_getElem? (i := 11) rfl))⟩
theorem lk_X2_53 : LkS RX2 53 mJ9_abs_0f7a4 1 := ⟨⟨Or.inl w_4_211, w_3_103, w_1_18, by decide, by decide, by decide +kernel, by decide⟩, w_3_102⟩
theorem lk_X2_23 : LkS RX2 23 mX2_isNegative 1 := ⟨⟨Or.inl w_4_212, w_4_214, w_1_10, by decide, by decide, by decide +kernel, by decide⟩, w_4_213⟩
theorem lk_X11_255 : LkV RX11 255 mX2_ofFloat 1 := ⟨⟨Or.inl w_4_216, w_4_219, w_1_10, by decide, by decide, by decide +kernel, by decide⟩, w_4_217, w_4_218⟩
theorem lk_L_83 : LkV RL 83 mX11_parted 5 := ⟨⟨Or.inl w_4_221, w_4_224, w_1_1, by decide, by decide, by decide +kernel, by decide⟩, w_4_222, w_4_223⟩
theorem lk_X11_262 : LkV RX11 262 mX11_splits 2 := ⟨⟨Or.inl w_4_225, w_4_228, w_1_1, by decide, by decide, by decide +kernel, by decide⟩, w_4_227, (inP2 (q := (mX11_splits.1, _)) (List.mem_of_getElem? (i := 12) rfl))⟩
theorem lk_X11_266 : LkV RX11 266 mX11_partOf 3 := ⟨⟨Or.inl w_4_229, w_4_232, w_1_1, by decide, by decide, by decide +kernel, by decide⟩, w_4_231, (inP2 (q := (mX11_partOf.1, _)) (List.mem_of_getElem? (i := 13) rfl))⟩
theorem lk_X11_415 : LkV RX11 415 mX3_cutToWhole 0 := ⟨⟨Or.inl w_4_233, w_4_236, w_1_5, by decide, by decide, by decide +kernel, by decide⟩, w_4_234, w_4_235⟩
theorem lk_L_88 : LkV RL 88 mX11_claim 4 := ⟨⟨Or.inl w_4_237, w_5_0, w_1_1, by decide, by decide, by decide +kernel, by decide⟩, w_4_238, w_4_239⟩
theorem lk_X11_270 : LkV RX11 270 mX0_append 4 := ⟨⟨Or.inl w_5_1, w_5_4, w_1_6, by decide, by decide, by decide +kernel, by decide⟩, w_5_2, w_5_3⟩
theorem lk_L_93 : LkV RL 93 mX11_unclaim 1 := ⟨⟨Or.inl w_5_5, w_5_8, w_1_1, by decide, by decide, by decide +kernel, by decide⟩, w_5_6, w_5_7⟩
theorem lk_X11_274 : LkV RX11 274 mX0_remove 1 := ⟨⟨Or.inl w_5_9, w_5_12, w_1_6, by decide, by decide, by decide +kernel, by decide⟩, w_5_10, w_5_11⟩
theorem lk_L_97 : LkV RL 97 mX11_claimOf 2 := ⟨⟨Or.inl w_5_13, w_5_16, w_1_1, by decide, by decide, by decide +kernel, by decide⟩, w_5_14, w_5_15⟩
theorem lk_X11_292 : LkV RX11 292 mX11_truthOf 1 := ⟨⟨Or.inl w_5_17, w_5_20, w_1_1, by decide, by decide, by decide +kernel, by decide⟩, w_5_19, (inP2 (q := (mX11_truthOf.1, _)) (List.mem_of_getElem? (i := 14) rfl))⟩
theorem lk_L_101 : LkV RL 101 mX11_rings 1 := ⟨⟨Or.inl w_5_21, w_5_24, w_1_1, by decide, by decide, by decide +kernel, by decide⟩, w_5_22, w_5_23⟩
theorem lk_X11_296 : LkV RX11 296 mX0_isOver 0 := ⟨⟨Or.inl w_5_25, w_5_28, w_1_6, by decide, by decide, by decide +kernel, by decide⟩, w_5_26, w_5_27⟩
theorem lk_X11_299 : LkV RX11 299 mX0_against 0 := ⟨⟨Or.inl w_5_29, w_5_32, w_1_6, by decide, by decide, by decide +kernel, by decide⟩, w_5_30, w_5_31⟩
theorem lk_X11_302 : LkV RX11 302 mX0_joining 0 := ⟨⟨Or.inl w_5_33, w_5_36, w_1_6, by decide, by decide, by decide +kernel, by decide⟩, w_5_34, w_5_35⟩
theorem lk_X11_305 : LkV RX11 305 mX11_trueClaims 0 := ⟨⟨Or.inl w_5_37, w_5_40, w_1_1, by decide, by decide, by decide +kernel, by decide⟩, w_5_39, (inP2 (q := (mX11_trueClaims.1, _)) (List.mem_of_getElem? (i := 15) rfl))⟩
theorem lk_L_105 : LkV RL 105 mX11_by 3 := ⟨⟨Or.inl w_5_41, w_5_44, w_1_1, by decide, by decide, by decide +kernel, by decide⟩, w_5_42, w_5_43⟩
theorem lk_X11_308 : LkV RX11 308 mX0_goFrom 2 := ⟨⟨Or.inl w_5_45, w_3_178, w_1_6, by decide, by decide, by decide +kernel, by decide⟩, w_3_176, w_3_177⟩
theorem lk_L_109 : LkV RL 109 mX11_track 3 := ⟨⟨Or.inl w_5_46, w_5_49, w_1_1, by decide, by decide, by decide +kernel, by decide⟩, w_5_47, w_5_48⟩
theorem lk_X11_315 : LkV RX11 315 mX11_trackAt 1 := ⟨⟨Or.inl w_5_50, w_5_53, w_1_1, by decide, by decide, by decide +kernel, by decide⟩, w_5_52, (inP3 (q := (mX11_trackAt.1, _)) (List.mem_of_getElem? (i := 0) rfl))⟩
theorem lk_X11_319 : LkV RX11 319 mX8_become 2 := ⟨⟨Or.inl w_5_54, w_5_57, w_1_15, by decide, by decide, by decide +kernel, by decide⟩, w_5_55, w_5_56⟩
theorem lk_X8_26 : LkV RX8 26 mX8_store 2 := ⟨⟨Or.inl w_5_58, w_5_61, w_1_15, by decide, by decide, by decide +kernel, by decide⟩, w_5_59, w_5_60⟩
theorem lk_L_113 : LkV RL 113 mX11_put 3 := ⟨⟨Or.inl w_5_62, w_5_65, w_1_1, by decide, by decide, by decide +kernel, by decide⟩, w_5_63, w_5_64⟩
theorem lk_X11_323 : LkV RX11 323 mX11_itemRefusal 2 := ⟨⟨Or.inl w_5_66, w_5_69, w_1_1, by decide, by decide, by decide +kernel, by decide⟩, w_5_68, (inP3 (q := (mX11_itemRefusal.1, _)) (List.mem_of_getElem? (i := 1) rfl))⟩
theorem lk_X11_352 : LkV RX11 352 mX8_isNothing 0 := ⟨⟨Or.inl w_5_70, w_5_73, w_1_15, by decide, by decide, by decide +kernel, by decide⟩, w_5_71, w_5_72⟩
theorem lk_X11_332 : LkV RX11 332 mX8_store 2 := ⟨⟨Or.inl w_5_76, w_5_61, w_1_15, by decide, by decide, by decide +kernel, by decide⟩, w_5_59, w_5_60⟩
theorem lk_L_119 : LkV RL 119 mX11_putBits 3 := ⟨⟨Or.inl w_5_77, w_5_80, w_1_1, by decide, by decide, by decide +kernel, by decide⟩, w_5_78, w_5_79⟩
theorem lk_X11_336 : LkV RX11 336 mX8_storeBits 3 := ⟨⟨Or.inl w_5_81, w_5_84, w_1_15, by decide, by decide, by decide +kernel, by decide⟩, w_5_82, w_5_83⟩
theorem lk_X8_32 : LkV RX8 32 mX2_isNoFloat 1 := ⟨⟨Or.inl w_5_86, w_5_89, w_1_10, by decide, by decide, by decide +kernel, by decide⟩, w_5_87, w_5_88⟩
theorem lk_X2_31 : LkS RX2 31 mX2_isNoNumber 3 := ⟨⟨Or.inl w_5_90, w_5_92, w_1_10, by decide, by decide, by decide +kernel, by decide⟩, w_5_91⟩
theorem lk_X8_38 : LkV RX8 38 mX2_isNoDouble 1 := ⟨⟨Or.inl w_5_93, w_5_96, w_1_10, by decide, by decide, by decide +kernel, by decide⟩, w_5_94, w_5_95⟩
theorem lk_X8_41 : LkV RX8 41 mX2_toFloat 1 := ⟨⟨Or.inl w_5_97, w_5_100, w_1_10, by decide, by decide, by decide +kernel, by decide⟩, w_5_98, w_5_99⟩
theorem lk_X2_35 : LkV RX2 35 mX2_fromBits 3 := ⟨⟨Or.inl w_5_101, w_5_104, w_1_10, by decide, by decide, by decide +kernel, by decide⟩, w_5_103, (inP3 (q := (mX2_fromBits.1, _)) (List.mem_of_getElem? (i := 2) rfl))⟩
theorem lk_X8_45 : LkV RX8 45 mX2_toDouble 1 := ⟨⟨Or.inl w_5_105, w_5_108, w_1_10, by decide, by decide, by decide +kernel, by decide⟩, w_5_106, w_5_107⟩
theorem lk_L_124 : LkV RL 124 mX11_item 2 := ⟨⟨Or.inl w_5_109, w_5_112, w_1_1, by decide, by decide, by decide +kernel, by decide⟩, w_5_110, w_5_111⟩
theorem lk_X11_348 : LkV RX11 348 mX8_bitsOf 3 := ⟨⟨Or.inl w_5_113, w_5_116, w_1_15, by decide, by decide, by decide +kernel, by decide⟩, w_5_114, w_5_115⟩
theorem lk_X8_50 : LkV RX8 50 mX2_ofFloat 1 := ⟨⟨Or.inl w_5_118, w_4_219, w_1_10, by decide, by decide, by decide +kernel, by decide⟩, w_4_217, w_4_218⟩
theorem lk_X8_56 : LkV RX8 56 mX2_ofDouble 1 := ⟨⟨Or.inl w_5_120, w_4_194, w_1_10, by decide, by decide, by decide +kernel, by decide⟩, w_4_192, w_4_193⟩
theorem lk_L_128 : LkV RL 128 mX11_change 3 := ⟨⟨Or.inl w_5_121, w_5_124, w_1_1, by decide, by decide, by decide +kernel, by decide⟩, w_5_122, w_5_123⟩
theorem lk_X11_355 : LkV RX11 355 mX8_convert 2 := ⟨⟨Or.inl w_5_125, w_5_128, w_1_15, by decide, by decide, by decide +kernel, by decide⟩, w_5_126, w_5_127⟩
theorem lk_X8_66 : LkS RX8 66 mX8_inFloats 3 := ⟨⟨Or.inl w_5_129, w_5_131, w_1_15, by decide, by decide, by decide +kernel, by decide⟩, w_5_130⟩
theorem lk_X8_70 : LkS RX8 70 mX8_inDoubles 3 := ⟨⟨Or.inl w_5_132, w_5_134, w_1_15, by decide, by decide, by decide +kernel, by decide⟩, w_5_133⟩
theorem lk_L_132 : LkV RL 132 mX11_added 1 := ⟨⟨Or.inl w_5_135, w_5_138, w_1_1, by decide, by decide, by decide +kernel, by decide⟩, w_5_136, w_5_137⟩
theorem lk_X11_360 : LkV RX11 360 mX8_sumBits 1 := ⟨⟨Or.inl w_5_139, w_5_142, w_1_15, by decide, by decide, by decide +kernel, by decide⟩, w_5_140, w_5_141⟩
theorem lk_X8_92 : LkV RX8 92 mX2_isEndless 1 := ⟨⟨Or.inl w_5_143, w_5_146, w_1_10, by decide, by decide, by decide +kernel, by decide⟩, w_5_144, w_5_145⟩
theorem lk_X8_96 : LkV RX8 96 mX8_bitsOf 3 := ⟨⟨Or.inl w_5_147, w_5_116, w_1_15, by decide, by decide, by decide +kernel, by decide⟩, w_5_114, w_5_115⟩
theorem lk_L_137 : LkV RL 137 mX11_cast 3 := ⟨⟨Or.inl w_5_148, w_5_151, w_1_1, by decide, by decide, by decide +kernel, by decide⟩, w_5_149, w_5_150⟩
theorem lk_X11_364 : LkV RX11 364 mX8_number 1 := ⟨⟨Or.inl w_5_152, w_5_155, w_1_15, by decide, by decide, by decide +kernel, by decide⟩, w_5_153, w_5_154⟩
theorem lk_L_141 : LkV RL 141 mX11_twin 2 := ⟨⟨Or.inl w_5_156, w_5_159, w_1_1, by decide, by decide, by decide +kernel, by decide⟩, w_5_157, w_5_158⟩
theorem lk_X11_368 : LkV RX11 368 mX8_copy 1 := ⟨⟨Or.inl w_5_160, w_5_163, w_1_15, by decide, by decide, by decide +kernel, by decide⟩, w_5_161, w_5_162⟩
theorem lk_L_145 : LkV RL 145 mX11_hang 3 := ⟨⟨Or.inl w_5_165, w_5_168, w_1_1, by decide, by decide, by decide +kernel, by decide⟩, w_5_166, w_5_167⟩
theorem lk_X11_371 : LkV RX11 371 mX11_rackAt 1 := ⟨⟨Or.inl w_5_169, w_5_172, w_1_1, by decide, by decide, by decide +kernel, by decide⟩, w_5_171, (inP3 (q := (mX11_rackAt.1, _)) (List.mem_of_getElem? (i := 3) rfl))⟩
theorem lk_X11_375 : LkS RX11 375 mX11_isPlace 1 := ⟨⟨Or.inl w_5_173, w_5_175, w_1_1, by decide, by decide, by decide +kernel, by decide⟩, w_5_174⟩
theorem lk_X11_378 : LkV RX11 378 mX5_store 3 := ⟨⟨Or.inl w_5_176, w_5_179, w_1_16, by decide, by decide, by decide +kernel, by decide⟩, w_5_177, w_5_178⟩
theorem lk_L_149 : LkV RL 149 mX11_hold 3 := ⟨⟨Or.inl w_5_180, w_5_183, w_1_1, by decide, by decide, by decide +kernel, by decide⟩, w_5_181, w_5_182⟩
theorem lk_L_153 : LkV RL 153 mX11_rack 3 := ⟨⟨Or.inl w_5_184, w_5_187, w_1_1, by decide, by decide, by decide +kernel, by decide⟩, w_5_185, w_5_186⟩
theorem lk_L_157 : LkV RL 157 mX11_shift 2 := ⟨⟨Or.inl w_5_188, w_5_191, w_1_1, by decide, by decide, by decide +kernel, by decide⟩, w_5_189, w_5_190⟩
theorem lk_L_161 : LkV RL 161 mX11_image 0 := ⟨⟨Or.inl w_5_192, w_5_195, w_1_1, by decide, by decide, by decide +kernel, by decide⟩, w_5_193, w_5_194⟩
theorem lk_X11_388 : LkV RX11 388 mX10_copy 1 := ⟨⟨Or.inl w_5_196, w_5_199, w_1_3, by decide, by decide, by decide +kernel, by decide⟩, w_5_197, w_5_198⟩
theorem lk_X11_391 : LkV RX11 391 mX0_copy 1 := ⟨⟨Or.inl w_5_200, w_5_203, w_1_6, by decide, by decide, by decide +kernel, by decide⟩, w_5_201, w_5_202⟩
theorem lk_L_165 : LkV RL 165 mX11_undo 0 := ⟨⟨Or.inl w_5_205, w_5_208, w_1_1, by decide, by decide, by decide +kernel, by decide⟩, w_5_206, w_5_207⟩
theorem lk_L_169 : LkV RL 169 mX11_count 1 := ⟨⟨Or.inl w_5_209, w_5_212, w_1_1, by decide, by decide, by decide +kernel, by decide⟩, w_5_210, w_5_211⟩
theorem lk_X11_397 : LkV RX11 397 mX11_filledTracks 0 := ⟨⟨Or.inl w_5_213, w_5_216, w_1_1, by decide, by decide, by decide +kernel, by decide⟩, w_5_215, (inP3 (q := (mX11_filledTracks.1, _)) (List.mem_of_getElem? (i := 4) rfl))⟩
theorem lk_X11_400 : LkV RX11 400 mX11_filledPlaces 0 := ⟨⟨Or.inl w_5_217, w_5_220, w_1_1, by decide, by decide, by decide +kernel, by decide⟩, w_5_219, (inP3 (q := (mX11_filledPlaces.1, _)) (List.mem_of_getElem? (i := 5) rfl))⟩
theorem lk_X11_418 : LkV RX11 418 mX5_filled 0 := ⟨⟨Or.inl w_5_221, w_5_224, w_1_16, by decide, by decide, by decide +kernel, by decide⟩, w_5_222, w_5_223⟩
theorem lk_L_12 : LkI RL 12 mX12_init 0 := ⟨⟨Or.inl w_5_227, w_5_229, w_1_17, by decide, by decide, by decide +kernel, by decide⟩, rfl, w_5_228, rfl⟩
theorem lk_L_17 : LkV RL 17 mX12_feed 1 := ⟨⟨Or.inl w_6_182, w_6_185, w_1_17, by decide, by decide, by decide +kernel, by decide⟩, w_6_183, w_6_184⟩
theorem lk_X12_161 : LkS RX12 161 mX12_isIn 3 := ⟨⟨Or.inl w_6_187, w_6_189, w_1_17, by decide, by decide, by decide +kernel, by decide⟩, w_6_188⟩
theorem lk_L_22 : LkV RL 22 mX12_define 0 := ⟨⟨Or.inl w_6_190, w_6_193, w_1_17, by decide, by decide, by decide +kernel, by decide⟩, w_6_191, w_6_192⟩
theorem lk_X12_266 : LkV RX12 266 mX12_defined 0 := ⟨⟨Or.inl w_6_194, w_6_197, w_1_17, by decide, by decide, by decide +kernel, by decide⟩, w_6_196, (inP3 (q := (mX12_defined.1, _)) (List.mem_of_getElem? (i := 6) rfl))⟩
theorem lk_X12_212 : LkV RX12 212 mX12_letters 0 := ⟨⟨Or.inl w_6_198, w_6_201, w_1_17, by decide, by decide, by decide +kernel, by decide⟩, w_6_200, (inP3 (q := (mX12_letters.1, _)) (List.mem_of_getElem? (i := 7) rfl))⟩
theorem lk_X12_195 : LkV RX12 195 mX12_isLetter 0 := ⟨⟨Or.inl w_6_202, w_6_205, w_1_17, by decide, by decide, by decide +kernel, by decide⟩, w_6_204, (inP3 (q := (mX12_isLetter.1, _)) (List.mem_of_getElem? (i := 8) rfl))⟩
theorem lk_X12_177 : LkV RX12 177 mX12_here 0 := ⟨⟨Or.inl w_6_206, w_6_209, w_1_17, by decide, by decide, by decide +kernel, by decide⟩, w_6_208, (inP3 (q := (mX12_here.1, _)) (List.mem_of_getElem? (i := 9) rfl))⟩
theorem lk_X12_192 : LkV RX12 192 mX12_fails 0 := ⟨⟨Or.inl w_6_212, w_6_215, w_1_17, by decide, by decide, by decide +kernel, by decide⟩, w_6_214, (inP3 (q := (mX12_fails.1, _)) (List.mem_of_getElem? (i := 10) rfl))⟩
theorem lk_X12_218 : LkV RX12 218 mX12_must 1 := ⟨⟨Or.inl w_6_216, w_6_219, w_1_17, by decide, by decide, by decide +kernel, by decide⟩, w_6_218, (inP3 (q := (mX12_must.1, _)) (List.mem_of_getElem? (i := 11) rfl))⟩
theorem lk_X12_206 : LkV RX12 206 mX12_figures 1 := ⟨⟨Or.inl w_6_220, w_6_223, w_1_17, by decide, by decide, by decide +kernel, by decide⟩, w_6_222, (inP3 (q := (mX12_figures.1, _)) (List.mem_of_getElem? (i := 12) rfl))⟩
theorem lk_X12_199 : LkV RX12 199 mX12_isFigure 0 := ⟨⟨Or.inl w_6_224, w_6_227, w_1_17, by decide, by decide, by decide +kernel, by decide⟩, w_6_226, (inP3 (q := (mX12_isFigure.1, _)) (List.mem_of_getElem? (i := 13) rfl))⟩
theorem lk_X12_225 : LkV RX12 225 mX12_below 0 := ⟨⟨Or.inl w_6_230, w_6_233, w_1_17, by decide, by decide, by decide +kernel, by decide⟩, w_6_232, (inP3 (q := (mX12_below.1, _)) (List.mem_of_getElem? (i := 14) rfl))⟩
theorem lk_X12_231 : LkV RX12 231 mX12_product 0 := ⟨⟨Or.inl w_6_234, w_6_237, w_1_17, by decide, by decide, by decide +kernel, by decide⟩, w_6_236, (inP3 (q := (mX12_product.1, _)) (List.mem_of_getElem? (i := 15) rfl))⟩
theorem lk_X12_215 : LkV RX12 215 mX12_figure 0 := ⟨⟨Or.inl w_6_238, w_7_1, w_1_17, by decide, by decide, by decide +kernel, by decide⟩, w_7_0, (inP4 (q := (mX12_figure.1, _)) (List.mem_of_getElem? (i := 0) rfl))⟩
theorem lk_X12_269 : LkV RX12 269 mX12_wrongWith 1 := ⟨⟨Or.inl w_7_4, w_7_7, w_1_17, by decide, by decide, by decide +kernel, by decide⟩, w_7_6, (inP4 (q := (mX12_wrongWith.1, _)) (List.mem_of_getElem? (i := 1) rfl))⟩
theorem lk_X12_243 : LkV RX12 243 mX12_whose 2 := ⟨⟨Or.inl w_7_8, w_7_11, w_1_17, by decide, by decide, by decide +kernel, by decide⟩, w_7_10, (inP4 (q := (mX12_whose.1, _)) (List.mem_of_getElem? (i := 2) rfl))⟩
theorem lk_X12_165 : LkV RX12 165 mX12_lettersOf 1 := ⟨⟨Or.inl w_7_12, w_7_15, w_1_17, by decide, by decide, by decide +kernel, by decide⟩, w_7_14, (inP4 (q := (mX12_lettersOf.1, _)) (List.mem_of_getElem? (i := 3) rfl))⟩
theorem lk_X12_247 : LkV RX12 247 mX12_hasOffset 1 := ⟨⟨Or.inl w_7_16, w_7_19, w_1_17, by decide, by decide, by decide +kernel, by decide⟩, w_7_18, (inP4 (q := (mX12_hasOffset.1, _)) (List.mem_of_getElem? (i := 4) rfl))⟩
theorem lk_X12_272 : LkV RX12 272 mX12_comes 1 := ⟨⟨Or.inl w_7_20, w_7_23, w_1_17, by decide, by decide, by decide +kernel, by decide⟩, w_7_22, (inP4 (q := (mX12_comes.1, _)) (List.mem_of_getElem? (i := 5) rfl))⟩
theorem lk_X12_256 : LkV RX12 256 mX12_sums 2 := ⟨⟨Or.inl w_7_24, w_7_27, w_1_17, by decide, by decide, by decide +kernel, by decide⟩, w_7_26, (inP4 (q := (mX12_sums.1, _)) (List.mem_of_getElem? (i := 6) rfl))⟩
theorem lk_X12_260 : LkV RX12 260 mX12_isWide 1 := ⟨⟨Or.inl w_7_28, w_7_31, w_1_17, by decide, by decide, by decide +kernel, by decide⟩, w_7_30, (inP4 (q := (mX12_isWide.1, _)) (List.mem_of_getElem? (i := 7) rfl))⟩
theorem lk_X12_251 : LkS RX12 251 mJ9_abs_0f7a4 1 := ⟨⟨Or.inl w_7_32, w_3_103, w_1_18, by decide, by decide, by decide +kernel, by decide⟩, w_3_102⟩
theorem lk_X12_263 : LkV RX12 263 mX12_factors 0 := ⟨⟨Or.inl w_7_33, w_7_36, w_1_17, by decide, by decide, by decide +kernel, by decide⟩, w_7_35, (inP4 (q := (mX12_factors.1, _)) (List.mem_of_getElem? (i := 8) rfl))⟩
theorem lk_X12_157 : LkV RX12 157 mX12_becomes 2 := ⟨⟨Or.inl w_7_37, w_7_40, w_1_17, by decide, by decide, by decide +kernel, by decide⟩, w_7_39, (inP4 (q := (mX12_becomes.1, _)) (List.mem_of_getElem? (i := 9) rfl))⟩
theorem lk_X12_139 : LkS RX12 139 mX12_common 2 := ⟨⟨Or.inl w_7_41, w_7_43, w_1_17, by decide, by decide, by decide +kernel, by decide⟩, w_7_42⟩
theorem lk_X12_127 : LkS RX12 127 mJ9_abs_067f4 1 := ⟨⟨Or.inl w_7_44, w_7_46, w_1_18, by decide, by decide, by decide +kernel, by decide⟩, w_7_45⟩
theorem lk_X12_153 : LkV RX12 153 mX12_times 4 := ⟨⟨Or.inl w_7_47, w_7_50, w_1_17, by decide, by decide, by decide +kernel, by decide⟩, w_7_49, (inP4 (q := (mX12_times.1, _)) (List.mem_of_getElem? (i := 10) rfl))⟩
theorem lk_X12_150 : LkV RX12 150 mX12_timed 2 := ⟨⟨Or.inl w_7_51, w_7_54, w_1_17, by decide, by decide, by decide +kernel, by decide⟩, w_7_53, (inP4 (q := (mX12_timed.1, _)) (List.mem_of_getElem? (i := 11) rfl))⟩
theorem lk_X12_253 : LkV RX12 253 mX12_by 4 := ⟨⟨Or.inl w_7_56, w_7_59, w_1_17, by decide, by decide, by decide +kernel, by decide⟩, w_7_58, (inP4 (q := (mX12_by.1, _)) (List.mem_of_getElem? (i := 12) rfl))⟩
theorem lk_L_26 : LkV RL 26 mX12_drop 0 := ⟨⟨Or.inl w_7_60, w_7_63, w_1_17, by decide, by decide, by decide +kernel, by decide⟩, w_7_61, w_7_62⟩
theorem lk_X12_278 : LkV RX12 278 mX12_unclaim 1 := ⟨⟨Or.inl w_7_64, w_7_67, w_1_17, by decide, by decide, by decide +kernel, by decide⟩, w_7_65, w_7_66⟩
theorem lk_L_30 : LkV RL 30 mX12_find 0 := ⟨⟨Or.inl w_7_68, w_7_71, w_1_17, by decide, by decide, by decide +kernel, by decide⟩, w_7_69, w_7_70⟩
theorem lk_L_35 : LkV RL 35 mX12_name 2 := ⟨⟨Or.inl w_7_73, w_7_76, w_1_17, by decide, by decide, by decide +kernel, by decide⟩, w_7_74, w_7_75⟩
theorem lk_X12_283 : LkV RX12 283 mX12_isUnit 1 := ⟨⟨Or.inl w_7_77, w_7_80, w_1_17, by decide, by decide, by decide +kernel, by decide⟩, w_7_79, (inP4 (q := (mX12_isUnit.1, _)) (List.mem_of_getElem? (i := 13) rfl))⟩
theorem lk_L_39 : LkV RL 39 mX12_power 2 := ⟨⟨Or.inl w_7_82, w_7_85, w_1_17, by decide, by decide, by decide +kernel, by decide⟩, w_7_83, w_7_84⟩
theorem lk_L_44 : LkV RL 44 mX12_scale 3 := ⟨⟨Or.inl w_7_86, w_7_89, w_1_17, by decide, by decide, by decide +kernel, by decide⟩, w_7_87, w_7_88⟩
theorem lk_X12_288 : LkS RX12 288 mX12_isPart 1 := ⟨⟨Or.inl w_7_90, w_7_92, w_1_17, by decide, by decide, by decide +kernel, by decide⟩, w_7_91⟩
theorem lk_X12_291 : LkS RX12 291 mX12_partOf 3 := ⟨⟨Or.inl w_7_93, w_7_95, w_1_17, by decide, by decide, by decide +kernel, by decide⟩, w_7_94⟩
theorem lk_L_48 : LkV RL 48 mX12_ratio 3 := ⟨⟨Or.inl w_7_96, w_7_99, w_1_17, by decide, by decide, by decide +kernel, by decide⟩, w_7_97, w_7_98⟩
theorem lk_X12_295 : LkV RX12 295 mX12_areLike 2 := ⟨⟨Or.inl w_7_100, w_7_103, w_1_17, by decide, by decide, by decide +kernel, by decide⟩, w_7_102, (inP4 (q := (mX12_areLike.1, _)) (List.mem_of_getElem? (i := 14) rfl))⟩
theorem lk_X12_299 : LkV RX12 299 mX12_latest 1 := ⟨⟨Or.inl w_7_104, w_7_107, w_1_17, by decide, by decide, by decide +kernel, by decide⟩, w_7_106, (inP4 (q := (mX12_latest.1, _)) (List.mem_of_getElem? (i := 15) rfl))⟩
theorem lk_L_53 : LkV RL 53 mX12_nearest 3 := ⟨⟨Or.inl w_7_108, w_7_111, w_1_17, by decide, by decide, by decide +kernel, by decide⟩, w_7_109, w_7_110⟩
theorem lk_X12_303 : LkS RX12 303 mX12_isLess 4 := ⟨⟨Or.inl w_7_113, w_7_115, w_1_17, by decide, by decide, by decide +kernel, by decide⟩, w_7_114⟩
theorem lk_X12_309 : LkV RX12 309 mX12_isLesser 2 := ⟨⟨Or.inl w_7_116, w_7_119, w_1_17, by decide, by decide, by decide +kernel, by decide⟩, w_7_118, (inP5 (q := (mX12_isLesser.1, _)) (List.mem_of_getElem? (i := 0) rfl))⟩
theorem lk_L_57 : LkV RL 57 mX12_prove 0 := ⟨⟨Or.inl w_7_120, w_7_123, w_1_17, by decide, by decide, by decide +kernel, by decide⟩, w_7_121, w_7_122⟩
theorem lk_X12_402 : LkV RX12 402 mX12_formula 0 := ⟨⟨Or.inl w_7_124, w_7_127, w_1_17, by decide, by decide, by decide +kernel, by decide⟩, w_7_126, (inP5 (q := (mX12_formula.1, _)) (List.mem_of_getElem? (i := 1) rfl))⟩
theorem lk_X12_372 : LkV RX12 372 mX12_sum 0 := ⟨⟨Or.inl w_7_128, w_7_131, w_1_17, by decide, by decide, by decide +kernel, by decide⟩, w_7_130, (inP5 (q := (mX12_sum.1, _)) (List.mem_of_getElem? (i := 2) rfl))⟩
theorem lk_X12_386 : LkV RX12 386 mX12_term 0 := ⟨⟨Or.inl w_7_132, w_7_135, w_1_17, by decide, by decide, by decide +kernel, by decide⟩, w_7_134, (inP5 (q := (mX12_term.1, _)) (List.mem_of_getElem? (i := 3) rfl))⟩
theorem lk_X12_380 : LkV RX12 380 mX12_part 0 := ⟨⟨Or.inl w_7_136, w_7_139, w_1_17, by decide, by decide, by decide +kernel, by decide⟩, w_7_138, (inP5 (q := (mX12_part.1, _)) (List.mem_of_getElem? (i := 4) rfl))⟩
theorem lk_X12_374 : LkV RX12 374 mX12_numbered 0 := ⟨⟨Or.inl w_7_140, w_7_143, w_1_17, by decide, by decide, by decide +kernel, by decide⟩, w_7_142, (inP5 (q := (mX12_numbered.1, _)) (List.mem_of_getElem? (i := 5) rfl))⟩
theorem lk_X12_342 : LkV RX12 342 mX12_amount 0 := ⟨⟨Or.inl w_7_144, w_7_147, w_1_17, by decide, by decide, by decide +kernel, by decide⟩, w_7_146, (inP5 (q := (mX12_amount.1, _)) (List.mem_of_getElem? (i := 6) rfl))⟩
theorem lk_X12_346 : LkV RX12 346 mX12_goesOn 0 := ⟨⟨Or.inl w_7_149, w_7_152, w_1_17, by decide, by decide, by decide +kernel, by decide⟩, w_7_151, (inP5 (q := (mX12_goesOn.1, _)) (List.mem_of_getElem? (i := 7) rfl))⟩
theorem lk_X12_349 : LkV RX12 349 mX12_plain 1 := ⟨⟨Or.inl w_7_153, w_7_156, w_1_17, by decide, by decide, by decide +kernel, by decide⟩, w_7_155, (inP5 (q := (mX12_plain.1, _)) (List.mem_of_getElem? (i := 8) rfl))⟩
theorem lk_X12_323 : LkV RX12 323 mX12_clears 0 := ⟨⟨Or.inl w_7_157, w_7_160, w_1_17, by decide, by decide, by decide +kernel, by decide⟩, w_7_159, (inP5 (q := (mX12_clears.1, _)) (List.mem_of_getElem? (i := 9) rfl))⟩
theorem lk_X12_333 : LkV RX12 333 mX12_stepComes 1 := ⟨⟨Or.inl w_7_161, w_7_164, w_1_17, by decide, by decide, by decide +kernel, by decide⟩, w_7_163, (inP5 (q := (mX12_stepComes.1, _)) (List.mem_of_getElem? (i := 10) rfl))⟩
theorem lk_X12_353 : LkV RX12 353 mX12_unit 0 := ⟨⟨Or.inl w_7_165, w_7_168, w_1_17, by decide, by decide, by decide +kernel, by decide⟩, w_7_167, (inP5 (q := (mX12_unit.1, _)) (List.mem_of_getElem? (i := 11) rfl))⟩
theorem lk_X12_356 : LkV RX12 356 mX12_isOwn 0 := ⟨⟨Or.inl w_7_169, w_7_172, w_1_17, by decide, by decide, by decide +kernel, by decide⟩, w_7_171, (inP5 (q := (mX12_isOwn.1, _)) (List.mem_of_getElem? (i := 12) rfl))⟩
theorem lk_X12_362 : LkV RX12 362 mX12_measured 3 := ⟨⟨Or.inl w_7_173, w_7_176, w_1_17, by decide, by decide, by decide +kernel, by decide⟩, w_7_175, (inP5 (q := (mX12_measured.1, _)) (List.mem_of_getElem? (i := 13) rfl))⟩
theorem lk_X12_326 : LkV RX12 326 mX12_ends 1 := ⟨⟨Or.inl w_7_177, w_7_180, w_1_17, by decide, by decide, by decide +kernel, by decide⟩, w_7_179, (inP5 (q := (mX12_ends.1, _)) (List.mem_of_getElem? (i := 14) rfl))⟩
theorem lk_X12_329 : LkV RX12 329 mX12_plus 5 := ⟨⟨Or.inl w_7_181, w_7_184, w_1_17, by decide, by decide, by decide +kernel, by decide⟩, w_7_183, (inP5 (q := (mX12_plus.1, _)) (List.mem_of_getElem? (i := 15) rfl))⟩
theorem lk_X12_366 : LkV RX12 366 mX12_mixed 0 := ⟨⟨Or.inl w_7_185, w_7_188, w_1_17, by decide, by decide, by decide +kernel, by decide⟩, w_7_187, (inP6 (q := (mX12_mixed.1, _)) (List.mem_of_getElem? (i := 0) rfl))⟩
theorem lk_X12_339 : LkV RX12 339 mX12_wrongMixed 0 := ⟨⟨Or.inl w_7_189, w_7_192, w_1_17, by decide, by decide, by decide +kernel, by decide⟩, w_7_191, (inP6 (q := (mX12_wrongMixed.1, _)) (List.mem_of_getElem? (i := 1) rfl))⟩
theorem lk_X12_383 : LkV RX12 383 mX12_product_ 4 := ⟨⟨Or.inl w_7_193, w_7_196, w_1_17, by decide, by decide, by decide +kernel, by decide⟩, w_7_195, (inP6 (q := (mX12_product_.1, _)) (List.mem_of_getElem? (i := 2) rfl))⟩
theorem lk_X12_389 : LkV RX12 389 mX12_added 4 := ⟨⟨Or.inl w_7_197, w_7_200, w_1_17, by decide, by decide, by decide +kernel, by decide⟩, w_7_199, (inP6 (q := (mX12_added.1, _)) (List.mem_of_getElem? (i := 3) rfl))⟩
theorem lk_X12_377 : LkV RX12 377 mX12_areLikeSteps 2 := ⟨⟨Or.inl w_7_201, w_7_204, w_1_17, by decide, by decide, by decide +kernel, by decide⟩, w_7_203, (inP6 (q := (mX12_areLikeSteps.1, _)) (List.mem_of_getElem? (i := 4) rfl))⟩
theorem lk_L_61 : LkV RL 61 mX12_proof 1 := ⟨⟨Or.inl w_7_205, w_7_208, w_1_17, by decide, by decide, by decide +kernel, by decide⟩, w_7_206, w_7_207⟩
theorem lk_L_65 : LkV RL 65 mX12_step 2 := ⟨⟨Or.inl w_7_209, w_7_212, w_1_17, by decide, by decide, by decide +kernel, by decide⟩, w_7_210, w_7_211⟩
theorem lk_X12_408 : LkV RX12 408 mX12_isStep 1 := ⟨⟨Or.inl w_7_213, w_7_216, w_1_17, by decide, by decide, by decide +kernel, by decide⟩, w_7_215, (inP6 (q := (mX12_isStep.1, _)) (List.mem_of_getElem? (i := 5) rfl))⟩
theorem lk_X12_413 : LkS RX12 413 mJ13_signum_95d88 1 := ⟨⟨Or.inl w_7_218, w_7_220, w_1_20, by decide, by decide, by decide +kernel, by decide⟩, w_7_219⟩
theorem lk_L_70 : LkV RL 70 mX12_value 2 := ⟨⟨Or.inl w_7_221, w_7_224, w_1_17, by decide, by decide, by decide +kernel, by decide⟩, w_7_222, w_7_223⟩
theorem lk_L_74 : LkV RL 74 mX12_same 2 := ⟨⟨Or.inl w_7_225, w_7_228, w_1_17, by decide, by decide, by decide +kernel, by decide⟩, w_7_226, w_7_227⟩
theorem lk_L_78 : LkV RL 78 mX12_in 3 := ⟨⟨Or.inl w_7_229, w_7_232, w_1_17, by decide, by decide, by decide +kernel, by decide⟩, w_7_230, w_7_231⟩
theorem lk_X12_422 : LkV RX12 422 mX12_isToldIn 2 := ⟨⟨Or.inl w_7_233, w_7_236, w_1_17, by decide, by decide, by decide +kernel, by decide⟩, w_7_235, (inP6 (q := (mX12_isToldIn.1, _)) (List.mem_of_getElem? (i := 6) rfl))⟩
theorem lk_X12_416 : LkV RX12 416 mX12_result 1 := ⟨⟨Or.inl w_7_237, w_8_0, w_1_17, by decide, by decide, by decide +kernel, by decide⟩, w_7_239, (inP6 (q := (mX12_result.1, _)) (List.mem_of_getElem? (i := 7) rfl))⟩
theorem lk_X12_419 : LkV RX12 419 mX12_isOf 2 := ⟨⟨Or.inl w_8_1, w_8_4, w_1_17, by decide, by decide, by decide +kernel, by decide⟩, w_8_3, (inP6 (q := (mX12_isOf.1, _)) (List.mem_of_getElem? (i := 8) rfl))⟩
theorem lk_L_82 : LkV RL 82 mX12_bits 3 := ⟨⟨Or.inl w_8_5, w_8_8, w_1_17, by decide, by decide, by decide +kernel, by decide⟩, w_8_6, w_8_7⟩
theorem lk_X12_425 : LkS RX12 425 mJxe99ae_doubleToLongBits_ccdee 1 := ⟨⟨Or.inl w_8_9, w_8_11, w_1_21, by decide, by decide, by decide +kernel, by decide⟩, w_8_10⟩
theorem lk_Jxe99ae_122 : LkS RJxe99ae 122 mJxe99ae_isNaN_b9ae7 1 := ⟨⟨Or.inl w_8_12, w_8_14, w_1_21, by decide, by decide, by decide +kernel, by decide⟩, w_8_13⟩
theorem lk_X12_431 : LkS RX12 431 mJxf58ca_floatToIntBits_5c35a 1 := ⟨⟨Or.inl w_8_19, w_8_21, w_1_22, by decide, by decide, by decide +kernel, by decide⟩, w_8_20⟩
theorem lk_Jxf58ca_59 : LkS RJxf58ca 59 mJxf58ca_isNaN_12338 1 := ⟨⟨Or.inl w_8_22, w_8_24, w_1_22, by decide, by decide, by decide +kernel, by decide⟩, w_8_23⟩
theorem lk_L_87 : LkV RL 87 mX12_parted 5 := ⟨⟨Or.inl w_8_29, w_8_32, w_1_17, by decide, by decide, by decide +kernel, by decide⟩, w_8_30, w_8_31⟩
theorem lk_X12_437 : LkV RX12 437 mX12_mayPart 2 := ⟨⟨Or.inl w_8_33, w_8_36, w_1_17, by decide, by decide, by decide +kernel, by decide⟩, w_8_35, (inP6 (q := (mX12_mayPart.1, _)) (List.mem_of_getElem? (i := 9) rfl))⟩
theorem lk_L_92 : LkV RL 92 mX12_claim 4 := ⟨⟨Or.inl w_8_37, w_8_40, w_1_17, by decide, by decide, by decide +kernel, by decide⟩, w_8_38, w_8_39⟩
theorem lk_L_96 : LkV RL 96 mX12_unclaim 1 := ⟨⟨Or.inl w_8_41, w_7_67, w_1_17, by decide, by decide, by decide +kernel, by decide⟩, w_7_65, w_7_66⟩
theorem lk_L_100 : LkV RL 100 mX12_claimOf 2 := ⟨⟨Or.inl w_8_42, w_8_45, w_1_17, by decide, by decide, by decide +kernel, by decide⟩, w_8_43, w_8_44⟩
theorem lk_X12_449 : LkV RX12 449 mX12_isTrue 1 := ⟨⟨Or.inl w_8_47, w_8_50, w_1_17, by decide, by decide, by decide +kernel, by decide⟩, w_8_49, (inP6 (q := (mX12_isTrue.1, _)) (List.mem_of_getElem? (i := 10) rfl))⟩
theorem lk_X12_452 : LkV RX12 452 mX12_tells 0 := ⟨⟨Or.inl w_8_51, w_8_54, w_1_17, by decide, by decide, by decide +kernel, by decide⟩, w_8_53, (inP6 (q := (mX12_tells.1, _)) (List.mem_of_getElem? (i := 11) rfl))⟩
theorem lk_X12_440 : LkV RX12 440 mX12_areBound 3 := ⟨⟨Or.inl w_8_55, w_8_58, w_1_17, by decide, by decide, by decide +kernel, by decide⟩, w_8_57, (inP6 (q := (mX12_areBound.1, _)) (List.mem_of_getElem? (i := 12) rfl))⟩
theorem lk_X12_444 : LkV RX12 444 mX12_goes 2 := ⟨⟨Or.inl w_8_59, w_8_62, w_1_17, by decide, by decide, by decide +kernel, by decide⟩, w_8_61, (inP6 (q := (mX12_goes.1, _)) (List.mem_of_getElem? (i := 13) rfl))⟩
theorem lk_L_104 : LkV RL 104 mX12_rings 1 := ⟨⟨Or.inl w_8_63, w_8_66, w_1_17, by decide, by decide, by decide +kernel, by decide⟩, w_8_64, w_8_65⟩
theorem lk_X12_457 : LkV RX12 457 mX12_trues 0 := ⟨⟨Or.inl w_8_68, w_8_71, w_1_17, by decide, by decide, by decide +kernel, by decide⟩, w_8_70, (inP6 (q := (mX12_trues.1, _)) (List.mem_of_getElem? (i := 14) rfl))⟩
theorem lk_X12_460 : LkV RX12 460 mX12_tolds 1 := ⟨⟨Or.inl w_8_72, w_8_75, w_1_17, by decide, by decide, by decide +kernel, by decide⟩, w_8_74, (inP6 (q := (mX12_tolds.1, _)) (List.mem_of_getElem? (i := 15) rfl))⟩
theorem lk_L_108 : LkV RL 108 mX12_by_ 3 := ⟨⟨Or.inl w_8_76, w_8_79, w_1_17, by decide, by decide, by decide +kernel, by decide⟩, w_8_77, w_8_78⟩
theorem lk_L_112 : LkV RL 112 mX12_track 3 := ⟨⟨Or.inl w_8_80, w_8_83, w_1_17, by decide, by decide, by decide +kernel, by decide⟩, w_8_81, w_8_82⟩
theorem lk_X12_463 : LkS RX12 463 mX12_isTrack 1 := ⟨⟨Or.inl w_8_84, w_8_86, w_1_17, by decide, by decide, by decide +kernel, by decide⟩, w_8_85⟩
theorem lk_L_116 : LkV RL 116 mX12_put 3 := ⟨⟨Or.inl w_8_88, w_8_91, w_1_17, by decide, by decide, by decide +kernel, by decide⟩, w_8_89, w_8_90⟩
theorem lk_X12_468 : LkV RX12 468 mX12_barred 2 := ⟨⟨Or.inl w_8_92, w_8_95, w_1_17, by decide, by decide, by decide +kernel, by decide⟩, w_8_94, (inP7 (q := (mX12_barred.1, _)) (List.mem_of_getElem? (i := 0) rfl))⟩
theorem lk_L_123 : LkV RL 123 mX12_putBits 3 := ⟨⟨Or.inl w_8_98, w_8_101, w_1_17, by decide, by decide, by decide +kernel, by decide⟩, w_8_99, w_8_100⟩
theorem lk_L_127 : LkV RL 127 mX12_item 2 := ⟨⟨Or.inl w_8_108, w_8_111, w_1_17, by decide, by decide, by decide +kernel, by decide⟩, w_8_109, w_8_110⟩
theorem lk_L_131 : LkV RL 131 mX12_change 3 := ⟨⟨Or.inl w_8_112, w_8_115, w_1_17, by decide, by decide, by decide +kernel, by decide⟩, w_8_113, w_8_114⟩
theorem lk_X12_482 : LkV RX12 482 mX12_changed 3 := ⟨⟨Or.inl w_8_116, w_8_119, w_1_17, by decide, by decide, by decide +kernel, by decide⟩, w_8_118, (inP7 (q := (mX12_changed.1, _)) (List.mem_of_getElem? (i := 1) rfl))⟩
theorem lk_X12_486 : LkV RX12 486 mX12_changedWide 3 := ⟨⟨Or.inl w_8_120, w_8_123, w_1_17, by decide, by decide, by decide +kernel, by decide⟩, w_8_122, (inP7 (q := (mX12_changedWide.1, _)) (List.mem_of_getElem? (i := 2) rfl))⟩
theorem lk_L_136 : LkV RL 136 mX12_added_ 1 := ⟨⟨Or.inl w_8_124, w_8_127, w_1_17, by decide, by decide, by decide +kernel, by decide⟩, w_8_125, w_8_126⟩
theorem lk_L_140 : LkV RL 140 mX12_cast 3 := ⟨⟨Or.inl w_8_128, w_8_131, w_1_17, by decide, by decide, by decide +kernel, by decide⟩, w_8_129, w_8_130⟩
theorem lk_L_144 : LkV RL 144 mX12_twin 2 := ⟨⟨Or.inl w_8_132, w_8_135, w_1_17, by decide, by decide, by decide +kernel, by decide⟩, w_8_133, w_8_134⟩
theorem lk_L_148 : LkV RL 148 mX12_hang 3 := ⟨⟨Or.inl w_8_136, w_8_139, w_1_17, by decide, by decide, by decide +kernel, by decide⟩, w_8_137, w_8_138⟩
theorem lk_X12_492 : LkS RX12 492 mX12_isRack 1 := ⟨⟨Or.inl w_8_140, w_8_142, w_1_17, by decide, by decide, by decide +kernel, by decide⟩, w_8_141⟩
theorem lk_X12_495 : LkS RX12 495 mX12_isPlace 1 := ⟨⟨Or.inl w_8_144, w_8_146, w_1_17, by decide, by decide, by decide +kernel, by decide⟩, w_8_145⟩
theorem lk_X12_498 : LkV RX12 498 mX12_stores 4 := ⟨⟨Or.inl w_8_147, w_8_150, w_1_17, by decide, by decide, by decide +kernel, by decide⟩, w_8_149, (inP7 (q := (mX12_stores.1, _)) (List.mem_of_getElem? (i := 3) rfl))⟩
theorem lk_L_152 : LkV RL 152 mX12_hold 3 := ⟨⟨Or.inl w_8_151, w_8_154, w_1_17, by decide, by decide, by decide +kernel, by decide⟩, w_8_152, w_8_153⟩
theorem lk_L_156 : LkV RL 156 mX12_rack 3 := ⟨⟨Or.inl w_8_155, w_8_158, w_1_17, by decide, by decide, by decide +kernel, by decide⟩, w_8_156, w_8_157⟩
theorem lk_L_160 : LkV RL 160 mX12_shift 2 := ⟨⟨Or.inl w_8_159, w_8_162, w_1_17, by decide, by decide, by decide +kernel, by decide⟩, w_8_160, w_8_161⟩
theorem lk_L_164 : LkV RL 164 mX12_image 0 := ⟨⟨Or.inl w_8_163, w_8_166, w_1_17, by decide, by decide, by decide +kernel, by decide⟩, w_8_164, w_8_165⟩
theorem lk_X12_510 : LkS RX12 510 mX12_copies 2 := ⟨⟨Or.inl w_8_167, w_8_169, w_1_17, by decide, by decide, by decide +kernel, by decide⟩, w_8_168⟩
theorem lk_X12_514 : LkS RX12 514 mX12_copiesLong 2 := ⟨⟨Or.inl w_8_170, w_8_172, w_1_17, by decide, by decide, by decide +kernel, by decide⟩, w_8_171⟩
theorem lk_L_168 : LkV RL 168 mX12_undo 0 := ⟨⟨Or.inl w_8_173, w_8_176, w_1_17, by decide, by decide, by decide +kernel, by decide⟩, w_8_174, w_8_175⟩
theorem lk_L_172 : LkV RL 172 mX12_count 1 := ⟨⟨Or.inl w_8_177, w_8_180, w_1_17, by decide, by decide, by decide +kernel, by decide⟩, w_8_178, w_8_179⟩
theorem lk_X11_11 : LkI RX11 11 mX7_init 0 := ⟨⟨Or.inr ⟨"UnitProver", List.mem_of_getElem? (i := 0) rfl⟩, w_1_35, w_1_2, by decide, by decide, by decide +kernel, by decide⟩, rfl, w_1_34, rfl⟩
theorem lk_X10_21 : LkI RX10 21 mX9_init 0 := ⟨⟨Or.inr ⟨"UnitProver", List.mem_of_getElem? (i := 1) rfl⟩, w_1_65, w_1_4, by decide, by decide, by decide +kernel, by decide⟩, rfl, w_1_64, rfl⟩
theorem lk_X9_27 : LkI RX9 27 mX3_init 0 := ⟨⟨Or.inr ⟨"UnitProver", List.mem_of_getElem? (i := 2) rfl⟩, w_1_71, w_1_5, by decide, by decide, by decide +kernel, by decide⟩, rfl, w_1_70, rfl⟩
theorem lk_X11_27 : LkI RX11 27 mX0_init 0 := ⟨⟨Or.inr ⟨"UnitProver", List.mem_of_getElem? (i := 3) rfl⟩, w_1_134, w_1_6, by decide, by decide, by decide +kernel, by decide⟩, rfl, w_1_133, rfl⟩
theorem lk_X0_43 : LkI RX0 43 mX3_init 0 := ⟨⟨Or.inr ⟨"UnitProver", List.mem_of_getElem? (i := 4) rfl⟩, w_1_71, w_1_5, by decide, by decide, by decide +kernel, by decide⟩, rfl, w_1_70, rfl⟩
theorem lk_X11_40 : LkI RX11 40 mX1_init 0 := ⟨⟨Or.inr ⟨"UnitProver", List.mem_of_getElem? (i := 5) rfl⟩, w_1_184, w_1_7, by decide, by decide, by decide +kernel, by decide⟩, rfl, w_1_183, rfl⟩
theorem lk_X1_37 : LkI RX1 37 mX9_init 0 := ⟨⟨Or.inr ⟨"UnitProver", List.mem_of_getElem? (i := 6) rfl⟩, w_1_65, w_1_4, by decide, by decide, by decide +kernel, by decide⟩, rfl, w_1_64, rfl⟩
theorem lk_X4_39 : LkI RX4 39 mX3_init 0 := ⟨⟨Or.inr ⟨"UnitProver", List.mem_of_getElem? (i := 7) rfl⟩, w_1_71, w_1_5, by decide, by decide, by decide +kernel, by decide⟩, rfl, w_1_70, rfl⟩
theorem lk_X4_44 : LkI RX4 44 mX6_init 0 := ⟨⟨Or.inr ⟨"UnitProver", List.mem_of_getElem? (i := 8) rfl⟩, w_1_239, w_1_9, by decide, by decide, by decide +kernel, by decide⟩, rfl, w_1_238, rfl⟩
theorem lk_X6_29 : LkI RX6 29 mX3_init 0 := ⟨⟨Or.inr ⟨"UnitProver", List.mem_of_getElem? (i := 9) rfl⟩, w_1_71, w_1_5, by decide, by decide, by decide +kernel, by decide⟩, rfl, w_1_70, rfl⟩
theorem lk_X11_76 : LkI RX11 76 mX3_init 0 := ⟨⟨Or.inr ⟨"UnitProver", List.mem_of_getElem? (i := 10) rfl⟩, w_1_71, w_1_5, by decide, by decide, by decide +kernel, by decide⟩, rfl, w_1_70, rfl⟩
theorem lk_X11_93 : LkI RX11 93 mX8_init 0 := ⟨⟨Or.inr ⟨"UnitProver", List.mem_of_getElem? (i := 11) rfl⟩, w_2_156, w_1_15, by decide, by decide, by decide +kernel, by decide⟩, rfl, w_2_155, rfl⟩
theorem lk_X1_107 : LkS RX1 107 mX11_goesBeyond 2 := ⟨⟨Or.inr ⟨"UnitProver", List.mem_of_getElem? (i := 12) rfl⟩, w_3_100, w_1_1, by decide, by decide, by decide +kernel, by decide⟩, w_3_99⟩
theorem lk_X9_39 : LkS RX9 39 mX11_equalRows 2 := ⟨⟨Or.inr ⟨"UnitProver", List.mem_of_getElem? (i := 13) rfl⟩, w_3_225, w_1_1, by decide, by decide, by decide +kernel, by decide⟩, w_3_224⟩
theorem lk_X6_131 : LkS RX6 131 mX11_goesBeyond 2 := ⟨⟨Or.inr ⟨"UnitProver", List.mem_of_getElem? (i := 14) rfl⟩, w_3_100, w_1_1, by decide, by decide, by decide +kernel, by decide⟩, w_3_99⟩
theorem lk_X6_179 : LkS RX6 179 mX11_equalRows 2 := ⟨⟨Or.inr ⟨"UnitProver", List.mem_of_getElem? (i := 15) rfl⟩, w_3_225, w_1_1, by decide, by decide, by decide +kernel, by decide⟩, w_3_224⟩
/-! ===== pool entries: classes, constants ===== -/

abbrev J_X4_isSheet : MD := (RX4, cX4_isSheet, 1, some .boolean, { frames := 0, cells := 0, slots := 0, locals := 0 })
abbrev J_X4_isLane : MD := (RX4, cX4_isLane, 1, some .boolean, { frames := 0, cells := 0, slots := 0, locals := 0 })
abbrev J_X2_faultAs : MD := (RX2, cX2_faultAs, 2, some .int, { frames := 0, cells := 0, slots := 0, locals := 0 })
abbrev J_X2_hasCells : MD := (RX2, cX2_hasCells, 3, some .boolean, { frames := 0, cells := 0, slots := 0, locals := 0 })
abbrev J_X4_failed : MD := (RX4, cX4_failed, 2, some .int, { frames := 0, cells := 0, slots := 0, locals := 0 })
abbrev J_X1_begin : MD := (RX1, cX1_begin, 1, none, { frames := 0, cells := 0, slots := 0, locals := 0 })
abbrev J_X3_kindOf : MD := (RX3, cX3_kindOf, 1, some .int, { frames := 0, cells := 0, slots := 0, locals := 0 })
abbrev J_X3_isDigit : MD := (RX3, cX3_isDigit, 1, some .boolean, { frames := 0, cells := 0, slots := 0, locals := 0 })
abbrev J_X3_anchorOf : MD := (RX3, cX3_anchorOf, 1, some .int, { frames := 0, cells := 0, slots := 0, locals := 0 })
abbrev J_X3_goesOnInLeft : MD := (RX3, cX3_goesOnInLeft, 4, some .boolean, { frames := 1, cells := 0, slots := 0, locals := 20 })
abbrev J_X3_goesOnInRight : MD := (RX3, cX3_goesOnInRight, 4, some .boolean, { frames := 1, cells := 0, slots := 0, locals := 20 })
abbrev J_X3_goesOn : MD := (RX3, cX3_goesOn, 3, some .boolean, { frames := 2, cells := 0, slots := 0, locals := 43 })
abbrev J_X3_firstFault : MD := (RX3, cX3_firstFault, 6, some .int, { frames := 3, cells := 0, slots := 0, locals := 65 })
abbrev J_X1_becomeLike : MD := (RX1, cX1_becomeLike, 2, none, { frames := 1, cells := 0, slots := 0, locals := 18 })
abbrev J_X4_books : MD := (RX4, cX4_books, 8, some .int, { frames := 4, cells := 0, slots := 0, locals := 90 })
abbrev J_X1_hasLeft : MD := (RX1, cX1_hasLeft, 2, some .boolean, { frames := 0, cells := 0, slots := 0, locals := 0 })
abbrev J_X1_leftLength : MD := (RX1, cX1_leftLength, 2, some .int, { frames := 0, cells := 0, slots := 0, locals := 0 })
abbrev J_X1_hasRight : MD := (RX1, cX1_hasRight, 2, some .boolean, { frames := 0, cells := 0, slots := 0, locals := 0 })
abbrev J_X1_hasPair : MD := (RX1, cX1_hasPair, 8, some .boolean, { frames := 1, cells := 0, slots := 0, locals := 21 })
abbrev J_X1_anchorSet : MD := (RX1, cX1_anchorSet, 1, some .int, { frames := 0, cells := 0, slots := 0, locals := 0 })
abbrev J_X1_pairCost : MD := (RX1, cX1_pairCost, 10, some .int, { frames := 1, cells := 0, slots := 0, locals := 21 })
abbrev J_X0_take : MD := (RX0, cX0_take, 6, none, { frames := 2, cells := 0, slots := 0, locals := 50 })
abbrev J_X0_end : MD := (RX0, cX0_end, 1, some .int, { frames := 0, cells := 0, slots := 0, locals := 0 })
abbrev J_X0_fillLeast : MD := (RX0, cX0_fillLeast, 5, none, { frames := 1, cells := 0, slots := 0, locals := 20 })
abbrev J_X0_orNone : MD := (RX0, cX0_orNone, 1, some .int, { frames := 0, cells := 0, slots := 0, locals := 0 })
abbrev J_X0_leastBy : MD := (RX0, cX0_leastBy, 5, some .int, { frames := 2, cells := 0, slots := 0, locals := 44 })
abbrev J_X0_addOthers : MD := (RX0, cX0_addOthers, 7, none, { frames := 1, cells := 0, slots := 0, locals := 15 })
abbrev J_X0_fillOthersAt : MD := (RX0, cX0_fillOthersAt, 4, none, { frames := 2, cells := 0, slots := 0, locals := 41 })
abbrev J_X0_fillOthers : MD := (RX0, cX0_fillOthers, 3, none, { frames := 3, cells := 0, slots := 0, locals := 64 })
abbrev J_X0_walkBest : MD := (RX0, cX0_walkBest, 3, none, { frames := 1, cells := 0, slots := 0, locals := 20 })
abbrev J_X0_align : MD := (RX0, cX0_align, 2, none, { frames := 4, cells := 0, slots := 0, locals := 86 })
abbrev J_X4_alignmentOfNow : MD := (RX4, cX4_alignmentOfNow, 1, some (.object "BookPairs$Aligner"), { frames := 5, cells := 0, slots := 0, locals := 107 })
abbrev J_X0_isIn : MD := (RX0, cX0_isIn, 3, some .boolean, { frames := 0, cells := 0, slots := 0, locals := 0 })
abbrev J_X0_setOf : MD := (RX0, cX0_setOf, 2, some .int, { frames := 0, cells := 0, slots := 0, locals := 0 })
abbrev J_X0_rightsWith : MD := (RX0, cX0_rightsWith, 4, some .int, { frames := 1, cells := 0, slots := 0, locals := 22 })
abbrev J_X4_ofLeft : MD := (RX4, cX4_ofLeft, 3, some .int, { frames := 6, cells := 0, slots := 0, locals := 127 })
abbrev J_X0_leftsWith : MD := (RX0, cX0_leftsWith, 4, some .int, { frames := 1, cells := 0, slots := 0, locals := 22 })
abbrev J_X4_ofRight : MD := (RX4, cX4_ofRight, 3, some .int, { frames := 6, cells := 0, slots := 0, locals := 127 })
abbrev J_X4_isLetters : MD := (RX4, cX4_isLetters, 1, some .boolean, { frames := 0, cells := 0, slots := 0, locals := 0 })
abbrev J_X4_letters : MD := (RX4, cX4_letters, 6, some .int, { frames := 1, cells := 0, slots := 0, locals := 21 })
abbrev J_X1_areThere : MD := (RX1, cX1_areThere, 1, some .boolean, { frames := 0, cells := 0, slots := 0, locals := 0 })
abbrev J_X4_isPrice : MD := (RX4, cX4_isPrice, 2, some .boolean, { frames := 0, cells := 0, slots := 0, locals := 0 })
abbrev J_X1_priceOf : MD := (RX1, cX1_priceOf, 2, some .int, { frames := 0, cells := 0, slots := 0, locals := 0 })
abbrev J_X1_setPrice : MD := (RX1, cX1_setPrice, 3, none, { frames := 0, cells := 0, slots := 0, locals := 0 })
abbrev J_X4_price : MD := (RX4, cX4_price, 4, some .int, { frames := 1, cells := 0, slots := 0, locals := 22 })
abbrev J_X1_takeMoved : MD := (RX1, cX1_takeMoved, 8, none, { frames := 0, cells := 0, slots := 0, locals := 0 })
abbrev J_X4_move : MD := (RX4, cX4_move, 4, some .int, { frames := 2, cells := 0, slots := 0, locals := 39 })
abbrev J_X0_answer : MD := (RX0, cX0_answer, 2, some .int, { frames := 1, cells := 0, slots := 0, locals := 20 })
abbrev J_X4_best : MD := (RX4, cX4_best, 2, some .int, { frames := 6, cells := 0, slots := 0, locals := 127 })
abbrev J_X0_costOfPair : MD := (RX0, cX0_costOfPair, 2, some .int, { frames := 0, cells := 0, slots := 0, locals := 0 })
abbrev J_X4_ofPair : MD := (RX4, cX4_ofPair, 4, some .int, { frames := 6, cells := 0, slots := 0, locals := 127 })
abbrev J_X4_isSort : MD := (RX4, cX4_isSort, 1, some .boolean, { frames := 0, cells := 0, slots := 0, locals := 0 })
abbrev J_X4_cost : MD := (RX4, cX4_cost, 4, some .int, { frames := 2, cells := 0, slots := 0, locals := 50 })
abbrev J_X4_isAskedOfDay : MD := (RX4, cX4_isAskedOfDay, 1, some .boolean, { frames := 0, cells := 0, slots := 0, locals := 0 })
abbrev J_X4_isAct : MD := (RX4, cX4_isAct, 4, some .boolean, { frames := 1, cells := 0, slots := 0, locals := 21 })
abbrev J_X4_areActs : MD := (RX4, cX4_areActs, 4, some .boolean, { frames := 2, cells := 0, slots := 0, locals := 44 })
abbrev J_X1_takeAct : MD := (RX1, cX1_takeAct, 3, some .boolean, { frames := 1, cells := 0, slots := 0, locals := 22 })
abbrev J_X4_supposeDay : MD := (RX4, cX4_supposeDay, 5, some .int, { frames := 2, cells := 0, slots := 0, locals := 44 })
abbrev J_X4_answerOfDay : MD := (RX4, cX4_answerOfDay, 3, some .int, { frames := 5, cells := 0, slots := 0, locals := 107 })
abbrev J_X4_day : MD := (RX4, cX4_day, 8, some .int, { frames := 6, cells := 0, slots := 0, locals := 129 })
abbrev J_X4_by : MD := (RX4, cX4_by, 2, some .int, { frames := 3, cells := 0, slots := 0, locals := 75 })
abbrev J_X4_enough : MD := (RX4, cX4_enough, 3, some .int, { frames := 3, cells := 0, slots := 0, locals := 75 })
abbrev J_X4_reading : MD := (RX4, cX4_reading, 3, some .int, { frames := 1, cells := 0, slots := 0, locals := 21 })
abbrev J_X4_back : MD := (RX4, cX4_back, 2, some .int, { frames := 0, cells := 0, slots := 0, locals := 0 })
abbrev J_X4_readingsHoldIfSupposed : MD := (RX4, cX4_readingsHoldIfSupposed, 2, some .boolean, { frames := 3, cells := 0, slots := 0, locals := 75 })
abbrev J_X4_kinds : MD := (RX4, cX4_kinds, 4, some .int, { frames := 4, cells := 0, slots := 0, locals := 96 })
abbrev J_X4_letterings : MD := (RX4, cX4_letterings, 4, some .int, { frames := 4, cells := 0, slots := 0, locals := 96 })
abbrev J_X0_howManyOf : MD := (RX0, cX0_howManyOf, 4, some .int, { frames := 0, cells := 0, slots := 0, locals := 0 })
abbrev J_X4_commonDivisor : MD := (RX4, cX4_commonDivisor, 3, some .int, { frames := 0, cells := 0, slots := 0, locals := 0 })
abbrev J_X4_odds : MD := (RX4, cX4_odds, 7, some .long, { frames := 6, cells := 0, slots := 0, locals := 127 })
abbrev J_J7_fill_53178 : MD := (RJ7, cJ7_fill_53178, 4, none, { frames := 0, cells := 0, slots := 0, locals := 0 })
abbrev J_X2_begin : MD := (RX2, cX2_begin, 3, none, { frames := 1, cells := 0, slots := 0, locals := 23 })
abbrev J_X4_sheet : MD := (RX4, cX4_sheet, 4, some .int, { frames := 2, cells := 0, slots := 0, locals := 45 })
abbrev J_X4_lose : MD := (RX4, cX4_lose, 3, some .int, { frames := 1, cells := 0, slots := 0, locals := 20 })
abbrev J_X2_cut : MD := (RX2, cX2_cut, 2, some .int, { frames := 0, cells := 0, slots := 0, locals := 0 })
abbrev J_X4_put : MD := (RX4, cX4_put, 5, some .int, { frames := 1, cells := 0, slots := 0, locals := 22 })
abbrev J_X4_cell : MD := (RX4, cX4_cell, 5, some .long, { frames := 1, cells := 0, slots := 0, locals := 22 })
abbrev J_X4_copy : MD := (RX4, cX4_copy, 8, some .int, { frames := 1, cells := 0, slots := 0, locals := 22 })
abbrev J_X4_leaveTrace : MD := (RX4, cX4_leaveTrace, 2, none, { frames := 0, cells := 0, slots := 0, locals := 0 })
abbrev J_X4_plainBody : MD := (RX4, cX4_plainBody, 2, some .int, { frames := 1, cells := 0, slots := 0, locals := 21 })
abbrev J_X4_longBody : MD := (RX4, cX4_longBody, 2, some .int, { frames := 2, cells := 0, slots := 0, locals := 42 })
abbrev J_X4_doubleBody : MD := (RX4, cX4_doubleBody, 3, some .int, { frames := 3, cells := 0, slots := 0, locals := 63 })
abbrev J_X4_tell : MD := (RX4, cX4_tell, 2, some .int, { frames := 4, cells := 0, slots := 0, locals := 85 })
abbrev J_X4_lentBody : MD := (RX4, cX4_lentBody, 2, some .int, { frames := 1, cells := 0, slots := 0, locals := 21 })
abbrev J_X4_doublesOwnBody : MD := (RX4, cX4_doublesOwnBody, 2, some .int, { frames := 2, cells := 0, slots := 0, locals := 42 })
abbrev J_X4_read : MD := (RX4, cX4_read, 2, some .int, { frames := 3, cells := 0, slots := 0, locals := 63 })
abbrev J_X4_as : MD := (RX4, cX4_as, 3, some .int, { frames := 1, cells := 0, slots := 0, locals := 21 })
abbrev J_X4_trace : MD := (RX4, cX4_trace, 1, some .int, { frames := 0, cells := 0, slots := 0, locals := 0 })
abbrev J_X4_fault : MD := (RX4, cX4_fault, 1, some .int, { frames := 0, cells := 0, slots := 0, locals := 0 })
abbrev J_X4_many : MD := (RX4, cX4_many, 2, some .int, { frames := 0, cells := 0, slots := 0, locals := 0 })
abbrev J_X5_fails : MD := (RX5, cX5_fails, 2, some .int, { frames := 0, cells := 0, slots := 0, locals := 0 })
abbrev J_X5_lost : MD := (RX5, cX5_lost, 2, some .long, { frames := 0, cells := 0, slots := 0, locals := 0 })
abbrev J_X5_within : MD := (RX5, cX5_within, 3, some .boolean, { frames := 0, cells := 0, slots := 0, locals := 0 })
abbrev J_X5_isSheet : MD := (RX5, cX5_isSheet, 1, some .boolean, { frames := 1, cells := 0, slots := 0, locals := 22 })
abbrev J_X5_isSort : MD := (RX5, cX5_isSort, 1, some .boolean, { frames := 1, cells := 0, slots := 0, locals := 22 })
abbrev J_X5_against : MD := (RX5, cX5_against, 5, some .int, { frames := 0, cells := 0, slots := 0, locals := 0 })
abbrev J_X5_isLeft : MD := (RX5, cX5_isLeft, 2, some .boolean, { frames := 0, cells := 0, slots := 0, locals := 0 })
abbrev J_X5_isRight : MD := (RX5, cX5_isRight, 2, some .boolean, { frames := 0, cells := 0, slots := 0, locals := 0 })
abbrev J_X5_isSign : MD := (RX5, cX5_isSign, 3, some .boolean, { frames := 0, cells := 0, slots := 0, locals := 0 })
abbrev J_X5_readKindNext : MD := (RX5, cX5_readKindNext, 3, some .boolean, { frames := 0, cells := 0, slots := 0, locals := 0 })
abbrev J_X5_readSentence : MD := (RX5, cX5_readSentence, 3, some .boolean, { frames := 1, cells := 0, slots := 0, locals := 22 })
abbrev J_X5_readAll : MD := (RX5, cX5_readAll, 2, some .boolean, { frames := 2, cells := 0, slots := 0, locals := 44 })
abbrev J_X5_books : MD := (RX5, cX5_books, 8, some .int, { frames := 3, cells := 0, slots := 0, locals := 65 })
abbrev J_X5_lengthOf : MD := (RX5, cX5_lengthOf, 2, some .int, { frames := 0, cells := 0, slots := 0, locals := 0 })
abbrev J_X5_leftsOf : MD := (RX5, cX5_leftsOf, 1, some .int, { frames := 0, cells := 0, slots := 0, locals := 0 })
abbrev J_X5_rightsOf : MD := (RX5, cX5_rightsOf, 1, some .int, { frames := 0, cells := 0, slots := 0, locals := 0 })
abbrev J_X5_anchorSet : MD := (RX5, cX5_anchorSet, 1, some .int, { frames := 0, cells := 0, slots := 0, locals := 0 })
abbrev J_X5_costOf : MD := (RX5, cX5_costOf, 8, some .int, { frames := 1, cells := 0, slots := 0, locals := 21 })
abbrev J_X5_isStand : MD := (RX5, cX5_isStand, 4, some .boolean, { frames := 0, cells := 0, slots := 0, locals := 0 })
abbrev J_X5_comes : MD := (RX5, cX5_comes, 4, none, { frames := 0, cells := 0, slots := 0, locals := 0 })
abbrev J_X5_findStand : MD := (RX5, cX5_findStand, 10, none, { frames := 2, cells := 0, slots := 0, locals := 48 })
abbrev J_X5_findAll : MD := (RX5, cX5_findAll, 4, some .int, { frames := 3, cells := 0, slots := 0, locals := 77 })
abbrev J_X5_isOnBest : MD := (RX5, cX5_isOnBest, 6, some .boolean, { frames := 2, cells := 0, slots := 0, locals := 48 })
abbrev J_X5_findBest : MD := (RX5, cX5_findBest, 5, some .int, { frames := 4, cells := 0, slots := 0, locals := 100 })
abbrev J_X5_pairedWith : MD := (RX5, cX5_pairedWith, 9, some .int, { frames := 1, cells := 0, slots := 0, locals := 20 })
abbrev J_X5_ofLeft : MD := (RX5, cX5_ofLeft, 3, some .int, { frames := 5, cells := 0, slots := 0, locals := 124 })
abbrev J_X5_ofRight : MD := (RX5, cX5_ofRight, 3, some .int, { frames := 5, cells := 0, slots := 0, locals := 124 })
abbrev J_X5_letters : MD := (RX5, cX5_letters, 5, some .int, { frames := 1, cells := 0, slots := 0, locals := 22 })
abbrev J_X5_price : MD := (RX5, cX5_price, 4, some .int, { frames := 1, cells := 0, slots := 0, locals := 22 })
abbrev J_X5_goesUp : MD := (RX5, cX5_goesUp, 4, none, { frames := 0, cells := 0, slots := 0, locals := 0 })
abbrev J_X5_move : MD := (RX5, cX5_move, 6, some .int, { frames := 1, cells := 0, slots := 0, locals := 23 })
abbrev J_X5_tellBest : MD := (RX5, cX5_tellBest, 3, some .int, { frames := 5, cells := 0, slots := 0, locals := 124 })
abbrev J_X5_best : MD := (RX5, cX5_best, 2, some .int, { frames := 6, cells := 0, slots := 0, locals := 146 })
abbrev J_X5_ofPair : MD := (RX5, cX5_ofPair, 3, some .int, { frames := 5, cells := 0, slots := 0, locals := 124 })
abbrev J_X5_cost : MD := (RX5, cX5_cost, 5, some .int, { frames := 2, cells := 0, slots := 0, locals := 48 })
abbrev J_X5_keep : MD := (RX5, cX5_keep, 2, none, { frames := 0, cells := 0, slots := 0, locals := 0 })
abbrev J_X5_putBack : MD := (RX5, cX5_putBack, 2, none, { frames := 0, cells := 0, slots := 0, locals := 0 })
abbrev J_X5_does : MD := (RX5, cX5_does, 3, some .boolean, { frames := 1, cells := 0, slots := 0, locals := 21 })
abbrev J_X5_isPair : MD := (RX5, cX5_isPair, 2, some .boolean, { frames := 1, cells := 0, slots := 0, locals := 22 })
abbrev J_X5_goDay : MD := (RX5, cX5_goDay, 4, some .int, { frames := 2, cells := 0, slots := 0, locals := 43 })
abbrev J_X5_tellDay : MD := (RX5, cX5_tellDay, 2, some .int, { frames := 6, cells := 0, slots := 0, locals := 146 })
abbrev J_X5_day : MD := (RX5, cX5_day, 10, some .int, { frames := 7, cells := 0, slots := 0, locals := 167 })
abbrev J_X5_by : MD := (RX5, cX5_by, 2, some .int, { frames := 4, cells := 0, slots := 0, locals := 100 })
abbrev J_X5_enough : MD := (RX5, cX5_enough, 3, some .int, { frames := 4, cells := 0, slots := 0, locals := 100 })
abbrev J_X5_reading : MD := (RX5, cX5_reading, 3, some .int, { frames := 1, cells := 0, slots := 0, locals := 22 })
abbrev J_X5_back : MD := (RX5, cX5_back, 2, some .int, { frames := 1, cells := 0, slots := 0, locals := 22 })
abbrev J_X5_areSo : MD := (RX5, cX5_areSo, 2, some .boolean, { frames := 4, cells := 0, slots := 0, locals := 100 })
abbrev J_X5_kinds : MD := (RX5, cX5_kinds, 5, some .int, { frames := 5, cells := 0, slots := 0, locals := 121 })
abbrev J_X5_letterings : MD := (RX5, cX5_letterings, 5, some .int, { frames := 5, cells := 0, slots := 0, locals := 121 })
abbrev J_X5_inLeastTerms : MD := (RX5, cX5_inLeastTerms, 11, some .long, { frames := 0, cells := 0, slots := 0, locals := 0 })
abbrev J_X5_odds : MD := (RX5, cX5_odds, 5, some .long, { frames := 5, cells := 0, slots := 0, locals := 124 })
abbrev J_X5_sheet : MD := (RX5, cX5_sheet, 5, some .int, { frames := 2, cells := 0, slots := 0, locals := 42 })
abbrev J_X5_lose : MD := (RX5, cX5_lose, 3, some .int, { frames := 2, cells := 0, slots := 0, locals := 42 })
abbrev J_X5_put : MD := (RX5, cX5_put, 4, some .int, { frames := 2, cells := 0, slots := 0, locals := 42 })
abbrev J_X5_cell : MD := (RX5, cX5_cell, 4, some .long, { frames := 2, cells := 0, slots := 0, locals := 42 })
abbrev J_X5_copy : MD := (RX5, cX5_copy, 10, some .int, { frames := 2, cells := 0, slots := 0, locals := 42 })
abbrev J_X5_begins : MD := (RX5, cX5_begins, 2, none, { frames := 0, cells := 0, slots := 0, locals := 0 })
abbrev J_X5_tell : MD := (RX5, cX5_tell, 3, some .int, { frames := 1, cells := 0, slots := 0, locals := 21 })
abbrev J_X5_read : MD := (RX5, cX5_read, 2, some .int, { frames := 1, cells := 0, slots := 0, locals := 21 })
abbrev J_X5_as : MD := (RX5, cX5_as, 3, some .int, { frames := 1, cells := 0, slots := 0, locals := 22 })
abbrev J_X5_trace : MD := (RX5, cX5_trace, 1, some .int, { frames := 0, cells := 0, slots := 0, locals := 0 })
abbrev J_X5_fault : MD := (RX5, cX5_fault, 1, some .int, { frames := 0, cells := 0, slots := 0, locals := 0 })
abbrev J_X5_many : MD := (RX5, cX5_many, 2, some .int, { frames := 0, cells := 0, slots := 0, locals := 0 })
theorem mw0 : Cond.fieldLink "BookPairs$Sheet" 15 "BookPairs$Sheet" "there" "Z" ∈ TB := tb1 140 (by decide +kernel) (by decide +kernel)
theorem mw1 : Cond.fieldLink "BookPairs$Sheet" 19 "BookPairs$Sheet" "lane" "I" ∈ TB := tb1 142 (by decide +kernel) (by decide +kernel)
theorem mw2 : Cond.fieldLink "BookPairs$Sheet" 23 "BookPairs$Sheet" "size" "I" ∈ TB := tb1 144 (by decide +kernel) (by decide +kernel)
theorem mw3 : Cond.fieldLink "BookPairs" 52 "BookPairs" "fault" "I" ∈ TB := tb1 165 (by decide +kernel) (by decide +kernel)
theorem mw4 : Cond.fieldLink "BookPairs$Books" 27 "BookPairs$Books" "leftCount" "I" ∈ TB := tb1 41 (by decide +kernel) (by decide +kernel)
theorem mw5 : Cond.fieldLink "BookPairs$Books" 31 "BookPairs$Books" "rightCount" "I" ∈ TB := tb1 45 (by decide +kernel) (by decide +kernel)
theorem mw6 : Cond.fieldLink "BookPairs$Books" 34 "BookPairs$Books" "skip" "I" ∈ TB := tb1 49 (by decide +kernel) (by decide +kernel)
theorem mw7 : Cond.fieldLink "BookPairs$Books" 37 "BookPairs$Books" "join" "I" ∈ TB := tb1 51 (by decide +kernel) (by decide +kernel)
theorem mw8 : Cond.fieldLink "BookPairs$Books" 40 "BookPairs$Books" "band" "I" ∈ TB := tb1 54 (by decide +kernel) (by decide +kernel)
theorem mw9 : Cond.fieldLink "BookPairs$TextTaker" 30 "BookPairs$Books" "leftCount" "I" ∈ TB := tb1 44 (by decide +kernel) (by decide +kernel)
theorem mw10 : Cond.fieldLink "BookPairs$TextTaker" 16 "BookPairs$TextTaker" "awaits" "I" ∈ TB := tb1 128 (by decide +kernel) (by decide +kernel)
theorem mw11 : Cond.fieldLink "BookPairs$TextTaker" 56 "BookPairs$Books" "leftAnchors" "[I" ∈ TB := tb1 34 (by decide +kernel) (by decide +kernel)
theorem mw12 : Cond.methodLink "BookPairs$TextTaker" 59 ⟨"BookPairs$TextTaker", "anchorOf", "(I)I"⟩ ∈ TB := tb1 235 (by decide +kernel) (by decide +kernel)
theorem mw13 : Cond.fieldLink "BookPairs$TextTaker" 49 "BookPairs$Books" "leftLetters" "[I" ∈ TB := tb1 31 (by decide +kernel) (by decide +kernel)
theorem mw14 : Cond.methodLink "BookPairs$TextTaker" 52 ⟨"BookPairs$TextTaker", "isDigit", "(I)Z"⟩ ∈ TB := tb1 232 (by decide +kernel) (by decide +kernel)
theorem mw15 : Cond.fieldLink "BookPairs$TextTaker" 42 "BookPairs$Books" "leftKinds" "[I" ∈ TB := tb1 28 (by decide +kernel) (by decide +kernel)
theorem mw16 : Cond.methodLink "BookPairs$TextTaker" 45 ⟨"BookPairs$TextTaker", "kindOf", "(I)I"⟩ ∈ TB := tb1 229 (by decide +kernel) (by decide +kernel)
theorem mw17 : Cond.fieldLink "BookPairs$TextTaker" 33 "BookPairs$Books" "rightCount" "I" ∈ TB := tb1 48 (by decide +kernel) (by decide +kernel)
theorem mw18 : Cond.fieldLink "BookPairs$TextTaker" 65 "BookPairs$Books" "rightAnchors" "[I" ∈ TB := tb1 40 (by decide +kernel) (by decide +kernel)
theorem mw19 : Cond.fieldLink "BookPairs$TextTaker" 62 "BookPairs$Books" "rightLetters" "[I" ∈ TB := tb1 37 (by decide +kernel) (by decide +kernel)
theorem mw20 : Cond.methodLink "BookPairs$TextTaker" 36 ⟨"BookPairs$TextTaker", "goesOnInLeft", "(ILBookPairs$Books;)Z"⟩ ∈ TB := tb1 225 (by decide +kernel) (by decide +kernel)
theorem mw21 : Cond.methodLink "BookPairs$TextTaker" 39 ⟨"BookPairs$TextTaker", "goesOnInRight", "(ILBookPairs$Books;)Z"⟩ ∈ TB := tb1 238 (by decide +kernel) (by decide +kernel)
theorem mw22 : Cond.methodLink "BookPairs$TextTaker" 9 ⟨"BookPairs$Books", "begin", "()V"⟩ ∈ TB := tb1 217 (by decide +kernel) (by decide +kernel)
theorem mw23 : Cond.fieldLink "BookPairs$TextTaker" 20 "BookPairs$Sheet" "cells" "[I" ∈ TB := tb1 138 (by decide +kernel) (by decide +kernel)
theorem mw24 : Cond.methodLink "BookPairs$TextTaker" 26 ⟨"BookPairs$TextTaker", "goesOn", "(ILBookPairs$Books;)Z"⟩ ∈ TB := tb1 221 (by decide +kernel) (by decide +kernel)
theorem mw25 : Cond.fieldLink "BookPairs$Books" 9 "BookPairs$Books" "leftKinds" "[I" ∈ TB := tb1 26 (by decide +kernel) (by decide +kernel)
theorem mw26 : Cond.methodLink "BookPairs$Books" 43 ⟨"java/lang/System", "arraycopy", "(Ljava/lang/Object;ILjava/lang/Object;II)V"⟩ ∈ TB := tb2 6 (by decide +kernel) (by decide +kernel)
theorem mw27 : Cond.native ⟨"java/lang/System", "arraycopy", "(Ljava/lang/Object;ILjava/lang/Object;II)V"⟩ ∈ TB := tb2 8 (by decide +kernel) (by decide +kernel)
theorem mw28 : Cond.static ⟨"java/lang/System", "arraycopy", "(Ljava/lang/Object;ILjava/lang/Object;II)V"⟩ ∈ TB := tb2 7 (by decide +kernel) (by decide +kernel)
theorem mw29 : Cond.initialized "java/lang/System" ∈ TB := tb1 7 (by decide +kernel) (by decide +kernel)
theorem mw30 : Cond.fieldLink "BookPairs$Books" 15 "BookPairs$Books" "leftLetters" "[I" ∈ TB := tb1 29 (by decide +kernel) (by decide +kernel)
theorem mw31 : Cond.fieldLink "BookPairs$Books" 18 "BookPairs$Books" "leftAnchors" "[I" ∈ TB := tb1 32 (by decide +kernel) (by decide +kernel)
theorem mw32 : Cond.fieldLink "BookPairs$Books" 21 "BookPairs$Books" "rightLetters" "[I" ∈ TB := tb1 35 (by decide +kernel) (by decide +kernel)
theorem mw33 : Cond.fieldLink "BookPairs$Books" 24 "BookPairs$Books" "rightAnchors" "[I" ∈ TB := tb1 38 (by decide +kernel) (by decide +kernel)
theorem mw34 : Cond.methodLink "BookPairs" 56 ⟨"BookPairs", "isSheet", "(I)Z"⟩ ∈ TB := tb1 195 (by decide +kernel) (by decide +kernel)
theorem mw35 : Cond.methodLink "BookPairs" 60 ⟨"BookPairs", "isLane", "(I)Z"⟩ ∈ TB := tb1 198 (by decide +kernel) (by decide +kernel)
theorem mw36 : Cond.fieldLink "BookPairs" 13 "BookPairs" "sheets" "[LBookPairs$Sheet;" ∈ TB := tb1 154 (by decide +kernel) (by decide +kernel)
theorem mw37 : Cond.methodLink "BookPairs" 63 ⟨"BookPairs$Sheet", "faultAs", "(I)I"⟩ ∈ TB := tb1 201 (by decide +kernel) (by decide +kernel)
theorem mw38 : Cond.fieldLink "BookPairs" 40 "BookPairs" "textTaker" "LBookPairs$TextTaker;" ∈ TB := tb1 159 (by decide +kernel) (by decide +kernel)
theorem mw39 : Cond.fieldLink "BookPairs" 24 "BookPairs" "supposed" "LBookPairs$Books;" ∈ TB := tb1 156 (by decide +kernel) (by decide +kernel)
theorem mw40 : Cond.methodLink "BookPairs" 74 ⟨"BookPairs$TextTaker", "firstFault", "(LBookPairs$Sheet;IILBookPairs$Books;)I"⟩ ∈ TB := tb1 213 (by decide +kernel) (by decide +kernel)
theorem mw41 : Cond.fieldLink "BookPairs" 20 "BookPairs" "now" "LBookPairs$Books;" ∈ TB := tb1 155 (by decide +kernel) (by decide +kernel)
theorem mw42 : Cond.methodLink "BookPairs" 78 ⟨"BookPairs$Books", "becomeLike", "(LBookPairs$Books;)V"⟩ ∈ TB := tb2 2 (by decide +kernel) (by decide +kernel)
theorem mw43 : Cond.fieldLink "BookPairs" 82 "BookPairs" "readingCount" "I" ∈ TB := tb1 162 (by decide +kernel) (by decide +kernel)
theorem mw44 : Cond.fieldLink "BookPairs" 85 "BookPairs" "aligned" "Z" ∈ TB := tb1 163 (by decide +kernel) (by decide +kernel)
theorem mw45 : Cond.fieldLink "BookPairs" 89 "BookPairs$Books" "leftCount" "I" ∈ TB := tb1 42 (by decide +kernel) (by decide +kernel)
theorem mw46 : Cond.fieldLink "BookPairs" 92 "BookPairs$Books" "rightCount" "I" ∈ TB := tb1 46 (by decide +kernel) (by decide +kernel)
theorem mw47 : Cond.methodLink "BookPairs" 71 ⟨"BookPairs", "failed", "(I)I"⟩ ∈ TB := tb1 209 (by decide +kernel) (by decide +kernel)
theorem mw48 : Cond.methodLink "BookPairs" 67 ⟨"BookPairs$Sheet", "hasCells", "(II)Z"⟩ ∈ TB := tb1 205 (by decide +kernel) (by decide +kernel)
theorem mw49 : Cond.methodLink "BookPairs$Books" 53 ⟨"BookPairs$Books", "hasRight", "(I)Z"⟩ ∈ TB := tb2 42 (by decide +kernel) (by decide +kernel)
theorem mw50 : Cond.methodLink "BookPairs$Books" 57 ⟨"BookPairs$Books", "hasLeft", "(I)Z"⟩ ∈ TB := tb2 41 (by decide +kernel) (by decide +kernel)
theorem mw51 : Cond.methodLink "BookPairs$Books" 66 ⟨"BookPairs$Books", "leftLength", "(I)I"⟩ ∈ TB := tb2 50 (by decide +kernel) (by decide +kernel)
theorem mw52 : Cond.methodLink "BookPairs$Books" 70 ⟨"BookPairs$Books", "anchorSet", "(I)I"⟩ ∈ TB := tb2 51 (by decide +kernel) (by decide +kernel)
theorem mw53 : Cond.methodLink "BookPairs$Books" 73 ⟨"java/lang/Math", "abs", "(I)I"⟩ ∈ TB := tb2 54 (by decide +kernel) (by decide +kernel)
theorem mw54 : Cond.static ⟨"java/lang/Math", "abs", "(I)I"⟩ ∈ TB := tb2 55 (by decide +kernel) (by decide +kernel)
theorem mw55 : Cond.initialized "java/lang/Math" ∈ TB := tb1 8 (by decide +kernel) (by decide +kernel)
theorem mw56 : Cond.fieldLink "BookPairs$Aligner" 56 "BookPairs$Books" "leftCount" "I" ∈ TB := tb1 43 (by decide +kernel) (by decide +kernel)
theorem mw57 : Cond.fieldLink "BookPairs$Aligner" 59 "BookPairs$Aligner" "leftCount" "I" ∈ TB := tb1 95 (by decide +kernel) (by decide +kernel)
theorem mw58 : Cond.fieldLink "BookPairs$Aligner" 60 "BookPairs$Books" "rightCount" "I" ∈ TB := tb1 47 (by decide +kernel) (by decide +kernel)
theorem mw59 : Cond.fieldLink "BookPairs$Aligner" 63 "BookPairs$Aligner" "rightCount" "I" ∈ TB := tb1 96 (by decide +kernel) (by decide +kernel)
theorem mw60 : Cond.methodLink "BookPairs$Aligner" 64 ⟨"BookPairs$Books", "hasPair", "(III)Z"⟩ ∈ TB := tb2 33 (by decide +kernel) (by decide +kernel)
theorem mw61 : Cond.constant "BookPairs$Aligner" 72 1000000 ∈ TB := tb2 57 (by decide +kernel) (by decide +kernel)
theorem mw62 : Cond.fieldLink "BookPairs$Aligner" 9 "BookPairs$Aligner" "pairCosts" "[I" ∈ TB := tb1 84 (by decide +kernel) (by decide +kernel)
theorem mw63 : Cond.methodLink "BookPairs$Aligner" 68 ⟨"BookPairs$Books", "pairCost", "(III)I"⟩ ∈ TB := tb2 46 (by decide +kernel) (by decide +kernel)
theorem mw64 : Cond.methodLink "BookPairs$Aligner" 85 ⟨"BookPairs$Aligner", "end", "()I"⟩ ∈ TB := tb2 67 (by decide +kernel) (by decide +kernel)
theorem mw65 : Cond.fieldLink "BookPairs$Aligner" 24 "BookPairs$Aligner" "firstSorts" "[I" ∈ TB := tb1 88 (by decide +kernel) (by decide +kernel)
theorem mw66 : Cond.fieldLink "BookPairs$Aligner" 15 "BookPairs$Aligner" "leastCosts" "[I" ∈ TB := tb1 85 (by decide +kernel) (by decide +kernel)
theorem mw67 : Cond.methodLink "BookPairs$Aligner" 73 ⟨"java/lang/Math", "abs", "(I)I"⟩ ∈ TB := tb2 62 (by decide +kernel) (by decide +kernel)
theorem mw68 : Cond.methodLink "BookPairs$Aligner" 78 ⟨"BookPairs$Aligner", "fillLeast", "(I)V"⟩ ∈ TB := tb2 63 (by decide +kernel) (by decide +kernel)
theorem mw69 : Cond.methodLink "BookPairs$Aligner" 82 ⟨"BookPairs$Aligner", "orNone", "(I)I"⟩ ∈ TB := tb2 73 (by decide +kernel) (by decide +kernel)
theorem mw70 : Cond.fieldLink "BookPairs$Aligner" 18 "BookPairs$Aligner" "nextCosts" "[I" ∈ TB := tb1 86 (by decide +kernel) (by decide +kernel)
theorem mw71 : Cond.methodLink "BookPairs$Aligner" 99 ⟨"java/lang/Math", "min", "(II)I"⟩ ∈ TB := tb2 88 (by decide +kernel) (by decide +kernel)
theorem mw72 : Cond.static ⟨"java/lang/Math", "min", "(II)I"⟩ ∈ TB := tb2 89 (by decide +kernel) (by decide +kernel)
theorem mw73 : Cond.fieldLink "BookPairs$Aligner" 21 "BookPairs$Aligner" "alikes" "[I" ∈ TB := tb1 87 (by decide +kernel) (by decide +kernel)
theorem mw74 : Cond.methodLink "BookPairs$Aligner" 95 ⟨"BookPairs$Aligner", "addOthers", "(IIII)V"⟩ ∈ TB := tb2 84 (by decide +kernel) (by decide +kernel)
theorem mw75 : Cond.methodLink "BookPairs$Aligner" 92 ⟨"BookPairs$Aligner", "fillOthersAt", "(I)V"⟩ ∈ TB := tb2 80 (by decide +kernel) (by decide +kernel)
theorem mw76 : Cond.fieldLink "BookPairs$Aligner" 103 "BookPairs$Aligner" "pairCount" "I" ∈ TB := tb1 97 (by decide +kernel) (by decide +kernel)
theorem mw77 : Cond.fieldLink "BookPairs$Aligner" 27 "BookPairs$Aligner" "sorts" "[I" ∈ TB := tb1 89 (by decide +kernel) (by decide +kernel)
theorem mw78 : Cond.fieldLink "BookPairs$Aligner" 30 "BookPairs$Aligner" "leftsAhead" "[I" ∈ TB := tb1 91 (by decide +kernel) (by decide +kernel)
theorem mw79 : Cond.fieldLink "BookPairs$Aligner" 33 "BookPairs$Aligner" "rightsAhead" "[I" ∈ TB := tb1 93 (by decide +kernel) (by decide +kernel)
theorem mw80 : Cond.methodLink "BookPairs$Aligner" 36 ⟨"BookPairs$Aligner", "take", "(LBookPairs$Books;)V"⟩ ∈ TB := tb2 29 (by decide +kernel) (by decide +kernel)
theorem mw81 : Cond.fieldLink "BookPairs$Aligner" 40 "BookPairs$Books" "band" "I" ∈ TB := tb1 53 (by decide +kernel) (by decide +kernel)
theorem mw82 : Cond.methodLink "BookPairs$Aligner" 46 ⟨"BookPairs$Aligner", "leastBy", "(I)I"⟩ ∈ TB := tb2 58 (by decide +kernel) (by decide +kernel)
theorem mw83 : Cond.methodLink "BookPairs$Aligner" 50 ⟨"BookPairs$Aligner", "fillOthers", "()V"⟩ ∈ TB := tb2 76 (by decide +kernel) (by decide +kernel)
theorem mw84 : Cond.methodLink "BookPairs$Aligner" 53 ⟨"BookPairs$Aligner", "walkBest", "()V"⟩ ∈ TB := tb2 91 (by decide +kernel) (by decide +kernel)
theorem mw85 : Cond.fieldLink "BookPairs" 30 "BookPairs" "bestOfNow" "LBookPairs$Aligner;" ∈ TB := tb1 157 (by decide +kernel) (by decide +kernel)
theorem mw86 : Cond.methodLink "BookPairs" 262 ⟨"BookPairs$Aligner", "align", "(LBookPairs$Books;)V"⟩ ∈ TB := tb2 25 (by decide +kernel) (by decide +kernel)
theorem mw87 : Cond.methodLink "BookPairs$Aligner" 109 ⟨"BookPairs$Aligner", "isIn", "(III)Z"⟩ ∈ TB := tb2 100 (by decide +kernel) (by decide +kernel)
theorem mw88 : Cond.methodLink "BookPairs$Aligner" 115 ⟨"BookPairs$Aligner", "setOf", "(II)I"⟩ ∈ TB := tb2 104 (by decide +kernel) (by decide +kernel)
theorem mw89 : Cond.methodLink "BookPairs" 95 ⟨"BookPairs$Books", "hasLeft", "(I)Z"⟩ ∈ TB := tb2 13 (by decide +kernel) (by decide +kernel)
theorem mw90 : Cond.fieldLink "BookPairs" 98 "BookPairs$Books" "leftKinds" "[I" ∈ TB := tb1 27 (by decide +kernel) (by decide +kernel)
theorem mw91 : Cond.fieldLink "BookPairs" 101 "BookPairs$Books" "leftLetters" "[I" ∈ TB := tb1 30 (by decide +kernel) (by decide +kernel)
theorem mw92 : Cond.methodLink "BookPairs" 104 ⟨"BookPairs$Books", "leftLength", "(I)I"⟩ ∈ TB := tb2 17 (by decide +kernel) (by decide +kernel)
theorem mw93 : Cond.fieldLink "BookPairs" 107 "BookPairs$Books" "leftAnchors" "[I" ∈ TB := tb1 33 (by decide +kernel) (by decide +kernel)
theorem mw94 : Cond.methodLink "BookPairs" 110 ⟨"BookPairs", "alignmentOfNow", "()LBookPairs$Aligner;"⟩ ∈ TB := tb2 21 (by decide +kernel) (by decide +kernel)
theorem mw95 : Cond.methodLink "BookPairs" 114 ⟨"BookPairs$Aligner", "rightsWith", "(I)I"⟩ ∈ TB := tb2 95 (by decide +kernel) (by decide +kernel)
theorem mw96 : Cond.methodLink "BookPairs" 117 ⟨"BookPairs$Books", "hasRight", "(I)Z"⟩ ∈ TB := tb2 111 (by decide +kernel) (by decide +kernel)
theorem mw97 : Cond.fieldLink "BookPairs" 120 "BookPairs$Books" "rightLetters" "[I" ∈ TB := tb1 36 (by decide +kernel) (by decide +kernel)
theorem mw98 : Cond.fieldLink "BookPairs" 123 "BookPairs$Books" "rightAnchors" "[I" ∈ TB := tb1 39 (by decide +kernel) (by decide +kernel)
theorem mw99 : Cond.methodLink "BookPairs" 126 ⟨"BookPairs$Aligner", "leftsWith", "(I)I"⟩ ∈ TB := tb2 112 (by decide +kernel) (by decide +kernel)
theorem mw100 : Cond.methodLink "BookPairs" 129 ⟨"BookPairs", "isLetters", "(I)Z"⟩ ∈ TB := tb2 120 (by decide +kernel) (by decide +kernel)
theorem mw101 : Cond.methodLink "BookPairs" 132 ⟨"BookPairs$Books", "areThere", "()Z"⟩ ∈ TB := tb2 127 (by decide +kernel) (by decide +kernel)
theorem mw102 : Cond.methodLink "BookPairs" 136 ⟨"BookPairs", "isPrice", "(II)Z"⟩ ∈ TB := tb2 131 (by decide +kernel) (by decide +kernel)
theorem mw103 : Cond.methodLink "BookPairs" 139 ⟨"BookPairs$Books", "priceOf", "(I)I"⟩ ∈ TB := tb2 134 (by decide +kernel) (by decide +kernel)
theorem mw104 : Cond.methodLink "BookPairs" 142 ⟨"BookPairs$Books", "setPrice", "(II)V"⟩ ∈ TB := tb2 138 (by decide +kernel) (by decide +kernel)
theorem mw105 : Cond.methodLink "BookPairs" 146 ⟨"BookPairs$Books", "takeMoved", "(LBookPairs$Books;III)V"⟩ ∈ TB := tb2 146 (by decide +kernel) (by decide +kernel)
theorem mw106 : Cond.methodLink "BookPairs" 150 ⟨"BookPairs$Aligner", "answer", "(I)I"⟩ ∈ TB := tb2 154 (by decide +kernel) (by decide +kernel)
theorem mw107 : Cond.fieldLink "BookPairs" 153 "BookPairs$Aligner" "pairCount" "I" ∈ TB := tb1 98 (by decide +kernel) (by decide +kernel)
theorem mw108 : Cond.fieldLink "BookPairs" 156 "BookPairs$Aligner" "sorts" "[I" ∈ TB := tb1 90 (by decide +kernel) (by decide +kernel)
theorem mw109 : Cond.fieldLink "BookPairs" 159 "BookPairs$Aligner" "leftsAhead" "[I" ∈ TB := tb1 92 (by decide +kernel) (by decide +kernel)
theorem mw110 : Cond.fieldLink "BookPairs" 162 "BookPairs$Aligner" "rightsAhead" "[I" ∈ TB := tb1 94 (by decide +kernel) (by decide +kernel)
theorem mw111 : Cond.methodLink "BookPairs" 165 ⟨"BookPairs$Aligner", "costOfPair", "(I)I"⟩ ∈ TB := tb2 162 (by decide +kernel) (by decide +kernel)
theorem mw112 : Cond.methodLink "BookPairs" 168 ⟨"BookPairs", "isSort", "(I)Z"⟩ ∈ TB := tb2 170 (by decide +kernel) (by decide +kernel)
theorem mw113 : Cond.methodLink "BookPairs" 171 ⟨"BookPairs$Books", "hasPair", "(III)Z"⟩ ∈ TB := tb2 173 (by decide +kernel) (by decide +kernel)
theorem mw114 : Cond.methodLink "BookPairs" 175 ⟨"BookPairs$Books", "pairCost", "(III)I"⟩ ∈ TB := tb2 174 (by decide +kernel) (by decide +kernel)
theorem mw115 : Cond.fieldLink "BookPairs" 217 "BookPairs$Sheet" "cells" "[I" ∈ TB := tb1 139 (by decide +kernel) (by decide +kernel)
theorem mw116 : Cond.methodLink "BookPairs" 259 ⟨"BookPairs", "isAct", "(II)Z"⟩ ∈ TB := tb2 185 (by decide +kernel) (by decide +kernel)
theorem mw117 : Cond.methodLink "BookPairs$Books" 49 ⟨"BookPairs$Books", "setPrice", "(II)V"⟩ ∈ TB := tb2 196 (by decide +kernel) (by decide +kernel)
theorem mw118 : Cond.methodLink "BookPairs" 265 ⟨"BookPairs$Books", "takeAct", "(II)Z"⟩ ∈ TB := tb2 192 (by decide +kernel) (by decide +kernel)
theorem mw119 : Cond.fieldLink "BookPairs" 34 "BookPairs" "trial" "LBookPairs$Aligner;" ∈ TB := tb1 158 (by decide +kernel) (by decide +kernel)
theorem mw120 : Cond.methodLink "BookPairs" 179 ⟨"BookPairs", "isAskedOfDay", "(I)Z"⟩ ∈ TB := tb2 179 (by decide +kernel) (by decide +kernel)
theorem mw121 : Cond.methodLink "BookPairs" 182 ⟨"BookPairs", "areActs", "(LBookPairs$Sheet;II)Z"⟩ ∈ TB := tb2 182 (by decide +kernel) (by decide +kernel)
theorem mw122 : Cond.methodLink "BookPairs" 186 ⟨"BookPairs", "supposeDay", "(LBookPairs$Sheet;II)I"⟩ ∈ TB := tb2 188 (by decide +kernel) (by decide +kernel)
theorem mw123 : Cond.methodLink "BookPairs" 190 ⟨"BookPairs", "answerOfDay", "(II)I"⟩ ∈ TB := tb2 197 (by decide +kernel) (by decide +kernel)
theorem mw124 : Cond.methodLink "BookPairs" 194 ⟨"BookPairs$Aligner", "take", "(LBookPairs$Books;)V"⟩ ∈ TB := tb2 205 (by decide +kernel) (by decide +kernel)
theorem mw125 : Cond.methodLink "BookPairs" 197 ⟨"BookPairs$Aligner", "leastBy", "(I)I"⟩ ∈ TB := tb2 206 (by decide +kernel) (by decide +kernel)
theorem mw126 : Cond.fieldLink "BookPairs" 44 "BookPairs" "readingBands" "[I" ∈ TB := tb1 160 (by decide +kernel) (by decide +kernel)
theorem mw127 : Cond.fieldLink "BookPairs" 48 "BookPairs" "readingCosts" "[I" ∈ TB := tb1 161 (by decide +kernel) (by decide +kernel)
theorem mw128 : Cond.methodLink "BookPairs" 200 ⟨"BookPairs", "readingsHoldIfSupposed", "()Z"⟩ ∈ TB := tb2 223 (by decide +kernel) (by decide +kernel)
theorem mw129 : Cond.constantLong "BookPairs" 203 (-9223372036854775808) ∈ TB := tb2 235 (by decide +kernel) (by decide +kernel)
theorem mw130 : Cond.methodLink "BookPairs" 205 ⟨"BookPairs$Aligner", "howManyOf", "(I)I"⟩ ∈ TB := tb2 236 (by decide +kernel) (by decide +kernel)
theorem mw131 : Cond.methodLink "BookPairs" 208 ⟨"BookPairs", "commonDivisor", "(II)I"⟩ ∈ TB := tb3 0 (by decide +kernel) (by decide +kernel)
theorem mw132 : Cond.fieldLink "BookPairs$Sheet" 9 "BookPairs$Sheet" "cells" "[I" ∈ TB := tb1 137 (by decide +kernel) (by decide +kernel)
theorem mw133 : Cond.methodLink "BookPairs$Sheet" 26 ⟨"java/util/Arrays", "fill", "([II)V"⟩ ∈ TB := tb3 11 (by decide +kernel) (by decide +kernel)
theorem mw134 : Cond.methodLink "BookPairs" 211 ⟨"BookPairs$Sheet", "begin", "(II)V"⟩ ∈ TB := tb3 7 (by decide +kernel) (by decide +kernel)
theorem mw135 : Cond.fieldLink "BookPairs" 214 "BookPairs$Sheet" "there" "Z" ∈ TB := tb1 141 (by decide +kernel) (by decide +kernel)
theorem mw136 : Cond.methodLink "BookPairs" 220 ⟨"BookPairs$Sheet", "cut", "(I)I"⟩ ∈ TB := tb3 22 (by decide +kernel) (by decide +kernel)
theorem mw137 : Cond.fieldLink "BookPairs" 223 "BookPairs$Sheet" "lane" "I" ∈ TB := tb1 143 (by decide +kernel) (by decide +kernel)
theorem mw138 : Cond.methodLink "BookPairs" 226 ⟨"java/lang/System", "arraycopy", "(Ljava/lang/Object;ILjava/lang/Object;II)V"⟩ ∈ TB := tb3 34 (by decide +kernel) (by decide +kernel)
theorem mw139 : Cond.fieldLink "BookPairs" 247 "BookPairs" "trace" "I" ∈ TB := tb1 164 (by decide +kernel) (by decide +kernel)
theorem mw140 : Cond.methodLink "BookPairs" 268 ⟨"BookPairs", "leaveTrace", "(I)V"⟩ ∈ TB := tb3 43 (by decide +kernel) (by decide +kernel)
theorem mw141 : Cond.methodLink "BookPairs" 238 ⟨"BookPairs", "plainBody", "(I)I"⟩ ∈ TB := tb3 51 (by decide +kernel) (by decide +kernel)
theorem mw142 : Cond.methodLink "BookPairs" 235 ⟨"BookPairs", "longBody", "(I)I"⟩ ∈ TB := tb3 47 (by decide +kernel) (by decide +kernel)
theorem mw143 : Cond.methodLink "BookPairs" 232 ⟨"BookPairs", "doubleBody", "(I)I"⟩ ∈ TB := tb3 39 (by decide +kernel) (by decide +kernel)
theorem mw144 : Cond.methodLink "BookPairs" 244 ⟨"BookPairs", "lentBody", "(I)I"⟩ ∈ TB := tb3 63 (by decide +kernel) (by decide +kernel)
theorem mw145 : Cond.methodLink "BookPairs" 241 ⟨"BookPairs", "doublesOwnBody", "(I)I"⟩ ∈ TB := tb3 59 (by decide +kernel) (by decide +kernel)
theorem mw146 : Cond.fieldLink "BookPairs" 250 "BookPairs$Books" "skip" "I" ∈ TB := tb1 50 (by decide +kernel) (by decide +kernel)
theorem mw147 : Cond.fieldLink "BookPairs" 253 "BookPairs$Books" "join" "I" ∈ TB := tb1 52 (by decide +kernel) (by decide +kernel)
theorem mw148 : Cond.fieldLink "BookPairs" 256 "BookPairs$Books" "band" "I" ∈ TB := tb1 55 (by decide +kernel) (by decide +kernel)
theorem mw149 : Cond.fieldLink "BookPairsModel" 70 "BookPairsModel" "fault" "I" ∈ TB := tb3 89 (by decide +kernel) (by decide +kernel)
theorem mw150 : Cond.constantLong "BookPairsModel" 74 (-9223372036854775808) ∈ TB := tb4 136 (by decide +kernel) (by decide +kernel)
theorem mw151 : Cond.methodLink "BookPairsModel" 76 ⟨"BookPairsModel", "within", "(III)Z"⟩ ∈ TB := tb3 193 (by decide +kernel) (by decide +kernel)
theorem mw152 : Cond.fieldLink "BookPairsModel" 9 "BookPairsModel" "sorts" "[I" ∈ TB := tb3 91 (by decide +kernel) (by decide +kernel)
theorem mw153 : Cond.fieldLink "BookPairsModel" 13 "BookPairsModel" "sheetLong" "[I" ∈ TB := tb3 92 (by decide +kernel) (by decide +kernel)
theorem mw154 : Cond.fieldLink "BookPairsModel" 80 "BookPairsModel" "lefts" "I" ∈ TB := tb3 94 (by decide +kernel) (by decide +kernel)
theorem mw155 : Cond.fieldLink "BookPairsModel" 83 "BookPairsModel" "rights" "I" ∈ TB := tb3 95 (by decide +kernel) (by decide +kernel)
theorem mw156 : Cond.fieldLink "BookPairsModel" 86 "BookPairsModel" "at" "I" ∈ TB := tb3 104 (by decide +kernel) (by decide +kernel)
theorem mw157 : Cond.fieldLink "BookPairsModel" 16 "BookPairsModel" "cells" "[I" ∈ TB := tb3 93 (by decide +kernel) (by decide +kernel)
theorem mw158 : Cond.fieldLink "BookPairsModel" 34 "BookPairsModel" "readKind" "[I" ∈ TB := tb3 107 (by decide +kernel) (by decide +kernel)
theorem mw159 : Cond.fieldLink "BookPairsModel" 107 "BookPairsModel" "readLefts" "I" ∈ TB := tb3 105 (by decide +kernel) (by decide +kernel)
theorem mw160 : Cond.fieldLink "BookPairsModel" 37 "BookPairsModel" "readLetters" "[I" ∈ TB := tb3 108 (by decide +kernel) (by decide +kernel)
theorem mw161 : Cond.fieldLink "BookPairsModel" 40 "BookPairsModel" "readAnchor" "[I" ∈ TB := tb3 109 (by decide +kernel) (by decide +kernel)
theorem mw162 : Cond.fieldLink "BookPairsModel" 110 "BookPairsModel" "readRights" "I" ∈ TB := tb3 106 (by decide +kernel) (by decide +kernel)
theorem mw163 : Cond.methodLink "BookPairsModel" 125 ⟨"BookPairsModel", "isSign", "(II)Z"⟩ ∈ TB := tb3 211 (by decide +kernel) (by decide +kernel)
theorem mw164 : Cond.methodLink "BookPairsModel" 129 ⟨"BookPairsModel", "readKindNext", "(I)Z"⟩ ∈ TB := tb3 215 (by decide +kernel) (by decide +kernel)
theorem mw165 : Cond.methodLink "BookPairsModel" 132 ⟨"BookPairsModel", "readSentence", "(II)Z"⟩ ∈ TB := tb3 219 (by decide +kernel) (by decide +kernel)
theorem mw166 : Cond.methodLink "BookPairsModel" 89 ⟨"BookPairsModel", "isSheet", "(I)Z"⟩ ∈ TB := tb3 190 (by decide +kernel) (by decide +kernel)
theorem mw167 : Cond.methodLink "BookPairsModel" 93 ⟨"BookPairsModel", "isSort", "(I)Z"⟩ ∈ TB := tb3 196 (by decide +kernel) (by decide +kernel)
theorem mw168 : Cond.methodLink "BookPairsModel" 96 ⟨"BookPairsModel", "against", "(IIII)I"⟩ ∈ TB := tb3 199 (by decide +kernel) (by decide +kernel)
theorem mw169 : Cond.methodLink "BookPairsModel" 104 ⟨"BookPairsModel", "readAll", "(I)Z"⟩ ∈ TB := tb3 207 (by decide +kernel) (by decide +kernel)
theorem mw170 : Cond.fieldLink "BookPairsModel" 19 "BookPairsModel" "kind" "[I" ∈ TB := tb3 99 (by decide +kernel) (by decide +kernel)
theorem mw171 : Cond.fieldLink "BookPairsModel" 22 "BookPairsModel" "leftLetters" "[I" ∈ TB := tb3 100 (by decide +kernel) (by decide +kernel)
theorem mw172 : Cond.fieldLink "BookPairsModel" 25 "BookPairsModel" "leftAnchor" "[I" ∈ TB := tb3 101 (by decide +kernel) (by decide +kernel)
theorem mw173 : Cond.fieldLink "BookPairsModel" 28 "BookPairsModel" "rightLetters" "[I" ∈ TB := tb3 102 (by decide +kernel) (by decide +kernel)
theorem mw174 : Cond.fieldLink "BookPairsModel" 31 "BookPairsModel" "rightAnchor" "[I" ∈ TB := tb3 103 (by decide +kernel) (by decide +kernel)
theorem mw175 : Cond.fieldLink "BookPairsModel" 113 "BookPairsModel" "skip" "I" ∈ TB := tb3 96 (by decide +kernel) (by decide +kernel)
theorem mw176 : Cond.fieldLink "BookPairsModel" 116 "BookPairsModel" "join" "I" ∈ TB := tb3 97 (by decide +kernel) (by decide +kernel)
theorem mw177 : Cond.fieldLink "BookPairsModel" 119 "BookPairsModel" "band" "I" ∈ TB := tb3 98 (by decide +kernel) (by decide +kernel)
theorem mw178 : Cond.fieldLink "BookPairsModel" 122 "BookPairsModel" "readings" "I" ∈ TB := tb3 118 (by decide +kernel) (by decide +kernel)
theorem mw179 : Cond.methodLink "BookPairsModel" 100 ⟨"BookPairsModel", "fails", "(I)I"⟩ ∈ TB := tb3 203 (by decide +kernel) (by decide +kernel)
theorem mw180 : Cond.methodLink "BookPairsModel" 138 ⟨"BookPairsModel", "leftsOf", "(I)I"⟩ ∈ TB := tb4 12 (by decide +kernel) (by decide +kernel)
theorem mw181 : Cond.methodLink "BookPairsModel" 135 ⟨"BookPairsModel", "lengthOf", "(I)I"⟩ ∈ TB := tb3 231 (by decide +kernel) (by decide +kernel)
theorem mw182 : Cond.methodLink "BookPairsModel" 141 ⟨"BookPairsModel", "anchorSet", "(I)I"⟩ ∈ TB := tb4 22 (by decide +kernel) (by decide +kernel)
theorem mw183 : Cond.methodLink "BookPairsModel" 144 ⟨"BookPairsModel", "rightsOf", "(I)I"⟩ ∈ TB := tb4 15 (by decide +kernel) (by decide +kernel)
theorem mw184 : Cond.constant "BookPairsModel" 147 99999 ∈ TB := tb4 7 (by decide +kernel) (by decide +kernel)
theorem mw185 : Cond.fieldLink "BookPairsModel" 43 "BookPairsModel" "least" "[I" ∈ TB := tb3 110 (by decide +kernel) (by decide +kernel)
theorem mw186 : Cond.fieldLink "BookPairsModel" 46 "BookPairsModel" "next" "[I" ∈ TB := tb3 111 (by decide +kernel) (by decide +kernel)
theorem mw187 : Cond.fieldLink "BookPairsModel" 49 "BookPairsModel" "alike" "[I" ∈ TB := tb3 112 (by decide +kernel) (by decide +kernel)
theorem mw188 : Cond.methodLink "BookPairsModel" 148 ⟨"BookPairsModel", "isStand", "(III)Z"⟩ ∈ TB := tb4 8 (by decide +kernel) (by decide +kernel)
theorem mw189 : Cond.methodLink "BookPairsModel" 151 ⟨"BookPairsModel", "costOf", "(III)I"⟩ ∈ TB := tb4 18 (by decide +kernel) (by decide +kernel)
theorem mw190 : Cond.methodLink "BookPairsModel" 155 ⟨"BookPairsModel", "comes", "(III)V"⟩ ∈ TB := tb4 25 (by decide +kernel) (by decide +kernel)
theorem mw191 : Cond.methodLink "BookPairsModel" 159 ⟨"BookPairsModel", "findStand", "(III)V"⟩ ∈ TB := tb4 3 (by decide +kernel) (by decide +kernel)
theorem mw192 : Cond.methodLink "BookPairsModel" 162 ⟨"BookPairsModel", "findAll", "(I)I"⟩ ∈ TB := tb3 239 (by decide +kernel) (by decide +kernel)
theorem mw193 : Cond.fieldLink "BookPairsModel" 165 "BookPairsModel" "pairs" "I" ∈ TB := tb3 113 (by decide +kernel) (by decide +kernel)
theorem mw194 : Cond.methodLink "BookPairsModel" 168 ⟨"BookPairsModel", "isOnBest", "(III)Z"⟩ ∈ TB := tb4 29 (by decide +kernel) (by decide +kernel)
theorem mw195 : Cond.fieldLink "BookPairsModel" 52 "BookPairsModel" "pairSort" "[I" ∈ TB := tb3 114 (by decide +kernel) (by decide +kernel)
theorem mw196 : Cond.fieldLink "BookPairsModel" 55 "BookPairsModel" "pairLeft" "[I" ∈ TB := tb3 115 (by decide +kernel) (by decide +kernel)
theorem mw197 : Cond.fieldLink "BookPairsModel" 58 "BookPairsModel" "pairRight" "[I" ∈ TB := tb3 116 (by decide +kernel) (by decide +kernel)
theorem mw198 : Cond.methodLink "BookPairsModel" 171 ⟨"BookPairsModel", "isLeft", "(I)Z"⟩ ∈ TB := tb3 227 (by decide +kernel) (by decide +kernel)
theorem mw199 : Cond.methodLink "BookPairsModel" 174 ⟨"BookPairsModel", "findBest", "()I"⟩ ∈ TB := tb3 235 (by decide +kernel) (by decide +kernel)
theorem mw200 : Cond.methodLink "BookPairsModel" 178 ⟨"BookPairsModel", "pairedWith", "(II)I"⟩ ∈ TB := tb4 33 (by decide +kernel) (by decide +kernel)
theorem mw201 : Cond.methodLink "BookPairsModel" 182 ⟨"BookPairsModel", "isRight", "(I)Z"⟩ ∈ TB := tb4 41 (by decide +kernel) (by decide +kernel)
theorem mw202 : Cond.methodLink "BookPairsModel" 185 ⟨"BookPairsModel", "goesUp", "(I)V"⟩ ∈ TB := tb4 57 (by decide +kernel) (by decide +kernel)
theorem mw203 : Cond.methodLink "BookPairsModel" 189 ⟨"BookPairsModel", "tellBest", "(I)I"⟩ ∈ TB := tb4 65 (by decide +kernel) (by decide +kernel)
theorem mw204 : Cond.fieldLink "BookPairsModel" 61 "BookPairsModel" "kept" "[I" ∈ TB := tb3 117 (by decide +kernel) (by decide +kernel)
theorem mw205 : Cond.methodLink "BookPairsModel" 192 ⟨"BookPairsModel", "does", "(II)Z"⟩ ∈ TB := tb4 92 (by decide +kernel) (by decide +kernel)
theorem mw206 : Cond.methodLink "BookPairsModel" 195 ⟨"BookPairsModel", "isPair", "(II)Z"⟩ ∈ TB := tb4 81 (by decide +kernel) (by decide +kernel)
theorem mw207 : Cond.methodLink "BookPairsModel" 198 ⟨"BookPairsModel", "keep", "()V"⟩ ∈ TB := tb4 84 (by decide +kernel) (by decide +kernel)
theorem mw208 : Cond.methodLink "BookPairsModel" 201 ⟨"BookPairsModel", "goDay", "(II)I"⟩ ∈ TB := tb4 88 (by decide +kernel) (by decide +kernel)
theorem mw209 : Cond.methodLink "BookPairsModel" 204 ⟨"BookPairsModel", "tellDay", "(I)I"⟩ ∈ TB := tb4 96 (by decide +kernel) (by decide +kernel)
theorem mw210 : Cond.methodLink "BookPairsModel" 207 ⟨"BookPairsModel", "putBack", "()V"⟩ ∈ TB := tb4 100 (by decide +kernel) (by decide +kernel)
theorem mw211 : Cond.fieldLink "BookPairsModel" 64 "BookPairsModel" "readBand" "[I" ∈ TB := tb3 119 (by decide +kernel) (by decide +kernel)
theorem mw212 : Cond.fieldLink "BookPairsModel" 67 "BookPairsModel" "readCost" "[I" ∈ TB := tb3 120 (by decide +kernel) (by decide +kernel)
theorem mw213 : Cond.methodLink "BookPairsModel" 210 ⟨"BookPairsModel", "areSo", "()Z"⟩ ∈ TB := tb4 124 (by decide +kernel) (by decide +kernel)
theorem mw214 : Cond.methodLink "BookPairsModel" 214 ⟨"BookPairsModel", "inLeastTerms", "(JJI)J"⟩ ∈ TB := tb4 137 (by decide +kernel) (by decide +kernel)
theorem mw215 : Cond.methodLink "BookPairsModel" 218 ⟨"BookPairsModel", "lost", "(I)J"⟩ ∈ TB := tb4 156 (by decide +kernel) (by decide +kernel)
theorem mw216 : Cond.fieldLink "BookPairsModel" 222 "BookPairsModel" "trace" "I" ∈ TB := tb3 90 (by decide +kernel) (by decide +kernel)
theorem mw217 : Cond.methodLink "BookPairsModel" 225 ⟨"BookPairsModel", "begins", "(I)V"⟩ ∈ TB := tb4 168 (by decide +kernel) (by decide +kernel)
theorem mw218 : Cond.static ⟨"BookPairs$TextTaker", "anchorOf", "(I)I"⟩ ∈ TB := tb1 236 (by decide +kernel) (by decide +kernel)
theorem mw219 : Cond.initialized "BookPairs$TextTaker" ∈ TB := tb1 4 (by decide +kernel) (by decide +kernel)
theorem mw220 : Cond.static ⟨"BookPairs$TextTaker", "isDigit", "(I)Z"⟩ ∈ TB := tb1 233 (by decide +kernel) (by decide +kernel)
theorem mw221 : Cond.static ⟨"BookPairs$TextTaker", "kindOf", "(I)I"⟩ ∈ TB := tb1 230 (by decide +kernel) (by decide +kernel)
theorem mw222 : Cond.instanceMethod ⟨"BookPairs$TextTaker", "goesOnInLeft", "(ILBookPairs$Books;)Z"⟩ ∈ TB := tb1 227 (by decide +kernel) (by decide +kernel)
theorem mw223 : Cond.selects "BookPairs$TextTaker" ⟨"BookPairs$TextTaker", "goesOnInLeft", "(ILBookPairs$Books;)Z"⟩ ⟨"BookPairs$TextTaker", "goesOnInLeft", "(ILBookPairs$Books;)Z"⟩ ∈ TB := tbp 2 (by decide +kernel) (by decide +kernel)
theorem mw224 : Cond.instanceMethod ⟨"BookPairs$TextTaker", "goesOnInRight", "(ILBookPairs$Books;)Z"⟩ ∈ TB := tb2 0 (by decide +kernel) (by decide +kernel)
theorem mw225 : Cond.selects "BookPairs$TextTaker" ⟨"BookPairs$TextTaker", "goesOnInRight", "(ILBookPairs$Books;)Z"⟩ ⟨"BookPairs$TextTaker", "goesOnInRight", "(ILBookPairs$Books;)Z"⟩ ∈ TB := tbp 3 (by decide +kernel) (by decide +kernel)
theorem mw226 : Cond.instanceMethod ⟨"BookPairs$Books", "begin", "()V"⟩ ∈ TB := tb1 218 (by decide +kernel) (by decide +kernel)
theorem mw227 : Cond.selects "BookPairs$Books" ⟨"BookPairs$Books", "begin", "()V"⟩ ⟨"BookPairs$Books", "begin", "()V"⟩ ∈ TB := tb1 219 (by decide +kernel) (by decide +kernel)
theorem mw228 : Cond.initialized "BookPairs$Books" ∈ TB := tb1 2 (by decide +kernel) (by decide +kernel)
theorem mw229 : Cond.instanceMethod ⟨"BookPairs$TextTaker", "goesOn", "(ILBookPairs$Books;)Z"⟩ ∈ TB := tb1 223 (by decide +kernel) (by decide +kernel)
theorem mw230 : Cond.selects "BookPairs$TextTaker" ⟨"BookPairs$TextTaker", "goesOn", "(ILBookPairs$Books;)Z"⟩ ⟨"BookPairs$TextTaker", "goesOn", "(ILBookPairs$Books;)Z"⟩ ∈ TB := tbp 1 (by decide +kernel) (by decide +kernel)
theorem mw231 : Cond.static ⟨"BookPairs", "isSheet", "(I)Z"⟩ ∈ TB := tb1 196 (by decide +kernel) (by decide +kernel)
theorem mw232 : Cond.initialized "BookPairs" ∈ TB := tb1 1 (by decide +kernel) (by decide +kernel)
theorem mw233 : Cond.static ⟨"BookPairs", "isLane", "(I)Z"⟩ ∈ TB := tb1 199 (by decide +kernel) (by decide +kernel)
theorem mw234 : Cond.instanceMethod ⟨"BookPairs$Sheet", "faultAs", "(I)I"⟩ ∈ TB := tb1 202 (by decide +kernel) (by decide +kernel)
theorem mw235 : Cond.selects "BookPairs$Sheet" ⟨"BookPairs$Sheet", "faultAs", "(I)I"⟩ ⟨"BookPairs$Sheet", "faultAs", "(I)I"⟩ ∈ TB := tb1 203 (by decide +kernel) (by decide +kernel)
theorem mw236 : Cond.initialized "BookPairs$Sheet" ∈ TB := tb1 5 (by decide +kernel) (by decide +kernel)
theorem mw237 : Cond.instanceMethod ⟨"BookPairs$TextTaker", "firstFault", "(LBookPairs$Sheet;IILBookPairs$Books;)I"⟩ ∈ TB := tb1 214 (by decide +kernel) (by decide +kernel)
theorem mw238 : Cond.selects "BookPairs$TextTaker" ⟨"BookPairs$TextTaker", "firstFault", "(LBookPairs$Sheet;IILBookPairs$Books;)I"⟩ ⟨"BookPairs$TextTaker", "firstFault", "(LBookPairs$Sheet;IILBookPairs$Books;)I"⟩ ∈ TB := tb1 215 (by decide +kernel) (by decide +kernel)
theorem mw239 : Cond.instanceMethod ⟨"BookPairs$Books", "becomeLike", "(LBookPairs$Books;)V"⟩ ∈ TB := tb2 3 (by decide +kernel) (by decide +kernel)
theorem mw240 : Cond.selects "BookPairs$Books" ⟨"BookPairs$Books", "becomeLike", "(LBookPairs$Books;)V"⟩ ⟨"BookPairs$Books", "becomeLike", "(LBookPairs$Books;)V"⟩ ∈ TB := tb2 4 (by decide +kernel) (by decide +kernel)
theorem mw241 : Cond.instanceMethod ⟨"BookPairs", "failed", "(I)I"⟩ ∈ TB := tb1 211 (by decide +kernel) (by decide +kernel)
theorem mw242 : Cond.selects "BookPairs" ⟨"BookPairs", "failed", "(I)I"⟩ ⟨"BookPairs", "failed", "(I)I"⟩ ∈ TB := tbp 0 (by decide +kernel) (by decide +kernel)
theorem mw243 : Cond.instanceMethod ⟨"BookPairs$Sheet", "hasCells", "(II)Z"⟩ ∈ TB := tb1 206 (by decide +kernel) (by decide +kernel)
theorem mw244 : Cond.selects "BookPairs$Sheet" ⟨"BookPairs$Sheet", "hasCells", "(II)Z"⟩ ⟨"BookPairs$Sheet", "hasCells", "(II)Z"⟩ ∈ TB := tb1 207 (by decide +kernel) (by decide +kernel)
theorem mw245 : Cond.instanceMethod ⟨"BookPairs$Books", "hasRight", "(I)Z"⟩ ∈ TB := tb2 43 (by decide +kernel) (by decide +kernel)
theorem mw246 : Cond.selects "BookPairs$Books" ⟨"BookPairs$Books", "hasRight", "(I)Z"⟩ ⟨"BookPairs$Books", "hasRight", "(I)Z"⟩ ∈ TB := tb2 44 (by decide +kernel) (by decide +kernel)
theorem mw247 : Cond.instanceMethod ⟨"BookPairs$Books", "hasLeft", "(I)Z"⟩ ∈ TB := tb2 14 (by decide +kernel) (by decide +kernel)
theorem mw248 : Cond.selects "BookPairs$Books" ⟨"BookPairs$Books", "hasLeft", "(I)Z"⟩ ⟨"BookPairs$Books", "hasLeft", "(I)Z"⟩ ∈ TB := tb2 15 (by decide +kernel) (by decide +kernel)
theorem mw249 : Cond.instanceMethod ⟨"BookPairs$Books", "leftLength", "(I)I"⟩ ∈ TB := tb2 18 (by decide +kernel) (by decide +kernel)
theorem mw250 : Cond.selects "BookPairs$Books" ⟨"BookPairs$Books", "leftLength", "(I)I"⟩ ⟨"BookPairs$Books", "leftLength", "(I)I"⟩ ∈ TB := tb2 19 (by decide +kernel) (by decide +kernel)
theorem mw251 : Cond.static ⟨"BookPairs$Books", "anchorSet", "(I)I"⟩ ∈ TB := tb2 52 (by decide +kernel) (by decide +kernel)
theorem mw252 : Cond.instanceMethod ⟨"BookPairs$Books", "hasPair", "(III)Z"⟩ ∈ TB := tb2 34 (by decide +kernel) (by decide +kernel)
theorem mw253 : Cond.selects "BookPairs$Books" ⟨"BookPairs$Books", "hasPair", "(III)Z"⟩ ⟨"BookPairs$Books", "hasPair", "(III)Z"⟩ ∈ TB := tb2 35 (by decide +kernel) (by decide +kernel)
theorem mw254 : Cond.instanceMethod ⟨"BookPairs$Books", "pairCost", "(III)I"⟩ ∈ TB := tb2 47 (by decide +kernel) (by decide +kernel)
theorem mw255 : Cond.selects "BookPairs$Books" ⟨"BookPairs$Books", "pairCost", "(III)I"⟩ ⟨"BookPairs$Books", "pairCost", "(III)I"⟩ ∈ TB := tb2 48 (by decide +kernel) (by decide +kernel)
theorem mw256 : Cond.instanceMethod ⟨"BookPairs$Aligner", "end", "()I"⟩ ∈ TB := tb2 69 (by decide +kernel) (by decide +kernel)
theorem mw257 : Cond.selects "BookPairs$Aligner" ⟨"BookPairs$Aligner", "end", "()I"⟩ ⟨"BookPairs$Aligner", "end", "()I"⟩ ∈ TB := tbp 6 (by decide +kernel) (by decide +kernel)
theorem mw258 : Cond.initialized "BookPairs$Aligner" ∈ TB := tb1 3 (by decide +kernel) (by decide +kernel)
theorem mw259 : Cond.instanceMethod ⟨"BookPairs$Aligner", "fillLeast", "(I)V"⟩ ∈ TB := tb2 65 (by decide +kernel) (by decide +kernel)
theorem mw260 : Cond.selects "BookPairs$Aligner" ⟨"BookPairs$Aligner", "fillLeast", "(I)V"⟩ ⟨"BookPairs$Aligner", "fillLeast", "(I)V"⟩ ∈ TB := tbp 5 (by decide +kernel) (by decide +kernel)
theorem mw261 : Cond.static ⟨"BookPairs$Aligner", "orNone", "(I)I"⟩ ∈ TB := tb2 74 (by decide +kernel) (by decide +kernel)
theorem mw262 : Cond.instanceMethod ⟨"BookPairs$Aligner", "addOthers", "(IIII)V"⟩ ∈ TB := tb2 86 (by decide +kernel) (by decide +kernel)
theorem mw263 : Cond.selects "BookPairs$Aligner" ⟨"BookPairs$Aligner", "addOthers", "(IIII)V"⟩ ⟨"BookPairs$Aligner", "addOthers", "(IIII)V"⟩ ∈ TB := tbp 9 (by decide +kernel) (by decide +kernel)
theorem mw264 : Cond.instanceMethod ⟨"BookPairs$Aligner", "fillOthersAt", "(I)V"⟩ ∈ TB := tb2 82 (by decide +kernel) (by decide +kernel)
theorem mw265 : Cond.selects "BookPairs$Aligner" ⟨"BookPairs$Aligner", "fillOthersAt", "(I)V"⟩ ⟨"BookPairs$Aligner", "fillOthersAt", "(I)V"⟩ ∈ TB := tbp 8 (by decide +kernel) (by decide +kernel)
theorem mw266 : Cond.instanceMethod ⟨"BookPairs$Aligner", "take", "(LBookPairs$Books;)V"⟩ ∈ TB := tb2 30 (by decide +kernel) (by decide +kernel)
theorem mw267 : Cond.selects "BookPairs$Aligner" ⟨"BookPairs$Aligner", "take", "(LBookPairs$Books;)V"⟩ ⟨"BookPairs$Aligner", "take", "(LBookPairs$Books;)V"⟩ ∈ TB := tb2 31 (by decide +kernel) (by decide +kernel)
theorem mw268 : Cond.instanceMethod ⟨"BookPairs$Aligner", "leastBy", "(I)I"⟩ ∈ TB := tb2 59 (by decide +kernel) (by decide +kernel)
theorem mw269 : Cond.selects "BookPairs$Aligner" ⟨"BookPairs$Aligner", "leastBy", "(I)I"⟩ ⟨"BookPairs$Aligner", "leastBy", "(I)I"⟩ ∈ TB := tb2 60 (by decide +kernel) (by decide +kernel)
theorem mw270 : Cond.instanceMethod ⟨"BookPairs$Aligner", "fillOthers", "()V"⟩ ∈ TB := tb2 78 (by decide +kernel) (by decide +kernel)
theorem mw271 : Cond.selects "BookPairs$Aligner" ⟨"BookPairs$Aligner", "fillOthers", "()V"⟩ ⟨"BookPairs$Aligner", "fillOthers", "()V"⟩ ∈ TB := tbp 7 (by decide +kernel) (by decide +kernel)
theorem mw272 : Cond.instanceMethod ⟨"BookPairs$Aligner", "walkBest", "()V"⟩ ∈ TB := tb2 93 (by decide +kernel) (by decide +kernel)
theorem mw273 : Cond.selects "BookPairs$Aligner" ⟨"BookPairs$Aligner", "walkBest", "()V"⟩ ⟨"BookPairs$Aligner", "walkBest", "()V"⟩ ∈ TB := tbp 10 (by decide +kernel) (by decide +kernel)
theorem mw274 : Cond.instanceMethod ⟨"BookPairs$Aligner", "align", "(LBookPairs$Books;)V"⟩ ∈ TB := tb2 26 (by decide +kernel) (by decide +kernel)
theorem mw275 : Cond.selects "BookPairs$Aligner" ⟨"BookPairs$Aligner", "align", "(LBookPairs$Books;)V"⟩ ⟨"BookPairs$Aligner", "align", "(LBookPairs$Books;)V"⟩ ∈ TB := tb2 27 (by decide +kernel) (by decide +kernel)
theorem mw276 : Cond.static ⟨"BookPairs$Aligner", "isIn", "(III)Z"⟩ ∈ TB := tb2 101 (by decide +kernel) (by decide +kernel)
theorem mw277 : Cond.static ⟨"BookPairs$Aligner", "setOf", "(II)I"⟩ ∈ TB := tb2 105 (by decide +kernel) (by decide +kernel)
theorem mw278 : Cond.instanceMethod ⟨"BookPairs", "alignmentOfNow", "()LBookPairs$Aligner;"⟩ ∈ TB := tb2 23 (by decide +kernel) (by decide +kernel)
theorem mw279 : Cond.selects "BookPairs" ⟨"BookPairs", "alignmentOfNow", "()LBookPairs$Aligner;"⟩ ⟨"BookPairs", "alignmentOfNow", "()LBookPairs$Aligner;"⟩ ∈ TB := tbp 4 (by decide +kernel) (by decide +kernel)
theorem mw280 : Cond.instanceMethod ⟨"BookPairs$Aligner", "rightsWith", "(I)I"⟩ ∈ TB := tb2 96 (by decide +kernel) (by decide +kernel)
theorem mw281 : Cond.selects "BookPairs$Aligner" ⟨"BookPairs$Aligner", "rightsWith", "(I)I"⟩ ⟨"BookPairs$Aligner", "rightsWith", "(I)I"⟩ ∈ TB := tb2 97 (by decide +kernel) (by decide +kernel)
theorem mw282 : Cond.instanceMethod ⟨"BookPairs$Aligner", "leftsWith", "(I)I"⟩ ∈ TB := tb2 113 (by decide +kernel) (by decide +kernel)
theorem mw283 : Cond.selects "BookPairs$Aligner" ⟨"BookPairs$Aligner", "leftsWith", "(I)I"⟩ ⟨"BookPairs$Aligner", "leftsWith", "(I)I"⟩ ∈ TB := tb2 114 (by decide +kernel) (by decide +kernel)
theorem mw284 : Cond.static ⟨"BookPairs", "isLetters", "(I)Z"⟩ ∈ TB := tb2 121 (by decide +kernel) (by decide +kernel)
theorem mw285 : Cond.instanceMethod ⟨"BookPairs$Books", "areThere", "()Z"⟩ ∈ TB := tb2 128 (by decide +kernel) (by decide +kernel)
theorem mw286 : Cond.selects "BookPairs$Books" ⟨"BookPairs$Books", "areThere", "()Z"⟩ ⟨"BookPairs$Books", "areThere", "()Z"⟩ ∈ TB := tb2 129 (by decide +kernel) (by decide +kernel)
theorem mw287 : Cond.static ⟨"BookPairs", "isPrice", "(II)Z"⟩ ∈ TB := tb2 132 (by decide +kernel) (by decide +kernel)
theorem mw288 : Cond.instanceMethod ⟨"BookPairs$Books", "priceOf", "(I)I"⟩ ∈ TB := tb2 135 (by decide +kernel) (by decide +kernel)
theorem mw289 : Cond.selects "BookPairs$Books" ⟨"BookPairs$Books", "priceOf", "(I)I"⟩ ⟨"BookPairs$Books", "priceOf", "(I)I"⟩ ∈ TB := tb2 136 (by decide +kernel) (by decide +kernel)
theorem mw290 : Cond.instanceMethod ⟨"BookPairs$Books", "setPrice", "(II)V"⟩ ∈ TB := tb2 139 (by decide +kernel) (by decide +kernel)
theorem mw291 : Cond.selects "BookPairs$Books" ⟨"BookPairs$Books", "setPrice", "(II)V"⟩ ⟨"BookPairs$Books", "setPrice", "(II)V"⟩ ∈ TB := tb2 140 (by decide +kernel) (by decide +kernel)
theorem mw292 : Cond.instanceMethod ⟨"BookPairs$Books", "takeMoved", "(LBookPairs$Books;III)V"⟩ ∈ TB := tb2 147 (by decide +kernel) (by decide +kernel)
theorem mw293 : Cond.selects "BookPairs$Books" ⟨"BookPairs$Books", "takeMoved", "(LBookPairs$Books;III)V"⟩ ⟨"BookPairs$Books", "takeMoved", "(LBookPairs$Books;III)V"⟩ ∈ TB := tb2 148 (by decide +kernel) (by decide +kernel)
theorem mw294 : Cond.instanceMethod ⟨"BookPairs$Aligner", "answer", "(I)I"⟩ ∈ TB := tb2 155 (by decide +kernel) (by decide +kernel)
theorem mw295 : Cond.selects "BookPairs$Aligner" ⟨"BookPairs$Aligner", "answer", "(I)I"⟩ ⟨"BookPairs$Aligner", "answer", "(I)I"⟩ ∈ TB := tb2 156 (by decide +kernel) (by decide +kernel)
theorem mw296 : Cond.instanceMethod ⟨"BookPairs$Aligner", "costOfPair", "(I)I"⟩ ∈ TB := tb2 163 (by decide +kernel) (by decide +kernel)
theorem mw297 : Cond.selects "BookPairs$Aligner" ⟨"BookPairs$Aligner", "costOfPair", "(I)I"⟩ ⟨"BookPairs$Aligner", "costOfPair", "(I)I"⟩ ∈ TB := tb2 164 (by decide +kernel) (by decide +kernel)
theorem mw298 : Cond.static ⟨"BookPairs", "isSort", "(I)Z"⟩ ∈ TB := tb2 171 (by decide +kernel) (by decide +kernel)
theorem mw299 : Cond.static ⟨"BookPairs", "isAct", "(II)Z"⟩ ∈ TB := tb2 186 (by decide +kernel) (by decide +kernel)
theorem mw300 : Cond.instanceMethod ⟨"BookPairs$Books", "takeAct", "(II)Z"⟩ ∈ TB := tb2 193 (by decide +kernel) (by decide +kernel)
theorem mw301 : Cond.selects "BookPairs$Books" ⟨"BookPairs$Books", "takeAct", "(II)Z"⟩ ⟨"BookPairs$Books", "takeAct", "(II)Z"⟩ ∈ TB := tb2 194 (by decide +kernel) (by decide +kernel)
theorem mw302 : Cond.static ⟨"BookPairs", "isAskedOfDay", "(I)Z"⟩ ∈ TB := tb2 180 (by decide +kernel) (by decide +kernel)
theorem mw303 : Cond.static ⟨"BookPairs", "areActs", "(LBookPairs$Sheet;II)Z"⟩ ∈ TB := tb2 183 (by decide +kernel) (by decide +kernel)
theorem mw304 : Cond.instanceMethod ⟨"BookPairs", "supposeDay", "(LBookPairs$Sheet;II)I"⟩ ∈ TB := tb2 190 (by decide +kernel) (by decide +kernel)
theorem mw305 : Cond.selects "BookPairs" ⟨"BookPairs", "supposeDay", "(LBookPairs$Sheet;II)I"⟩ ⟨"BookPairs", "supposeDay", "(LBookPairs$Sheet;II)I"⟩ ∈ TB := tbp 11 (by decide +kernel) (by decide +kernel)
theorem mw306 : Cond.instanceMethod ⟨"BookPairs", "answerOfDay", "(II)I"⟩ ∈ TB := tb2 199 (by decide +kernel) (by decide +kernel)
theorem mw307 : Cond.selects "BookPairs" ⟨"BookPairs", "answerOfDay", "(II)I"⟩ ⟨"BookPairs", "answerOfDay", "(II)I"⟩ ∈ TB := tbp 12 (by decide +kernel) (by decide +kernel)
theorem mw308 : Cond.instanceMethod ⟨"BookPairs", "readingsHoldIfSupposed", "()Z"⟩ ∈ TB := tb2 225 (by decide +kernel) (by decide +kernel)
theorem mw309 : Cond.selects "BookPairs" ⟨"BookPairs", "readingsHoldIfSupposed", "()Z"⟩ ⟨"BookPairs", "readingsHoldIfSupposed", "()Z"⟩ ∈ TB := tbp 13 (by decide +kernel) (by decide +kernel)
theorem mw310 : Cond.instanceMethod ⟨"BookPairs$Aligner", "howManyOf", "(I)I"⟩ ∈ TB := tb2 237 (by decide +kernel) (by decide +kernel)
theorem mw311 : Cond.selects "BookPairs$Aligner" ⟨"BookPairs$Aligner", "howManyOf", "(I)I"⟩ ⟨"BookPairs$Aligner", "howManyOf", "(I)I"⟩ ∈ TB := tb2 238 (by decide +kernel) (by decide +kernel)
theorem mw312 : Cond.static ⟨"BookPairs", "commonDivisor", "(II)I"⟩ ∈ TB := tb3 1 (by decide +kernel) (by decide +kernel)
theorem mw313 : Cond.static ⟨"java/util/Arrays", "fill", "([II)V"⟩ ∈ TB := tb3 12 (by decide +kernel) (by decide +kernel)
theorem mw314 : Cond.initialized "java/util/Arrays" ∈ TB := tb1 9 (by decide +kernel) (by decide +kernel)
theorem mw315 : Cond.instanceMethod ⟨"BookPairs$Sheet", "begin", "(II)V"⟩ ∈ TB := tb3 8 (by decide +kernel) (by decide +kernel)
theorem mw316 : Cond.selects "BookPairs$Sheet" ⟨"BookPairs$Sheet", "begin", "(II)V"⟩ ⟨"BookPairs$Sheet", "begin", "(II)V"⟩ ∈ TB := tb3 9 (by decide +kernel) (by decide +kernel)
theorem mw317 : Cond.instanceMethod ⟨"BookPairs$Sheet", "cut", "(I)I"⟩ ∈ TB := tb3 23 (by decide +kernel) (by decide +kernel)
theorem mw318 : Cond.selects "BookPairs$Sheet" ⟨"BookPairs$Sheet", "cut", "(I)I"⟩ ⟨"BookPairs$Sheet", "cut", "(I)I"⟩ ∈ TB := tb3 24 (by decide +kernel) (by decide +kernel)
theorem mw319 : Cond.instanceMethod ⟨"BookPairs", "leaveTrace", "(I)V"⟩ ∈ TB := tb3 45 (by decide +kernel) (by decide +kernel)
theorem mw320 : Cond.selects "BookPairs" ⟨"BookPairs", "leaveTrace", "(I)V"⟩ ⟨"BookPairs", "leaveTrace", "(I)V"⟩ ∈ TB := tbp 15 (by decide +kernel) (by decide +kernel)
theorem mw321 : Cond.instanceMethod ⟨"BookPairs", "plainBody", "(I)I"⟩ ∈ TB := tb3 53 (by decide +kernel) (by decide +kernel)
theorem mw322 : Cond.selects "BookPairs" ⟨"BookPairs", "plainBody", "(I)I"⟩ ⟨"BookPairs", "plainBody", "(I)I"⟩ ∈ TB := tbp 17 (by decide +kernel) (by decide +kernel)
theorem mw323 : Cond.instanceMethod ⟨"BookPairs", "longBody", "(I)I"⟩ ∈ TB := tb3 49 (by decide +kernel) (by decide +kernel)
theorem mw324 : Cond.selects "BookPairs" ⟨"BookPairs", "longBody", "(I)I"⟩ ⟨"BookPairs", "longBody", "(I)I"⟩ ∈ TB := tbp 16 (by decide +kernel) (by decide +kernel)
theorem mw325 : Cond.instanceMethod ⟨"BookPairs", "doubleBody", "(I)I"⟩ ∈ TB := tb3 41 (by decide +kernel) (by decide +kernel)
theorem mw326 : Cond.selects "BookPairs" ⟨"BookPairs", "doubleBody", "(I)I"⟩ ⟨"BookPairs", "doubleBody", "(I)I"⟩ ∈ TB := tbp 14 (by decide +kernel) (by decide +kernel)
theorem mw327 : Cond.instanceMethod ⟨"BookPairs", "lentBody", "(I)I"⟩ ∈ TB := tb3 65 (by decide +kernel) (by decide +kernel)
theorem mw328 : Cond.selects "BookPairs" ⟨"BookPairs", "lentBody", "(I)I"⟩ ⟨"BookPairs", "lentBody", "(I)I"⟩ ∈ TB := tbp 19 (by decide +kernel) (by decide +kernel)
theorem mw329 : Cond.instanceMethod ⟨"BookPairs", "doublesOwnBody", "(I)I"⟩ ∈ TB := tb3 61 (by decide +kernel) (by decide +kernel)
theorem mw330 : Cond.selects "BookPairs" ⟨"BookPairs", "doublesOwnBody", "(I)I"⟩ ⟨"BookPairs", "doublesOwnBody", "(I)I"⟩ ∈ TB := tbp 18 (by decide +kernel) (by decide +kernel)
theorem mw331 : Cond.static ⟨"BookPairsModel", "within", "(III)Z"⟩ ∈ TB := tb3 194 (by decide +kernel) (by decide +kernel)
theorem mw332 : Cond.initialized "BookPairsModel" ∈ TB := tb1 6 (by decide +kernel) (by decide +kernel)
theorem mw333 : Cond.instanceMethod ⟨"BookPairsModel", "isSign", "(II)Z"⟩ ∈ TB := tb3 213 (by decide +kernel) (by decide +kernel)
theorem mw334 : Cond.selects "BookPairsModel" ⟨"BookPairsModel", "isSign", "(II)Z"⟩ ⟨"BookPairsModel", "isSign", "(II)Z"⟩ ∈ TB := tbp 23 (by decide +kernel) (by decide +kernel)
theorem mw335 : Cond.instanceMethod ⟨"BookPairsModel", "readKindNext", "(I)Z"⟩ ∈ TB := tb3 217 (by decide +kernel) (by decide +kernel)
theorem mw336 : Cond.selects "BookPairsModel" ⟨"BookPairsModel", "readKindNext", "(I)Z"⟩ ⟨"BookPairsModel", "readKindNext", "(I)Z"⟩ ∈ TB := tbp 24 (by decide +kernel) (by decide +kernel)
theorem mw337 : Cond.instanceMethod ⟨"BookPairsModel", "readSentence", "(II)Z"⟩ ∈ TB := tb3 221 (by decide +kernel) (by decide +kernel)
theorem mw338 : Cond.selects "BookPairsModel" ⟨"BookPairsModel", "readSentence", "(II)Z"⟩ ⟨"BookPairsModel", "readSentence", "(II)Z"⟩ ∈ TB := tbp 25 (by decide +kernel) (by decide +kernel)
theorem mw339 : Cond.static ⟨"BookPairsModel", "isSheet", "(I)Z"⟩ ∈ TB := tb3 191 (by decide +kernel) (by decide +kernel)
theorem mw340 : Cond.static ⟨"BookPairsModel", "isSort", "(I)Z"⟩ ∈ TB := tb3 197 (by decide +kernel) (by decide +kernel)
theorem mw341 : Cond.instanceMethod ⟨"BookPairsModel", "against", "(IIII)I"⟩ ∈ TB := tb3 201 (by decide +kernel) (by decide +kernel)
theorem mw342 : Cond.selects "BookPairsModel" ⟨"BookPairsModel", "against", "(IIII)I"⟩ ⟨"BookPairsModel", "against", "(IIII)I"⟩ ∈ TB := tbp 20 (by decide +kernel) (by decide +kernel)
theorem mw343 : Cond.instanceMethod ⟨"BookPairsModel", "readAll", "(I)Z"⟩ ∈ TB := tb3 209 (by decide +kernel) (by decide +kernel)
theorem mw344 : Cond.selects "BookPairsModel" ⟨"BookPairsModel", "readAll", "(I)Z"⟩ ⟨"BookPairsModel", "readAll", "(I)Z"⟩ ∈ TB := tbp 22 (by decide +kernel) (by decide +kernel)
theorem mw345 : Cond.instanceMethod ⟨"BookPairsModel", "fails", "(I)I"⟩ ∈ TB := tb3 205 (by decide +kernel) (by decide +kernel)
theorem mw346 : Cond.selects "BookPairsModel" ⟨"BookPairsModel", "fails", "(I)I"⟩ ⟨"BookPairsModel", "fails", "(I)I"⟩ ∈ TB := tbp 21 (by decide +kernel) (by decide +kernel)
theorem mw347 : Cond.static ⟨"BookPairsModel", "leftsOf", "(I)I"⟩ ∈ TB := tb4 13 (by decide +kernel) (by decide +kernel)
theorem mw348 : Cond.instanceMethod ⟨"BookPairsModel", "lengthOf", "(I)I"⟩ ∈ TB := tb3 233 (by decide +kernel) (by decide +kernel)
theorem mw349 : Cond.selects "BookPairsModel" ⟨"BookPairsModel", "lengthOf", "(I)I"⟩ ⟨"BookPairsModel", "lengthOf", "(I)I"⟩ ∈ TB := tbp 27 (by decide +kernel) (by decide +kernel)
theorem mw350 : Cond.static ⟨"BookPairsModel", "anchorSet", "(I)I"⟩ ∈ TB := tb4 23 (by decide +kernel) (by decide +kernel)
theorem mw351 : Cond.static ⟨"BookPairsModel", "rightsOf", "(I)I"⟩ ∈ TB := tb4 16 (by decide +kernel) (by decide +kernel)
theorem mw352 : Cond.instanceMethod ⟨"BookPairsModel", "isStand", "(III)Z"⟩ ∈ TB := tb4 10 (by decide +kernel) (by decide +kernel)
theorem mw353 : Cond.selects "BookPairsModel" ⟨"BookPairsModel", "isStand", "(III)Z"⟩ ⟨"BookPairsModel", "isStand", "(III)Z"⟩ ∈ TB := tbp 31 (by decide +kernel) (by decide +kernel)
theorem mw354 : Cond.instanceMethod ⟨"BookPairsModel", "costOf", "(III)I"⟩ ∈ TB := tb4 20 (by decide +kernel) (by decide +kernel)
theorem mw355 : Cond.selects "BookPairsModel" ⟨"BookPairsModel", "costOf", "(III)I"⟩ ⟨"BookPairsModel", "costOf", "(III)I"⟩ ∈ TB := tbp 32 (by decide +kernel) (by decide +kernel)
theorem mw356 : Cond.instanceMethod ⟨"BookPairsModel", "comes", "(III)V"⟩ ∈ TB := tb4 27 (by decide +kernel) (by decide +kernel)
theorem mw357 : Cond.selects "BookPairsModel" ⟨"BookPairsModel", "comes", "(III)V"⟩ ⟨"BookPairsModel", "comes", "(III)V"⟩ ∈ TB := tbp 33 (by decide +kernel) (by decide +kernel)
theorem mw358 : Cond.instanceMethod ⟨"BookPairsModel", "findStand", "(III)V"⟩ ∈ TB := tb4 5 (by decide +kernel) (by decide +kernel)
theorem mw359 : Cond.selects "BookPairsModel" ⟨"BookPairsModel", "findStand", "(III)V"⟩ ⟨"BookPairsModel", "findStand", "(III)V"⟩ ∈ TB := tbp 30 (by decide +kernel) (by decide +kernel)
theorem mw360 : Cond.instanceMethod ⟨"BookPairsModel", "findAll", "(I)I"⟩ ∈ TB := tb4 1 (by decide +kernel) (by decide +kernel)
theorem mw361 : Cond.selects "BookPairsModel" ⟨"BookPairsModel", "findAll", "(I)I"⟩ ⟨"BookPairsModel", "findAll", "(I)I"⟩ ∈ TB := tbp 29 (by decide +kernel) (by decide +kernel)
theorem mw362 : Cond.instanceMethod ⟨"BookPairsModel", "isOnBest", "(III)Z"⟩ ∈ TB := tb4 31 (by decide +kernel) (by decide +kernel)
theorem mw363 : Cond.selects "BookPairsModel" ⟨"BookPairsModel", "isOnBest", "(III)Z"⟩ ⟨"BookPairsModel", "isOnBest", "(III)Z"⟩ ∈ TB := tbp 34 (by decide +kernel) (by decide +kernel)
theorem mw364 : Cond.instanceMethod ⟨"BookPairsModel", "isLeft", "(I)Z"⟩ ∈ TB := tb3 229 (by decide +kernel) (by decide +kernel)
theorem mw365 : Cond.selects "BookPairsModel" ⟨"BookPairsModel", "isLeft", "(I)Z"⟩ ⟨"BookPairsModel", "isLeft", "(I)Z"⟩ ∈ TB := tbp 26 (by decide +kernel) (by decide +kernel)
theorem mw366 : Cond.instanceMethod ⟨"BookPairsModel", "findBest", "()I"⟩ ∈ TB := tb3 237 (by decide +kernel) (by decide +kernel)
theorem mw367 : Cond.selects "BookPairsModel" ⟨"BookPairsModel", "findBest", "()I"⟩ ⟨"BookPairsModel", "findBest", "()I"⟩ ∈ TB := tbp 28 (by decide +kernel) (by decide +kernel)
theorem mw368 : Cond.instanceMethod ⟨"BookPairsModel", "pairedWith", "(II)I"⟩ ∈ TB := tb4 35 (by decide +kernel) (by decide +kernel)
theorem mw369 : Cond.selects "BookPairsModel" ⟨"BookPairsModel", "pairedWith", "(II)I"⟩ ⟨"BookPairsModel", "pairedWith", "(II)I"⟩ ∈ TB := tbp 35 (by decide +kernel) (by decide +kernel)
theorem mw370 : Cond.instanceMethod ⟨"BookPairsModel", "isRight", "(I)Z"⟩ ∈ TB := tb4 43 (by decide +kernel) (by decide +kernel)
theorem mw371 : Cond.selects "BookPairsModel" ⟨"BookPairsModel", "isRight", "(I)Z"⟩ ⟨"BookPairsModel", "isRight", "(I)Z"⟩ ∈ TB := tbp 36 (by decide +kernel) (by decide +kernel)
theorem mw372 : Cond.instanceMethod ⟨"BookPairsModel", "goesUp", "(I)V"⟩ ∈ TB := tb4 59 (by decide +kernel) (by decide +kernel)
theorem mw373 : Cond.selects "BookPairsModel" ⟨"BookPairsModel", "goesUp", "(I)V"⟩ ⟨"BookPairsModel", "goesUp", "(I)V"⟩ ∈ TB := tbp 37 (by decide +kernel) (by decide +kernel)
theorem mw374 : Cond.instanceMethod ⟨"BookPairsModel", "tellBest", "(I)I"⟩ ∈ TB := tb4 67 (by decide +kernel) (by decide +kernel)
theorem mw375 : Cond.selects "BookPairsModel" ⟨"BookPairsModel", "tellBest", "(I)I"⟩ ⟨"BookPairsModel", "tellBest", "(I)I"⟩ ∈ TB := tbp 38 (by decide +kernel) (by decide +kernel)
theorem mw376 : Cond.instanceMethod ⟨"BookPairsModel", "does", "(II)Z"⟩ ∈ TB := tb4 94 (by decide +kernel) (by decide +kernel)
theorem mw377 : Cond.selects "BookPairsModel" ⟨"BookPairsModel", "does", "(II)Z"⟩ ⟨"BookPairsModel", "does", "(II)Z"⟩ ∈ TB := tbp 41 (by decide +kernel) (by decide +kernel)
theorem mw378 : Cond.static ⟨"BookPairsModel", "isPair", "(II)Z"⟩ ∈ TB := tb4 82 (by decide +kernel) (by decide +kernel)
theorem mw379 : Cond.instanceMethod ⟨"BookPairsModel", "keep", "()V"⟩ ∈ TB := tb4 86 (by decide +kernel) (by decide +kernel)
theorem mw380 : Cond.selects "BookPairsModel" ⟨"BookPairsModel", "keep", "()V"⟩ ⟨"BookPairsModel", "keep", "()V"⟩ ∈ TB := tbp 39 (by decide +kernel) (by decide +kernel)
theorem mw381 : Cond.instanceMethod ⟨"BookPairsModel", "goDay", "(II)I"⟩ ∈ TB := tb4 90 (by decide +kernel) (by decide +kernel)
theorem mw382 : Cond.selects "BookPairsModel" ⟨"BookPairsModel", "goDay", "(II)I"⟩ ⟨"BookPairsModel", "goDay", "(II)I"⟩ ∈ TB := tbp 40 (by decide +kernel) (by decide +kernel)
theorem mw383 : Cond.instanceMethod ⟨"BookPairsModel", "tellDay", "(I)I"⟩ ∈ TB := tb4 98 (by decide +kernel) (by decide +kernel)
theorem mw384 : Cond.selects "BookPairsModel" ⟨"BookPairsModel", "tellDay", "(I)I"⟩ ⟨"BookPairsModel", "tellDay", "(I)I"⟩ ∈ TB := tbp 42 (by decide +kernel) (by decide +kernel)
theorem mw385 : Cond.instanceMethod ⟨"BookPairsModel", "putBack", "()V"⟩ ∈ TB := tb4 102 (by decide +kernel) (by decide +kernel)
theorem mw386 : Cond.selects "BookPairsModel" ⟨"BookPairsModel", "putBack", "()V"⟩ ⟨"BookPairsModel", "putBack", "()V"⟩ ∈ TB := tbp 43 (by decide +kernel) (by decide +kernel)
theorem mw387 : Cond.instanceMethod ⟨"BookPairsModel", "areSo", "()Z"⟩ ∈ TB := tb4 126 (by decide +kernel) (by decide +kernel)
theorem mw388 : Cond.selects "BookPairsModel" ⟨"BookPairsModel", "areSo", "()Z"⟩ ⟨"BookPairsModel", "areSo", "()Z"⟩ ∈ TB := tbp 44 (by decide +kernel) (by decide +kernel)
theorem mw389 : Cond.static ⟨"BookPairsModel", "inLeastTerms", "(JJI)J"⟩ ∈ TB := tb4 138 (by decide +kernel) (by decide +kernel)
theorem mw390 : Cond.instanceMethod ⟨"BookPairsModel", "lost", "(I)J"⟩ ∈ TB := tb4 158 (by decide +kernel) (by decide +kernel)
theorem mw391 : Cond.selects "BookPairsModel" ⟨"BookPairsModel", "lost", "(I)J"⟩ ⟨"BookPairsModel", "lost", "(I)J"⟩ ∈ TB := tbp 45 (by decide +kernel) (by decide +kernel)
theorem mw392 : Cond.instanceMethod ⟨"BookPairsModel", "begins", "(I)V"⟩ ∈ TB := tb4 170 (by decide +kernel) (by decide +kernel)
theorem mw393 : Cond.selects "BookPairsModel" ⟨"BookPairsModel", "begins", "(I)V"⟩ ⟨"BookPairsModel", "begins", "(I)V"⟩ ∈ TB := tbp 46 (by decide +kernel) (by decide +kernel)
theorem ci_0 : Int32.ofInt (0) = (0 : Int32) := by decide
theorem ci_4 : Int32.ofInt (4) = (4 : Int32) := by decide
theorem ci_1 : Int32.ofInt (1) = (1 : Int32) := by decide
theorem ci_3 : Int32.ofInt (3) = (3 : Int32) := by decide
theorem ci_2 : Int32.ofInt (2) = (2 : Int32) := by decide
theorem cb_m10 : (Int8.ofInt (-10)).toInt32 = (-10 : Int32) := by decide
theorem cb_7 : (Int8.ofInt (7)).toInt32 = (7 : Int32) := by decide
theorem cb_m9 : (Int8.ofInt (-9)).toInt32 = (-9 : Int32) := by decide
theorem cb_49 : (Int8.ofInt (49)).toInt32 = (49 : Int32) := by decide
theorem cb_57 : (Int8.ofInt (57)).toInt32 = (57 : Int32) := by decide
theorem cb_45 : (Int8.ofInt (45)).toInt32 = (45 : Int32) := by decide
theorem cb_97 : (Int8.ofInt (97)).toInt32 = (97 : Int32) := by decide
theorem cb_100 : (Int8.ofInt (100)).toInt32 = (100 : Int32) := by decide
theorem ci_5 : Int32.ofInt (5) = (5 : Int32) := by decide
theorem cb_48 : (Int8.ofInt (48)).toInt32 = (48 : Int32) := by decide
theorem cb_6 : (Int8.ofInt (6)).toInt32 = (6 : Int32) := by decide
theorem cb_8 : (Int8.ofInt (8)).toInt32 = (8 : Int32) := by decide
theorem cb_98 : (Int8.ofInt (98)).toInt32 = (98 : Int32) := by decide
theorem cb_59 : (Int8.ofInt (59)).toInt32 = (59 : Int32) := by decide
theorem cb_44 : (Int8.ofInt (44)).toInt32 = (44 : Int32) := by decide
theorem cb_m100 : (Int8.ofInt (-100)).toInt32 = (-100 : Int32) := by decide
theorem cb_m2 : (Int8.ofInt (-2)).toInt32 = (-2 : Int32) := by decide
theorem ci_m1 : Int32.ofInt (-1) = (-1 : Int32) := by decide
theorem cb_64 : (Int8.ofInt (64)).toInt32 = (64 : Int32) := by decide
theorem cb_14 : (Int8.ofInt (14)).toInt32 = (14 : Int32) := by decide
theorem cb_9 : (Int8.ofInt (9)).toInt32 = (9 : Int32) := by decide
theorem cb_m3 : (Int8.ofInt (-3)).toInt32 = (-3 : Int32) := by decide
theorem cb_10 : (Int8.ofInt (10)).toInt32 = (10 : Int32) := by decide
theorem cb_17 : (Int8.ofInt (17)).toInt32 = (17 : Int32) := by decide
theorem cb_20 : (Int8.ofInt (20)).toInt32 = (20 : Int32) := by decide
theorem cb_22 : (Int8.ofInt (22)).toInt32 = (22 : Int32) := by decide
theorem cb_m4 : (Int8.ofInt (-4)).toInt32 = (-4 : Int32) := by decide
theorem cs_500 : (Int16.ofInt (500)).toInt32 = (500 : Int32) := by decide
theorem cb_60 : (Int8.ofInt (60)).toInt32 = (60 : Int32) := by decide
theorem cb_31 : (Int8.ofInt (31)).toInt32 = (31 : Int32) := by decide
theorem cb_80 : (Int8.ofInt (80)).toInt32 = (80 : Int32) := by decide
theorem cb_76 : (Int8.ofInt (76)).toInt32 = (76 : Int32) := by decide
theorem cb_68 : (Int8.ofInt (68)).toInt32 = (68 : Int32) := by decide
theorem cb_15 : (Int8.ofInt (15)).toInt32 = (15 : Int32) := by decide
theorem cb_16 : (Int8.ofInt (16)).toInt32 = (16 : Int32) := by decide
theorem cb_21 : (Int8.ofInt (21)).toInt32 = (21 : Int32) := by decide
theorem fg_X2_15 : gFld RX2 15 2 1 := ⟨RX2, TX2, 4, _, rfl, by decide, inX2, mw0, fun _ _ h => h⟩
theorem fg_X2_19 : gFld RX2 19 2 2 := ⟨RX2, TX2, 4, _, rfl, by decide, inX2, mw1, fun _ _ h => h⟩
theorem fg_X2_23 : gFld RX2 23 2 3 := ⟨RX2, TX2, 4, _, rfl, by decide, inX2, mw2, fun _ _ h => h⟩
theorem fp_X4_52 : gPut RX4 52 4 11 .int := ⟨RX4, TX4, 12, _, tyX4, rfl, by decide, inX4, mw3, fun _ _ h => h, tyX4_ok, nmX4, rfl, by decide +kernel⟩
theorem fp_X1_27 : gPut RX1 27 1 5 .int := ⟨RX1, TX1, 10, _, tyX1, rfl, by decide, inX1, mw4, fun _ _ h => h, tyX1_ok, nmX1, rfl, by decide +kernel⟩
theorem fp_X1_31 : gPut RX1 31 1 6 .int := ⟨RX1, TX1, 10, _, tyX1, rfl, by decide, inX1, mw5, fun _ _ h => h, tyX1_ok, nmX1, rfl, by decide +kernel⟩
theorem fp_X1_34 : gPut RX1 34 1 7 .int := ⟨RX1, TX1, 10, _, tyX1, rfl, by decide, inX1, mw6, fun _ _ h => h, tyX1_ok, nmX1, rfl, by decide +kernel⟩
theorem fp_X1_37 : gPut RX1 37 1 8 .int := ⟨RX1, TX1, 10, _, tyX1, rfl, by decide, inX1, mw7, fun _ _ h => h, tyX1_ok, nmX1, rfl, by decide +kernel⟩
theorem fp_X1_40 : gPut RX1 40 1 9 .int := ⟨RX1, TX1, 10, _, tyX1, rfl, by decide, inX1, mw8, fun _ _ h => h, tyX1_ok, nmX1, rfl, by decide +kernel⟩
theorem fg_X3_30 : gFld RX3 30 1 5 := ⟨RX1, TX1, 10, _, rfl, by decide, inX1, mw9, fun _ _ h => h⟩
theorem fg_X3_16 : gFld RX3 16 3 0 := ⟨RX3, TX3, 1, _, rfl, by decide, inX3, mw10, fun _ _ h => h⟩
theorem fp_X3_16 : gPut RX3 16 3 0 .int := ⟨RX3, TX3, 1, _, tyX3, rfl, by decide, inX3, mw10, fun _ _ h => h, tyX3_ok, nmX3, rfl, by decide +kernel⟩
theorem fg_X3_56 : gFld RX3 56 1 2 := ⟨RX1, TX1, 10, _, rfl, by decide, inX1, mw11, fun _ _ h => h⟩
theorem fp_X3_30 : gPut RX3 30 1 5 .int := ⟨RX1, TX1, 10, _, tyX1, rfl, by decide, inX1, mw9, fun _ _ h => h, tyX1_ok, nmX1, rfl, by decide +kernel⟩
theorem fg_X3_49 : gFld RX3 49 1 1 := ⟨RX1, TX1, 10, _, rfl, by decide, inX1, mw13, fun _ _ h => h⟩
theorem fg_X3_42 : gFld RX3 42 1 0 := ⟨RX1, TX1, 10, _, rfl, by decide, inX1, mw15, fun _ _ h => h⟩
theorem fg_X3_33 : gFld RX3 33 1 6 := ⟨RX1, TX1, 10, _, rfl, by decide, inX1, mw17, fun _ _ h => h⟩
theorem fg_X3_65 : gFld RX3 65 1 4 := ⟨RX1, TX1, 10, _, rfl, by decide, inX1, mw18, fun _ _ h => h⟩
theorem fp_X3_33 : gPut RX3 33 1 6 .int := ⟨RX1, TX1, 10, _, tyX1, rfl, by decide, inX1, mw17, fun _ _ h => h, tyX1_ok, nmX1, rfl, by decide +kernel⟩
theorem fg_X3_62 : gFld RX3 62 1 3 := ⟨RX1, TX1, 10, _, rfl, by decide, inX1, mw19, fun _ _ h => h⟩
theorem fg_X3_20 : gFld RX3 20 2 0 := ⟨RX2, TX2, 4, _, rfl, by decide, inX2, mw23, fun _ _ h => h⟩
theorem fg_X1_27 : gFld RX1 27 1 5 := ⟨RX1, TX1, 10, _, rfl, by decide, inX1, mw4, fun _ _ h => h⟩
theorem fg_X1_31 : gFld RX1 31 1 6 := ⟨RX1, TX1, 10, _, rfl, by decide, inX1, mw5, fun _ _ h => h⟩
theorem fg_X1_34 : gFld RX1 34 1 7 := ⟨RX1, TX1, 10, _, rfl, by decide, inX1, mw6, fun _ _ h => h⟩
theorem fg_X1_37 : gFld RX1 37 1 8 := ⟨RX1, TX1, 10, _, rfl, by decide, inX1, mw7, fun _ _ h => h⟩
theorem fg_X1_40 : gFld RX1 40 1 9 := ⟨RX1, TX1, 10, _, rfl, by decide, inX1, mw8, fun _ _ h => h⟩
theorem fg_X1_9 : gFld RX1 9 1 0 := ⟨RX1, TX1, 10, _, rfl, by decide, inX1, mw25, fun _ _ h => h⟩
theorem fg_X1_15 : gFld RX1 15 1 1 := ⟨RX1, TX1, 10, _, rfl, by decide, inX1, mw30, fun _ _ h => h⟩
theorem fg_X1_18 : gFld RX1 18 1 2 := ⟨RX1, TX1, 10, _, rfl, by decide, inX1, mw31, fun _ _ h => h⟩
theorem fg_X1_21 : gFld RX1 21 1 3 := ⟨RX1, TX1, 10, _, rfl, by decide, inX1, mw32, fun _ _ h => h⟩
theorem fg_X1_24 : gFld RX1 24 1 4 := ⟨RX1, TX1, 10, _, rfl, by decide, inX1, mw33, fun _ _ h => h⟩
theorem fg_X4_13 : gFld RX4 13 4 0 := ⟨RX4, TX4, 12, _, rfl, by decide, inX4, mw36, fun _ _ h => h⟩
theorem fg_X4_40 : gFld RX4 40 4 5 := ⟨RX4, TX4, 12, _, rfl, by decide, inX4, mw38, fun _ _ h => h⟩
theorem fg_X4_24 : gFld RX4 24 4 2 := ⟨RX4, TX4, 12, _, rfl, by decide, inX4, mw39, fun _ _ h => h⟩
theorem fg_X4_20 : gFld RX4 20 4 1 := ⟨RX4, TX4, 12, _, rfl, by decide, inX4, mw41, fun _ _ h => h⟩
theorem fp_X4_82 : gPut RX4 82 4 8 .int := ⟨RX4, TX4, 12, _, tyX4, rfl, by decide, inX4, mw43, fun _ _ h => h, tyX4_ok, nmX4, rfl, by decide +kernel⟩
theorem fp_X4_85 : gPut RX4 85 4 9 .boolean := ⟨RX4, TX4, 12, _, tyX4, rfl, by decide, inX4, mw44, fun _ _ h => h, tyX4_ok, nmX4, rfl, by decide +kernel⟩
theorem fg_X4_89 : gFld RX4 89 1 5 := ⟨RX1, TX1, 10, _, rfl, by decide, inX1, mw45, fun _ _ h => h⟩
theorem fg_X4_92 : gFld RX4 92 1 6 := ⟨RX1, TX1, 10, _, rfl, by decide, inX1, mw46, fun _ _ h => h⟩
theorem fg_X0_56 : gFld RX0 56 1 5 := ⟨RX1, TX1, 10, _, rfl, by decide, inX1, mw56, fun _ _ h => h⟩
theorem fp_X0_59 : gPut RX0 59 0 8 .int := ⟨RX0, TX0, 11, _, tyX0, rfl, by decide, inX0, mw57, fun _ _ h => h, tyX0_ok, nmX0, rfl, by decide +kernel⟩
theorem fg_X0_60 : gFld RX0 60 1 6 := ⟨RX1, TX1, 10, _, rfl, by decide, inX1, mw58, fun _ _ h => h⟩
theorem fp_X0_63 : gPut RX0 63 0 9 .int := ⟨RX0, TX0, 11, _, tyX0, rfl, by decide, inX0, mw59, fun _ _ h => h, tyX0_ok, nmX0, rfl, by decide +kernel⟩
theorem fg_X0_59 : gFld RX0 59 0 8 := ⟨RX0, TX0, 11, _, rfl, by decide, inX0, mw57, fun _ _ h => h⟩
theorem fg_X0_63 : gFld RX0 63 0 9 := ⟨RX0, TX0, 11, _, rfl, by decide, inX0, mw59, fun _ _ h => h⟩
theorem fg_X0_9 : gFld RX0 9 0 0 := ⟨RX0, TX0, 11, _, rfl, by decide, inX0, mw62, fun _ _ h => h⟩
theorem fg_X0_24 : gFld RX0 24 0 4 := ⟨RX0, TX0, 11, _, rfl, by decide, inX0, mw65, fun _ _ h => h⟩
theorem fg_X0_15 : gFld RX0 15 0 1 := ⟨RX0, TX0, 11, _, rfl, by decide, inX0, mw66, fun _ _ h => h⟩
theorem fg_X0_18 : gFld RX0 18 0 2 := ⟨RX0, TX0, 11, _, rfl, by decide, inX0, mw70, fun _ _ h => h⟩
theorem fg_X0_21 : gFld RX0 21 0 3 := ⟨RX0, TX0, 11, _, rfl, by decide, inX0, mw73, fun _ _ h => h⟩
theorem fp_X0_103 : gPut RX0 103 0 10 .int := ⟨RX0, TX0, 11, _, tyX0, rfl, by decide, inX0, mw76, fun _ _ h => h, tyX0_ok, nmX0, rfl, by decide +kernel⟩
theorem fg_X0_103 : gFld RX0 103 0 10 := ⟨RX0, TX0, 11, _, rfl, by decide, inX0, mw76, fun _ _ h => h⟩
theorem fg_X0_27 : gFld RX0 27 0 5 := ⟨RX0, TX0, 11, _, rfl, by decide, inX0, mw77, fun _ _ h => h⟩
theorem fg_X0_30 : gFld RX0 30 0 6 := ⟨RX0, TX0, 11, _, rfl, by decide, inX0, mw78, fun _ _ h => h⟩
theorem fg_X0_33 : gFld RX0 33 0 7 := ⟨RX0, TX0, 11, _, rfl, by decide, inX0, mw79, fun _ _ h => h⟩
theorem fg_X0_40 : gFld RX0 40 1 9 := ⟨RX1, TX1, 10, _, rfl, by decide, inX1, mw81, fun _ _ h => h⟩
theorem fg_X4_85 : gFld RX4 85 4 9 := ⟨RX4, TX4, 12, _, rfl, by decide, inX4, mw44, fun _ _ h => h⟩
theorem fg_X4_30 : gFld RX4 30 4 3 := ⟨RX4, TX4, 12, _, rfl, by decide, inX4, mw85, fun _ _ h => h⟩
theorem fg_X4_98 : gFld RX4 98 1 0 := ⟨RX1, TX1, 10, _, rfl, by decide, inX1, mw90, fun _ _ h => h⟩
theorem fg_X4_101 : gFld RX4 101 1 1 := ⟨RX1, TX1, 10, _, rfl, by decide, inX1, mw91, fun _ _ h => h⟩
theorem fg_X4_107 : gFld RX4 107 1 2 := ⟨RX1, TX1, 10, _, rfl, by decide, inX1, mw93, fun _ _ h => h⟩
theorem fg_X4_120 : gFld RX4 120 1 3 := ⟨RX1, TX1, 10, _, rfl, by decide, inX1, mw97, fun _ _ h => h⟩
theorem fg_X4_123 : gFld RX4 123 1 4 := ⟨RX1, TX1, 10, _, rfl, by decide, inX1, mw98, fun _ _ h => h⟩
theorem fg_X4_153 : gFld RX4 153 0 10 := ⟨RX0, TX0, 11, _, rfl, by decide, inX0, mw107, fun _ _ h => h⟩
theorem fg_X4_156 : gFld RX4 156 0 5 := ⟨RX0, TX0, 11, _, rfl, by decide, inX0, mw108, fun _ _ h => h⟩
theorem fg_X4_159 : gFld RX4 159 0 6 := ⟨RX0, TX0, 11, _, rfl, by decide, inX0, mw109, fun _ _ h => h⟩
theorem fg_X4_162 : gFld RX4 162 0 7 := ⟨RX0, TX0, 11, _, rfl, by decide, inX0, mw110, fun _ _ h => h⟩
theorem fg_X4_217 : gFld RX4 217 2 0 := ⟨RX2, TX2, 4, _, rfl, by decide, inX2, mw115, fun _ _ h => h⟩
theorem fg_X4_34 : gFld RX4 34 4 4 := ⟨RX4, TX4, 12, _, rfl, by decide, inX4, mw119, fun _ _ h => h⟩
theorem fg_X4_82 : gFld RX4 82 4 8 := ⟨RX4, TX4, 12, _, rfl, by decide, inX4, mw43, fun _ _ h => h⟩
theorem fg_X4_44 : gFld RX4 44 4 6 := ⟨RX4, TX4, 12, _, rfl, by decide, inX4, mw126, fun _ _ h => h⟩
theorem fg_X4_48 : gFld RX4 48 4 7 := ⟨RX4, TX4, 12, _, rfl, by decide, inX4, mw127, fun _ _ h => h⟩
theorem fp_X2_15 : gPut RX2 15 2 1 .boolean := ⟨RX2, TX2, 4, _, tyX2, rfl, by decide, inX2, mw0, fun _ _ h => h, tyX2_ok, nmX2, rfl, by decide +kernel⟩
theorem fp_X2_19 : gPut RX2 19 2 2 .int := ⟨RX2, TX2, 4, _, tyX2, rfl, by decide, inX2, mw1, fun _ _ h => h, tyX2_ok, nmX2, rfl, by decide +kernel⟩
theorem fp_X2_23 : gPut RX2 23 2 3 .int := ⟨RX2, TX2, 4, _, tyX2, rfl, by decide, inX2, mw2, fun _ _ h => h, tyX2_ok, nmX2, rfl, by decide +kernel⟩
theorem fg_X2_9 : gFld RX2 9 2 0 := ⟨RX2, TX2, 4, _, rfl, by decide, inX2, mw132, fun _ _ h => h⟩
theorem fg_X4_214 : gFld RX4 214 2 1 := ⟨RX2, TX2, 4, _, rfl, by decide, inX2, mw135, fun _ _ h => h⟩
theorem fp_X4_214 : gPut RX4 214 2 1 .boolean := ⟨RX2, TX2, 4, _, tyX2, rfl, by decide, inX2, mw135, fun _ _ h => h, tyX2_ok, nmX2, rfl, by decide +kernel⟩
theorem fg_X4_52 : gFld RX4 52 4 11 := ⟨RX4, TX4, 12, _, rfl, by decide, inX4, mw3, fun _ _ h => h⟩
theorem fg_X4_223 : gFld RX4 223 2 2 := ⟨RX2, TX2, 4, _, rfl, by decide, inX2, mw137, fun _ _ h => h⟩
theorem fg_X4_247 : gFld RX4 247 4 10 := ⟨RX4, TX4, 12, _, rfl, by decide, inX4, mw139, fun _ _ h => h⟩
theorem fp_X4_247 : gPut RX4 247 4 10 .int := ⟨RX4, TX4, 12, _, tyX4, rfl, by decide, inX4, mw139, fun _ _ h => h, tyX4_ok, nmX4, rfl, by decide +kernel⟩
theorem fg_X4_250 : gFld RX4 250 1 7 := ⟨RX1, TX1, 10, _, rfl, by decide, inX1, mw146, fun _ _ h => h⟩
theorem fg_X4_253 : gFld RX4 253 1 8 := ⟨RX1, TX1, 10, _, rfl, by decide, inX1, mw147, fun _ _ h => h⟩
theorem fg_X4_256 : gFld RX4 256 1 9 := ⟨RX1, TX1, 10, _, rfl, by decide, inX1, mw148, fun _ _ h => h⟩
theorem fp_X5_70 : gPut RX5 70 5 0 .int := ⟨RX5, TX5, 32, _, tyX5, rfl, by decide, inX5, mw149, fun _ _ h => h, tyX5_ok, nmX5, rfl, by decide +kernel⟩
theorem fg_X5_9 : gFld RX5 9 5 2 := ⟨RX5, TX5, 32, _, rfl, by decide, inX5, mw152, fun _ _ h => h⟩
theorem fg_X5_13 : gFld RX5 13 5 3 := ⟨RX5, TX5, 32, _, rfl, by decide, inX5, mw153, fun _ _ h => h⟩
theorem fg_X5_80 : gFld RX5 80 5 5 := ⟨RX5, TX5, 32, _, rfl, by decide, inX5, mw154, fun _ _ h => h⟩
theorem fg_X5_83 : gFld RX5 83 5 6 := ⟨RX5, TX5, 32, _, rfl, by decide, inX5, mw155, fun _ _ h => h⟩
theorem fg_X5_86 : gFld RX5 86 5 15 := ⟨RX5, TX5, 32, _, rfl, by decide, inX5, mw156, fun _ _ h => h⟩
theorem fg_X5_16 : gFld RX5 16 5 4 := ⟨RX5, TX5, 32, _, rfl, by decide, inX5, mw157, fun _ _ h => h⟩
theorem fp_X5_86 : gPut RX5 86 5 15 .int := ⟨RX5, TX5, 32, _, tyX5, rfl, by decide, inX5, mw156, fun _ _ h => h, tyX5_ok, nmX5, rfl, by decide +kernel⟩
theorem fg_X5_34 : gFld RX5 34 5 18 := ⟨RX5, TX5, 32, _, rfl, by decide, inX5, mw158, fun _ _ h => h⟩
theorem fg_X5_107 : gFld RX5 107 5 16 := ⟨RX5, TX5, 32, _, rfl, by decide, inX5, mw159, fun _ _ h => h⟩
theorem fg_X5_37 : gFld RX5 37 5 19 := ⟨RX5, TX5, 32, _, rfl, by decide, inX5, mw160, fun _ _ h => h⟩
theorem fg_X5_40 : gFld RX5 40 5 20 := ⟨RX5, TX5, 32, _, rfl, by decide, inX5, mw161, fun _ _ h => h⟩
theorem fp_X5_107 : gPut RX5 107 5 16 .int := ⟨RX5, TX5, 32, _, tyX5, rfl, by decide, inX5, mw159, fun _ _ h => h, tyX5_ok, nmX5, rfl, by decide +kernel⟩
theorem fp_X5_110 : gPut RX5 110 5 17 .int := ⟨RX5, TX5, 32, _, tyX5, rfl, by decide, inX5, mw162, fun _ _ h => h, tyX5_ok, nmX5, rfl, by decide +kernel⟩
theorem fg_X5_110 : gFld RX5 110 5 17 := ⟨RX5, TX5, 32, _, rfl, by decide, inX5, mw162, fun _ _ h => h⟩
theorem fp_X5_80 : gPut RX5 80 5 5 .int := ⟨RX5, TX5, 32, _, tyX5, rfl, by decide, inX5, mw154, fun _ _ h => h, tyX5_ok, nmX5, rfl, by decide +kernel⟩
theorem fp_X5_83 : gPut RX5 83 5 6 .int := ⟨RX5, TX5, 32, _, tyX5, rfl, by decide, inX5, mw155, fun _ _ h => h, tyX5_ok, nmX5, rfl, by decide +kernel⟩
theorem fg_X5_19 : gFld RX5 19 5 10 := ⟨RX5, TX5, 32, _, rfl, by decide, inX5, mw170, fun _ _ h => h⟩
theorem fg_X5_22 : gFld RX5 22 5 11 := ⟨RX5, TX5, 32, _, rfl, by decide, inX5, mw171, fun _ _ h => h⟩
theorem fg_X5_25 : gFld RX5 25 5 12 := ⟨RX5, TX5, 32, _, rfl, by decide, inX5, mw172, fun _ _ h => h⟩
theorem fg_X5_28 : gFld RX5 28 5 13 := ⟨RX5, TX5, 32, _, rfl, by decide, inX5, mw173, fun _ _ h => h⟩
theorem fg_X5_31 : gFld RX5 31 5 14 := ⟨RX5, TX5, 32, _, rfl, by decide, inX5, mw174, fun _ _ h => h⟩
theorem fp_X5_113 : gPut RX5 113 5 7 .int := ⟨RX5, TX5, 32, _, tyX5, rfl, by decide, inX5, mw175, fun _ _ h => h, tyX5_ok, nmX5, rfl, by decide +kernel⟩
theorem fp_X5_116 : gPut RX5 116 5 8 .int := ⟨RX5, TX5, 32, _, tyX5, rfl, by decide, inX5, mw176, fun _ _ h => h, tyX5_ok, nmX5, rfl, by decide +kernel⟩
theorem fp_X5_119 : gPut RX5 119 5 9 .int := ⟨RX5, TX5, 32, _, tyX5, rfl, by decide, inX5, mw177, fun _ _ h => h, tyX5_ok, nmX5, rfl, by decide +kernel⟩
theorem fp_X5_122 : gPut RX5 122 5 29 .int := ⟨RX5, TX5, 32, _, tyX5, rfl, by decide, inX5, mw178, fun _ _ h => h, tyX5_ok, nmX5, rfl, by decide +kernel⟩
theorem fg_X5_116 : gFld RX5 116 5 8 := ⟨RX5, TX5, 32, _, rfl, by decide, inX5, mw176, fun _ _ h => h⟩
theorem fg_X5_113 : gFld RX5 113 5 7 := ⟨RX5, TX5, 32, _, rfl, by decide, inX5, mw175, fun _ _ h => h⟩
theorem fg_X5_43 : gFld RX5 43 5 21 := ⟨RX5, TX5, 32, _, rfl, by decide, inX5, mw185, fun _ _ h => h⟩
theorem fg_X5_46 : gFld RX5 46 5 22 := ⟨RX5, TX5, 32, _, rfl, by decide, inX5, mw186, fun _ _ h => h⟩
theorem fg_X5_49 : gFld RX5 49 5 23 := ⟨RX5, TX5, 32, _, rfl, by decide, inX5, mw187, fun _ _ h => h⟩
theorem fg_X5_119 : gFld RX5 119 5 9 := ⟨RX5, TX5, 32, _, rfl, by decide, inX5, mw177, fun _ _ h => h⟩
theorem fp_X5_165 : gPut RX5 165 5 24 .int := ⟨RX5, TX5, 32, _, tyX5, rfl, by decide, inX5, mw193, fun _ _ h => h, tyX5_ok, nmX5, rfl, by decide +kernel⟩
theorem fg_X5_52 : gFld RX5 52 5 25 := ⟨RX5, TX5, 32, _, rfl, by decide, inX5, mw195, fun _ _ h => h⟩
theorem fg_X5_165 : gFld RX5 165 5 24 := ⟨RX5, TX5, 32, _, rfl, by decide, inX5, mw193, fun _ _ h => h⟩
theorem fg_X5_55 : gFld RX5 55 5 26 := ⟨RX5, TX5, 32, _, rfl, by decide, inX5, mw196, fun _ _ h => h⟩
theorem fg_X5_58 : gFld RX5 58 5 27 := ⟨RX5, TX5, 32, _, rfl, by decide, inX5, mw197, fun _ _ h => h⟩
theorem fg_X5_61 : gFld RX5 61 5 28 := ⟨RX5, TX5, 32, _, rfl, by decide, inX5, mw204, fun _ _ h => h⟩
theorem fg_X5_122 : gFld RX5 122 5 29 := ⟨RX5, TX5, 32, _, rfl, by decide, inX5, mw178, fun _ _ h => h⟩
theorem fg_X5_64 : gFld RX5 64 5 30 := ⟨RX5, TX5, 32, _, rfl, by decide, inX5, mw211, fun _ _ h => h⟩
theorem fg_X5_67 : gFld RX5 67 5 31 := ⟨RX5, TX5, 32, _, rfl, by decide, inX5, mw212, fun _ _ h => h⟩
theorem fg_X5_222 : gFld RX5 222 5 1 := ⟨RX5, TX5, 32, _, rfl, by decide, inX5, mw216, fun _ _ h => h⟩
theorem fp_X5_222 : gPut RX5 222 5 1 .int := ⟨RX5, TX5, 32, _, tyX5, rfl, by decide, inX5, mw216, fun _ _ h => h, tyX5_ok, nmX5, rfl, by decide +kernel⟩
theorem fg_X5_70 : gFld RX5 70 5 0 := ⟨RX5, TX5, 32, _, rfl, by decide, inX5, mw149, fun _ _ h => h⟩
theorem cwm_abs : Cond.code Lib.Math.abs.name Lib.Math.abs.code 1 (some .int) ∈ TB := tb2 56 (by decide +kernel) rfl
theorem cwm_min : Cond.code Lib.Math.min.name Lib.Math.min.code 2 (some .int) ∈ TB := tb2 90 (by decide +kernel) rfl
def tagO (q : Nat) : Nat := match sh[q]? with
  | some (.inr o) => o.1
  | _ => 99
theorem tagO_of {q ci : Nat} (h : isO q ci) : tagO q = ci ∧ q < 64 := by
  refine ⟨?_, by rw [← sh_len]; exact (List.getElem?_eq_some_iff.mp h).1⟩
  unfold tagO
  rw [show sh[q]? = some (.inr (ci, fO ci q)) from h]
theorem isO_0 {q : Nat} (h : isO q 0) : q = 14 ∨ q = 23 := by
  have key : ∀ q, q < 64 → tagO q = 0 → q = 14 ∨ q = 23 := by decide +kernel
  exact key q (tagO_of h).2 (tagO_of h).1
theorem ar0_0 {q : Nat} (h : isO q 0) : isA (q + 1) 320 := by
  rcases isO_0 h with rfl | rfl <;> rfl
theorem ar0_1 {q : Nat} (h : isO q 0) : isA (q + 2) 64 := by
  rcases isO_0 h with rfl | rfl <;> rfl
theorem ar0_2 {q : Nat} (h : isO q 0) : isA (q + 3) 64 := by
  rcases isO_0 h with rfl | rfl <;> rfl
theorem ar0_3 {q : Nat} (h : isO q 0) : isA (q + 4) 64 := by
  rcases isO_0 h with rfl | rfl <;> rfl
theorem ar0_4 {q : Nat} (h : isO q 0) : isA (q + 5) 64 := by
  rcases isO_0 h with rfl | rfl <;> rfl
theorem ar0_5 {q : Nat} (h : isO q 0) : isA (q + 6) 14 := by
  rcases isO_0 h with rfl | rfl <;> rfl
theorem ar0_6 {q : Nat} (h : isO q 0) : isA (q + 7) 14 := by
  rcases isO_0 h with rfl | rfl <;> rfl
theorem ar0_7 {q : Nat} (h : isO q 0) : isA (q + 8) 14 := by
  rcases isO_0 h with rfl | rfl <;> rfl
theorem isO_1 {q : Nat} (h : isO q 1) : q = 2 ∨ q = 8 := by
  have key : ∀ q, q < 64 → tagO q = 1 → q = 2 ∨ q = 8 := by decide +kernel
  exact key q (tagO_of h).2 (tagO_of h).1
theorem ar1_0 {q : Nat} (h : isO q 1) : isA (q + 1) 7 := by
  rcases isO_1 h with rfl | rfl <;> rfl
theorem ar1_1 {q : Nat} (h : isO q 1) : isA (q + 2) 7 := by
  rcases isO_1 h with rfl | rfl <;> rfl
theorem ar1_2 {q : Nat} (h : isO q 1) : isA (q + 3) 7 := by
  rcases isO_1 h with rfl | rfl <;> rfl
theorem ar1_3 {q : Nat} (h : isO q 1) : isA (q + 4) 7 := by
  rcases isO_1 h with rfl | rfl <;> rfl
theorem ar1_4 {q : Nat} (h : isO q 1) : isA (q + 5) 7 := by
  rcases isO_1 h with rfl | rfl <;> rfl
theorem isO_2 {q : Nat} (h : isO q 2) : q = 35 ∨ q = 37 ∨ q = 39 ∨ q = 41 := by
  have key : ∀ q, q < 64 → tagO q = 2 → q = 35 ∨ q = 37 ∨ q = 39 ∨ q = 41 := by decide +kernel
  exact key q (tagO_of h).2 (tagO_of h).1
theorem ar2_0 {q : Nat} (h : isO q 2) : isA (q + 1) 60 := by
  rcases isO_2 h with rfl | rfl | rfl | rfl <;> rfl
theorem cw_X3_anchorOf : Cond.code yX3_anchorOf cX3_anchorOf 1 (some .int) ∈ TB := tb1 237 rfl rfl
theorem cal_X3_anchorOf : gCalS J_X3_anchorOf yX3_anchorOf 1 := ⟨cw_X3_anchorOf, mw218, mw219, rfl, rfl, by decide +kernel, by decide +kernel, by decide +kernel⟩
theorem cw_X3_isDigit : Cond.code yX3_isDigit cX3_isDigit 1 (some .boolean) ∈ TB := tb1 234 rfl rfl
theorem cal_X3_isDigit : gCalS J_X3_isDigit yX3_isDigit 1 := ⟨cw_X3_isDigit, mw220, mw219, rfl, rfl, by decide +kernel, by decide +kernel, by decide +kernel⟩
theorem cw_X3_kindOf : Cond.code yX3_kindOf cX3_kindOf 1 (some .int) ∈ TB := tb1 231 rfl rfl
theorem cal_X3_kindOf : gCalS J_X3_kindOf yX3_kindOf 1 := ⟨cw_X3_kindOf, mw221, mw219, rfl, rfl, by decide +kernel, by decide +kernel, by decide +kernel⟩
theorem cw_X3_goesOnInLeft : Cond.code yX3_goesOnInLeft cX3_goesOnInLeft 4 (some .boolean) ∈ TB := tb1 228 rfl rfl
theorem cal_X3_goesOnInLeft : gCal J_X3_goesOnInLeft yX3_goesOnInLeft 3 2 := ⟨⟨TX3, 1, rfl⟩, cw_X3_goesOnInLeft, mw222, mw223, mw219, rfl, rfl, by decide +kernel, by decide +kernel, by decide +kernel⟩
theorem cw_X3_goesOnInRight : Cond.code yX3_goesOnInRight cX3_goesOnInRight 4 (some .boolean) ∈ TB := tb2 1 rfl rfl
theorem cal_X3_goesOnInRight : gCal J_X3_goesOnInRight yX3_goesOnInRight 3 2 := ⟨⟨TX3, 1, rfl⟩, cw_X3_goesOnInRight, mw224, mw225, mw219, rfl, rfl, by decide +kernel, by decide +kernel, by decide +kernel⟩
theorem cw_X1_begin : Cond.code yX1_begin cX1_begin 1 (none) ∈ TB := tb1 220 rfl rfl
theorem cal_X1_begin : gCal J_X1_begin yX1_begin 1 0 := ⟨⟨TX1, 10, rfl⟩, cw_X1_begin, mw226, mw227, mw228, rfl, rfl, by decide +kernel, by decide +kernel, by decide +kernel⟩
theorem cw_X3_goesOn : Cond.code yX3_goesOn cX3_goesOn 3 (some .boolean) ∈ TB := tb1 224 rfl rfl
theorem cal_X3_goesOn : gCal J_X3_goesOn yX3_goesOn 3 2 := ⟨⟨TX3, 1, rfl⟩, cw_X3_goesOn, mw229, mw230, mw219, rfl, rfl, by decide +kernel, by decide +kernel, by decide +kernel⟩
theorem cw_X4_isSheet : Cond.code yX4_isSheet cX4_isSheet 1 (some .boolean) ∈ TB := tb1 197 rfl rfl
theorem cal_X4_isSheet : gCalS J_X4_isSheet yX4_isSheet 1 := ⟨cw_X4_isSheet, mw231, mw232, rfl, rfl, by decide +kernel, by decide +kernel, by decide +kernel⟩
theorem cw_X4_isLane : Cond.code yX4_isLane cX4_isLane 1 (some .boolean) ∈ TB := tb1 200 rfl rfl
theorem cal_X4_isLane : gCalS J_X4_isLane yX4_isLane 1 := ⟨cw_X4_isLane, mw233, mw232, rfl, rfl, by decide +kernel, by decide +kernel, by decide +kernel⟩
theorem cw_X2_faultAs : Cond.code yX2_faultAs cX2_faultAs 2 (some .int) ∈ TB := tb1 204 rfl rfl
theorem cal_X2_faultAs : gCal J_X2_faultAs yX2_faultAs 2 1 := ⟨⟨TX2, 4, rfl⟩, cw_X2_faultAs, mw234, mw235, mw236, rfl, rfl, by decide +kernel, by decide +kernel, by decide +kernel⟩
theorem cw_X3_firstFault : Cond.code yX3_firstFault cX3_firstFault 6 (some .int) ∈ TB := tb1 216 rfl rfl
theorem cal_X3_firstFault : gCal J_X3_firstFault yX3_firstFault 3 4 := ⟨⟨TX3, 1, rfl⟩, cw_X3_firstFault, mw237, mw238, mw219, rfl, rfl, by decide +kernel, by decide +kernel, by decide +kernel⟩
theorem cw_X1_becomeLike : Cond.code yX1_becomeLike cX1_becomeLike 2 (none) ∈ TB := tb2 5 rfl rfl
theorem cal_X1_becomeLike : gCal J_X1_becomeLike yX1_becomeLike 1 1 := ⟨⟨TX1, 10, rfl⟩, cw_X1_becomeLike, mw239, mw240, mw228, rfl, rfl, by decide +kernel, by decide +kernel, by decide +kernel⟩
theorem cw_X4_failed : Cond.code yX4_failed cX4_failed 2 (some .int) ∈ TB := tb1 212 rfl rfl
theorem cal_X4_failed : gCal J_X4_failed yX4_failed 4 1 := ⟨⟨TX4, 12, rfl⟩, cw_X4_failed, mw241, mw242, mw232, rfl, rfl, by decide +kernel, by decide +kernel, by decide +kernel⟩
theorem cw_X2_hasCells : Cond.code yX2_hasCells cX2_hasCells 3 (some .boolean) ∈ TB := tb1 208 rfl rfl
theorem cal_X2_hasCells : gCal J_X2_hasCells yX2_hasCells 2 2 := ⟨⟨TX2, 4, rfl⟩, cw_X2_hasCells, mw243, mw244, mw236, rfl, rfl, by decide +kernel, by decide +kernel, by decide +kernel⟩
theorem cw_X1_hasRight : Cond.code yX1_hasRight cX1_hasRight 2 (some .boolean) ∈ TB := tb2 45 rfl rfl
theorem cal_X1_hasRight : gCal J_X1_hasRight yX1_hasRight 1 1 := ⟨⟨TX1, 10, rfl⟩, cw_X1_hasRight, mw245, mw246, mw228, rfl, rfl, by decide +kernel, by decide +kernel, by decide +kernel⟩
theorem cw_X1_hasLeft : Cond.code yX1_hasLeft cX1_hasLeft 2 (some .boolean) ∈ TB := tb2 16 rfl rfl
theorem cal_X1_hasLeft : gCal J_X1_hasLeft yX1_hasLeft 1 1 := ⟨⟨TX1, 10, rfl⟩, cw_X1_hasLeft, mw247, mw248, mw228, rfl, rfl, by decide +kernel, by decide +kernel, by decide +kernel⟩
theorem cw_X1_leftLength : Cond.code yX1_leftLength cX1_leftLength 2 (some .int) ∈ TB := tb2 20 rfl rfl
theorem cal_X1_leftLength : gCal J_X1_leftLength yX1_leftLength 1 1 := ⟨⟨TX1, 10, rfl⟩, cw_X1_leftLength, mw249, mw250, mw228, rfl, rfl, by decide +kernel, by decide +kernel, by decide +kernel⟩
theorem cw_X1_anchorSet : Cond.code yX1_anchorSet cX1_anchorSet 1 (some .int) ∈ TB := tb2 53 rfl rfl
theorem cal_X1_anchorSet : gCalS J_X1_anchorSet yX1_anchorSet 1 := ⟨cw_X1_anchorSet, mw251, mw228, rfl, rfl, by decide +kernel, by decide +kernel, by decide +kernel⟩
theorem cw_X1_hasPair : Cond.code yX1_hasPair cX1_hasPair 8 (some .boolean) ∈ TB := tb2 36 rfl rfl
theorem cal_X1_hasPair : gCal J_X1_hasPair yX1_hasPair 1 3 := ⟨⟨TX1, 10, rfl⟩, cw_X1_hasPair, mw252, mw253, mw228, rfl, rfl, by decide +kernel, by decide +kernel, by decide +kernel⟩
theorem cw_X1_pairCost : Cond.code yX1_pairCost cX1_pairCost 10 (some .int) ∈ TB := tb2 49 rfl rfl
theorem cal_X1_pairCost : gCal J_X1_pairCost yX1_pairCost 1 3 := ⟨⟨TX1, 10, rfl⟩, cw_X1_pairCost, mw254, mw255, mw228, rfl, rfl, by decide +kernel, by decide +kernel, by decide +kernel⟩
theorem cw_X0_end : Cond.code yX0_end cX0_end 1 (some .int) ∈ TB := tb2 70 rfl rfl
theorem cal_X0_end : gCal J_X0_end yX0_end 0 0 := ⟨⟨TX0, 11, rfl⟩, cw_X0_end, mw256, mw257, mw258, rfl, rfl, by decide +kernel, by decide +kernel, by decide +kernel⟩
theorem cw_X0_fillLeast : Cond.code yX0_fillLeast cX0_fillLeast 5 (none) ∈ TB := tb2 66 rfl rfl
theorem cal_X0_fillLeast : gCal J_X0_fillLeast yX0_fillLeast 0 1 := ⟨⟨TX0, 11, rfl⟩, cw_X0_fillLeast, mw259, mw260, mw258, rfl, rfl, by decide +kernel, by decide +kernel, by decide +kernel⟩
theorem cw_X0_orNone : Cond.code yX0_orNone cX0_orNone 1 (some .int) ∈ TB := tb2 75 rfl rfl
theorem cal_X0_orNone : gCalS J_X0_orNone yX0_orNone 1 := ⟨cw_X0_orNone, mw261, mw258, rfl, rfl, by decide +kernel, by decide +kernel, by decide +kernel⟩
theorem cw_X0_addOthers : Cond.code yX0_addOthers cX0_addOthers 7 (none) ∈ TB := tb2 87 rfl rfl
theorem cal_X0_addOthers : gCal J_X0_addOthers yX0_addOthers 0 4 := ⟨⟨TX0, 11, rfl⟩, cw_X0_addOthers, mw262, mw263, mw258, rfl, rfl, by decide +kernel, by decide +kernel, by decide +kernel⟩
theorem cw_X0_fillOthersAt : Cond.code yX0_fillOthersAt cX0_fillOthersAt 4 (none) ∈ TB := tb2 83 rfl rfl
theorem cal_X0_fillOthersAt : gCal J_X0_fillOthersAt yX0_fillOthersAt 0 1 := ⟨⟨TX0, 11, rfl⟩, cw_X0_fillOthersAt, mw264, mw265, mw258, rfl, rfl, by decide +kernel, by decide +kernel, by decide +kernel⟩
theorem cw_X0_take : Cond.code yX0_take cX0_take 6 (none) ∈ TB := tb2 32 rfl rfl
theorem cal_X0_take : gCal J_X0_take yX0_take 0 1 := ⟨⟨TX0, 11, rfl⟩, cw_X0_take, mw266, mw267, mw258, rfl, rfl, by decide +kernel, by decide +kernel, by decide +kernel⟩
theorem cw_X0_leastBy : Cond.code yX0_leastBy cX0_leastBy 5 (some .int) ∈ TB := tb2 61 rfl rfl
theorem cal_X0_leastBy : gCal J_X0_leastBy yX0_leastBy 0 1 := ⟨⟨TX0, 11, rfl⟩, cw_X0_leastBy, mw268, mw269, mw258, rfl, rfl, by decide +kernel, by decide +kernel, by decide +kernel⟩
theorem cw_X0_fillOthers : Cond.code yX0_fillOthers cX0_fillOthers 3 (none) ∈ TB := tb2 79 rfl rfl
theorem cal_X0_fillOthers : gCal J_X0_fillOthers yX0_fillOthers 0 0 := ⟨⟨TX0, 11, rfl⟩, cw_X0_fillOthers, mw270, mw271, mw258, rfl, rfl, by decide +kernel, by decide +kernel, by decide +kernel⟩
theorem cw_X0_walkBest : Cond.code yX0_walkBest cX0_walkBest 3 (none) ∈ TB := tb2 94 rfl rfl
theorem cal_X0_walkBest : gCal J_X0_walkBest yX0_walkBest 0 0 := ⟨⟨TX0, 11, rfl⟩, cw_X0_walkBest, mw272, mw273, mw258, rfl, rfl, by decide +kernel, by decide +kernel, by decide +kernel⟩
theorem cw_X0_align : Cond.code yX0_align cX0_align 2 (none) ∈ TB := tb2 28 rfl rfl
theorem cal_X0_align : gCal J_X0_align yX0_align 0 1 := ⟨⟨TX0, 11, rfl⟩, cw_X0_align, mw274, mw275, mw258, rfl, rfl, by decide +kernel, by decide +kernel, by decide +kernel⟩
theorem cw_X0_isIn : Cond.code yX0_isIn cX0_isIn 3 (some .boolean) ∈ TB := tb2 102 rfl rfl
theorem cal_X0_isIn : gCalS J_X0_isIn yX0_isIn 3 := ⟨cw_X0_isIn, mw276, mw258, rfl, rfl, by decide +kernel, by decide +kernel, by decide +kernel⟩
theorem cw_X0_setOf : Cond.code yX0_setOf cX0_setOf 2 (some .int) ∈ TB := tb2 106 rfl rfl
theorem cal_X0_setOf : gCalS J_X0_setOf yX0_setOf 2 := ⟨cw_X0_setOf, mw277, mw258, rfl, rfl, by decide +kernel, by decide +kernel, by decide +kernel⟩
theorem cw_X4_alignmentOfNow : Cond.code yX4_alignmentOfNow cX4_alignmentOfNow 1 (some (.object "BookPairs$Aligner")) ∈ TB := tb2 24 rfl rfl
theorem cal_X4_alignmentOfNow : gCal J_X4_alignmentOfNow yX4_alignmentOfNow 4 0 := ⟨⟨TX4, 12, rfl⟩, cw_X4_alignmentOfNow, mw278, mw279, mw232, rfl, rfl, by decide +kernel, by decide +kernel, by decide +kernel⟩
theorem cw_X0_rightsWith : Cond.code yX0_rightsWith cX0_rightsWith 4 (some .int) ∈ TB := tb2 98 rfl rfl
theorem cal_X0_rightsWith : gCal J_X0_rightsWith yX0_rightsWith 0 1 := ⟨⟨TX0, 11, rfl⟩, cw_X0_rightsWith, mw280, mw281, mw258, rfl, rfl, by decide +kernel, by decide +kernel, by decide +kernel⟩
theorem cw_X0_leftsWith : Cond.code yX0_leftsWith cX0_leftsWith 4 (some .int) ∈ TB := tb2 115 rfl rfl
theorem cal_X0_leftsWith : gCal J_X0_leftsWith yX0_leftsWith 0 1 := ⟨⟨TX0, 11, rfl⟩, cw_X0_leftsWith, mw282, mw283, mw258, rfl, rfl, by decide +kernel, by decide +kernel, by decide +kernel⟩
theorem cw_X4_isLetters : Cond.code yX4_isLetters cX4_isLetters 1 (some .boolean) ∈ TB := tb2 122 rfl rfl
theorem cal_X4_isLetters : gCalS J_X4_isLetters yX4_isLetters 1 := ⟨cw_X4_isLetters, mw284, mw232, rfl, rfl, by decide +kernel, by decide +kernel, by decide +kernel⟩
theorem cw_X1_areThere : Cond.code yX1_areThere cX1_areThere 1 (some .boolean) ∈ TB := tb2 130 rfl rfl
theorem cal_X1_areThere : gCal J_X1_areThere yX1_areThere 1 0 := ⟨⟨TX1, 10, rfl⟩, cw_X1_areThere, mw285, mw286, mw228, rfl, rfl, by decide +kernel, by decide +kernel, by decide +kernel⟩
theorem cw_X4_isPrice : Cond.code yX4_isPrice cX4_isPrice 2 (some .boolean) ∈ TB := tb2 133 rfl rfl
theorem cal_X4_isPrice : gCalS J_X4_isPrice yX4_isPrice 2 := ⟨cw_X4_isPrice, mw287, mw232, rfl, rfl, by decide +kernel, by decide +kernel, by decide +kernel⟩
theorem cw_X1_priceOf : Cond.code yX1_priceOf cX1_priceOf 2 (some .int) ∈ TB := tb2 137 rfl rfl
theorem cal_X1_priceOf : gCal J_X1_priceOf yX1_priceOf 1 1 := ⟨⟨TX1, 10, rfl⟩, cw_X1_priceOf, mw288, mw289, mw228, rfl, rfl, by decide +kernel, by decide +kernel, by decide +kernel⟩
theorem cw_X1_setPrice : Cond.code yX1_setPrice cX1_setPrice 3 (none) ∈ TB := tb2 141 rfl rfl
theorem cal_X1_setPrice : gCal J_X1_setPrice yX1_setPrice 1 2 := ⟨⟨TX1, 10, rfl⟩, cw_X1_setPrice, mw290, mw291, mw228, rfl, rfl, by decide +kernel, by decide +kernel, by decide +kernel⟩
theorem cw_X1_takeMoved : Cond.code yX1_takeMoved cX1_takeMoved 8 (none) ∈ TB := tb2 149 rfl rfl
theorem cal_X1_takeMoved : gCal J_X1_takeMoved yX1_takeMoved 1 4 := ⟨⟨TX1, 10, rfl⟩, cw_X1_takeMoved, mw292, mw293, mw228, rfl, rfl, by decide +kernel, by decide +kernel, by decide +kernel⟩
theorem cw_X0_answer : Cond.code yX0_answer cX0_answer 2 (some .int) ∈ TB := tb2 157 rfl rfl
theorem cal_X0_answer : gCal J_X0_answer yX0_answer 0 1 := ⟨⟨TX0, 11, rfl⟩, cw_X0_answer, mw294, mw295, mw258, rfl, rfl, by decide +kernel, by decide +kernel, by decide +kernel⟩
theorem cw_X0_costOfPair : Cond.code yX0_costOfPair cX0_costOfPair 2 (some .int) ∈ TB := tb2 165 rfl rfl
theorem cal_X0_costOfPair : gCal J_X0_costOfPair yX0_costOfPair 0 1 := ⟨⟨TX0, 11, rfl⟩, cw_X0_costOfPair, mw296, mw297, mw258, rfl, rfl, by decide +kernel, by decide +kernel, by decide +kernel⟩
theorem cw_X4_isSort : Cond.code yX4_isSort cX4_isSort 1 (some .boolean) ∈ TB := tb2 172 rfl rfl
theorem cal_X4_isSort : gCalS J_X4_isSort yX4_isSort 1 := ⟨cw_X4_isSort, mw298, mw232, rfl, rfl, by decide +kernel, by decide +kernel, by decide +kernel⟩
theorem cw_X4_isAct : Cond.code yX4_isAct cX4_isAct 4 (some .boolean) ∈ TB := tb2 187 rfl rfl
theorem cal_X4_isAct : gCalS J_X4_isAct yX4_isAct 2 := ⟨cw_X4_isAct, mw299, mw232, rfl, rfl, by decide +kernel, by decide +kernel, by decide +kernel⟩
theorem cw_X1_takeAct : Cond.code yX1_takeAct cX1_takeAct 3 (some .boolean) ∈ TB := tb2 195 rfl rfl
theorem cal_X1_takeAct : gCal J_X1_takeAct yX1_takeAct 1 2 := ⟨⟨TX1, 10, rfl⟩, cw_X1_takeAct, mw300, mw301, mw228, rfl, rfl, by decide +kernel, by decide +kernel, by decide +kernel⟩
theorem cw_X4_isAskedOfDay : Cond.code yX4_isAskedOfDay cX4_isAskedOfDay 1 (some .boolean) ∈ TB := tb2 181 rfl rfl
theorem cal_X4_isAskedOfDay : gCalS J_X4_isAskedOfDay yX4_isAskedOfDay 1 := ⟨cw_X4_isAskedOfDay, mw302, mw232, rfl, rfl, by decide +kernel, by decide +kernel, by decide +kernel⟩
theorem cw_X4_areActs : Cond.code yX4_areActs cX4_areActs 4 (some .boolean) ∈ TB := tb2 184 rfl rfl
theorem cal_X4_areActs : gCalS J_X4_areActs yX4_areActs 3 := ⟨cw_X4_areActs, mw303, mw232, rfl, rfl, by decide +kernel, by decide +kernel, by decide +kernel⟩
theorem cw_X4_supposeDay : Cond.code yX4_supposeDay cX4_supposeDay 5 (some .int) ∈ TB := tb2 191 rfl rfl
theorem cal_X4_supposeDay : gCal J_X4_supposeDay yX4_supposeDay 4 3 := ⟨⟨TX4, 12, rfl⟩, cw_X4_supposeDay, mw304, mw305, mw232, rfl, rfl, by decide +kernel, by decide +kernel, by decide +kernel⟩
theorem cw_X4_answerOfDay : Cond.code yX4_answerOfDay cX4_answerOfDay 3 (some .int) ∈ TB := tb2 200 rfl rfl
theorem cal_X4_answerOfDay : gCal J_X4_answerOfDay yX4_answerOfDay 4 2 := ⟨⟨TX4, 12, rfl⟩, cw_X4_answerOfDay, mw306, mw307, mw232, rfl, rfl, by decide +kernel, by decide +kernel, by decide +kernel⟩
theorem cw_X4_readingsHoldIfSupposed : Cond.code yX4_readingsHoldIfSupposed cX4_readingsHoldIfSupposed 2 (some .boolean) ∈ TB := tb2 226 rfl rfl
theorem cal_X4_readingsHoldIfSupposed : gCal J_X4_readingsHoldIfSupposed yX4_readingsHoldIfSupposed 4 0 := ⟨⟨TX4, 12, rfl⟩, cw_X4_readingsHoldIfSupposed, mw308, mw309, mw232, rfl, rfl, by decide +kernel, by decide +kernel, by decide +kernel⟩
theorem cw_X0_howManyOf : Cond.code yX0_howManyOf cX0_howManyOf 4 (some .int) ∈ TB := tb2 239 rfl rfl
theorem cal_X0_howManyOf : gCal J_X0_howManyOf yX0_howManyOf 0 1 := ⟨⟨TX0, 11, rfl⟩, cw_X0_howManyOf, mw310, mw311, mw258, rfl, rfl, by decide +kernel, by decide +kernel, by decide +kernel⟩
theorem cw_X4_commonDivisor : Cond.code yX4_commonDivisor cX4_commonDivisor 3 (some .int) ∈ TB := tb3 2 rfl rfl
theorem cal_X4_commonDivisor : gCalS J_X4_commonDivisor yX4_commonDivisor 2 := ⟨cw_X4_commonDivisor, mw312, mw232, rfl, rfl, by decide +kernel, by decide +kernel, by decide +kernel⟩
theorem cw_J7_fill_53178 : Cond.code yJ7_fill_53178 cJ7_fill_53178 4 (none) ∈ TB := tb3 13 rfl rfl
theorem cal_J7_fill_53178 : gCalS J_J7_fill_53178 yJ7_fill_53178 2 := ⟨cw_J7_fill_53178, mw313, mw314, rfl, rfl, by decide +kernel, by decide +kernel, by decide +kernel⟩
theorem cw_X2_begin : Cond.code yX2_begin cX2_begin 3 (none) ∈ TB := tb3 10 rfl rfl
theorem cal_X2_begin : gCal J_X2_begin yX2_begin 2 2 := ⟨⟨TX2, 4, rfl⟩, cw_X2_begin, mw315, mw316, mw236, rfl, rfl, by decide +kernel, by decide +kernel, by decide +kernel⟩
theorem cw_X2_cut : Cond.code yX2_cut cX2_cut 2 (some .int) ∈ TB := tb3 25 rfl rfl
theorem cal_X2_cut : gCal J_X2_cut yX2_cut 2 1 := ⟨⟨TX2, 4, rfl⟩, cw_X2_cut, mw317, mw318, mw236, rfl, rfl, by decide +kernel, by decide +kernel, by decide +kernel⟩
theorem cw_X4_leaveTrace : Cond.code yX4_leaveTrace cX4_leaveTrace 2 (none) ∈ TB := tb3 46 rfl rfl
theorem cal_X4_leaveTrace : gCal J_X4_leaveTrace yX4_leaveTrace 4 1 := ⟨⟨TX4, 12, rfl⟩, cw_X4_leaveTrace, mw319, mw320, mw232, rfl, rfl, by decide +kernel, by decide +kernel, by decide +kernel⟩
theorem cw_X4_plainBody : Cond.code yX4_plainBody cX4_plainBody 2 (some .int) ∈ TB := tb3 54 rfl rfl
theorem cal_X4_plainBody : gCal J_X4_plainBody yX4_plainBody 4 1 := ⟨⟨TX4, 12, rfl⟩, cw_X4_plainBody, mw321, mw322, mw232, rfl, rfl, by decide +kernel, by decide +kernel, by decide +kernel⟩
theorem cw_X4_longBody : Cond.code yX4_longBody cX4_longBody 2 (some .int) ∈ TB := tb3 50 rfl rfl
theorem cal_X4_longBody : gCal J_X4_longBody yX4_longBody 4 1 := ⟨⟨TX4, 12, rfl⟩, cw_X4_longBody, mw323, mw324, mw232, rfl, rfl, by decide +kernel, by decide +kernel, by decide +kernel⟩
theorem cw_X4_doubleBody : Cond.code yX4_doubleBody cX4_doubleBody 3 (some .int) ∈ TB := tb3 42 rfl rfl
theorem cal_X4_doubleBody : gCal J_X4_doubleBody yX4_doubleBody 4 1 := ⟨⟨TX4, 12, rfl⟩, cw_X4_doubleBody, mw325, mw326, mw232, rfl, rfl, by decide +kernel, by decide +kernel, by decide +kernel⟩
theorem cw_X4_lentBody : Cond.code yX4_lentBody cX4_lentBody 2 (some .int) ∈ TB := tb3 66 rfl rfl
theorem cal_X4_lentBody : gCal J_X4_lentBody yX4_lentBody 4 1 := ⟨⟨TX4, 12, rfl⟩, cw_X4_lentBody, mw327, mw328, mw232, rfl, rfl, by decide +kernel, by decide +kernel, by decide +kernel⟩
theorem cw_X4_doublesOwnBody : Cond.code yX4_doublesOwnBody cX4_doublesOwnBody 2 (some .int) ∈ TB := tb3 62 rfl rfl
theorem cal_X4_doublesOwnBody : gCal J_X4_doublesOwnBody yX4_doublesOwnBody 4 1 := ⟨⟨TX4, 12, rfl⟩, cw_X4_doublesOwnBody, mw329, mw330, mw232, rfl, rfl, by decide +kernel, by decide +kernel, by decide +kernel⟩
theorem cw_X5_within : Cond.code yX5_within cX5_within 3 (some .boolean) ∈ TB := tb3 195 rfl rfl
theorem cal_X5_within : gCalS J_X5_within yX5_within 3 := ⟨cw_X5_within, mw331, mw332, rfl, rfl, by decide +kernel, by decide +kernel, by decide +kernel⟩
theorem cw_X5_isSign : Cond.code yX5_isSign cX5_isSign 3 (some .boolean) ∈ TB := tb3 214 rfl rfl
theorem cal_X5_isSign : gCal J_X5_isSign yX5_isSign 5 2 := ⟨⟨TX5, 32, rfl⟩, cw_X5_isSign, mw333, mw334, mw332, rfl, rfl, by decide +kernel, by decide +kernel, by decide +kernel⟩
theorem cw_X5_readKindNext : Cond.code yX5_readKindNext cX5_readKindNext 3 (some .boolean) ∈ TB := tb3 218 rfl rfl
theorem cal_X5_readKindNext : gCal J_X5_readKindNext yX5_readKindNext 5 1 := ⟨⟨TX5, 32, rfl⟩, cw_X5_readKindNext, mw335, mw336, mw332, rfl, rfl, by decide +kernel, by decide +kernel, by decide +kernel⟩
theorem cw_X5_readSentence : Cond.code yX5_readSentence cX5_readSentence 3 (some .boolean) ∈ TB := tb3 222 rfl rfl
theorem cal_X5_readSentence : gCal J_X5_readSentence yX5_readSentence 5 2 := ⟨⟨TX5, 32, rfl⟩, cw_X5_readSentence, mw337, mw338, mw332, rfl, rfl, by decide +kernel, by decide +kernel, by decide +kernel⟩
theorem cw_X5_isSheet : Cond.code yX5_isSheet cX5_isSheet 1 (some .boolean) ∈ TB := tb3 192 rfl rfl
theorem cal_X5_isSheet : gCalS J_X5_isSheet yX5_isSheet 1 := ⟨cw_X5_isSheet, mw339, mw332, rfl, rfl, by decide +kernel, by decide +kernel, by decide +kernel⟩
theorem cw_X5_isSort : Cond.code yX5_isSort cX5_isSort 1 (some .boolean) ∈ TB := tb3 198 rfl rfl
theorem cal_X5_isSort : gCalS J_X5_isSort yX5_isSort 1 := ⟨cw_X5_isSort, mw340, mw332, rfl, rfl, by decide +kernel, by decide +kernel, by decide +kernel⟩
theorem cw_X5_against : Cond.code yX5_against cX5_against 5 (some .int) ∈ TB := tb3 202 rfl rfl
theorem cal_X5_against : gCal J_X5_against yX5_against 5 4 := ⟨⟨TX5, 32, rfl⟩, cw_X5_against, mw341, mw342, mw332, rfl, rfl, by decide +kernel, by decide +kernel, by decide +kernel⟩
theorem cw_X5_readAll : Cond.code yX5_readAll cX5_readAll 2 (some .boolean) ∈ TB := tb3 210 rfl rfl
theorem cal_X5_readAll : gCal J_X5_readAll yX5_readAll 5 1 := ⟨⟨TX5, 32, rfl⟩, cw_X5_readAll, mw343, mw344, mw332, rfl, rfl, by decide +kernel, by decide +kernel, by decide +kernel⟩
theorem cw_X5_fails : Cond.code yX5_fails cX5_fails 2 (some .int) ∈ TB := tb3 206 rfl rfl
theorem cal_X5_fails : gCal J_X5_fails yX5_fails 5 1 := ⟨⟨TX5, 32, rfl⟩, cw_X5_fails, mw345, mw346, mw332, rfl, rfl, by decide +kernel, by decide +kernel, by decide +kernel⟩
theorem cw_X5_leftsOf : Cond.code yX5_leftsOf cX5_leftsOf 1 (some .int) ∈ TB := tb4 14 rfl rfl
theorem cal_X5_leftsOf : gCalS J_X5_leftsOf yX5_leftsOf 1 := ⟨cw_X5_leftsOf, mw347, mw332, rfl, rfl, by decide +kernel, by decide +kernel, by decide +kernel⟩
theorem cw_X5_lengthOf : Cond.code yX5_lengthOf cX5_lengthOf 2 (some .int) ∈ TB := tb3 234 rfl rfl
theorem cal_X5_lengthOf : gCal J_X5_lengthOf yX5_lengthOf 5 1 := ⟨⟨TX5, 32, rfl⟩, cw_X5_lengthOf, mw348, mw349, mw332, rfl, rfl, by decide +kernel, by decide +kernel, by decide +kernel⟩
theorem cw_X5_anchorSet : Cond.code yX5_anchorSet cX5_anchorSet 1 (some .int) ∈ TB := tb4 24 rfl rfl
theorem cal_X5_anchorSet : gCalS J_X5_anchorSet yX5_anchorSet 1 := ⟨cw_X5_anchorSet, mw350, mw332, rfl, rfl, by decide +kernel, by decide +kernel, by decide +kernel⟩
theorem cw_X5_rightsOf : Cond.code yX5_rightsOf cX5_rightsOf 1 (some .int) ∈ TB := tb4 17 rfl rfl
theorem cal_X5_rightsOf : gCalS J_X5_rightsOf yX5_rightsOf 1 := ⟨cw_X5_rightsOf, mw351, mw332, rfl, rfl, by decide +kernel, by decide +kernel, by decide +kernel⟩
theorem cw_X5_isStand : Cond.code yX5_isStand cX5_isStand 4 (some .boolean) ∈ TB := tb4 11 rfl rfl
theorem cal_X5_isStand : gCal J_X5_isStand yX5_isStand 5 3 := ⟨⟨TX5, 32, rfl⟩, cw_X5_isStand, mw352, mw353, mw332, rfl, rfl, by decide +kernel, by decide +kernel, by decide +kernel⟩
theorem cw_X5_costOf : Cond.code yX5_costOf cX5_costOf 8 (some .int) ∈ TB := tb4 21 rfl rfl
theorem cal_X5_costOf : gCal J_X5_costOf yX5_costOf 5 3 := ⟨⟨TX5, 32, rfl⟩, cw_X5_costOf, mw354, mw355, mw332, rfl, rfl, by decide +kernel, by decide +kernel, by decide +kernel⟩
theorem cw_X5_comes : Cond.code yX5_comes cX5_comes 4 (none) ∈ TB := tb4 28 rfl rfl
theorem cal_X5_comes : gCal J_X5_comes yX5_comes 5 3 := ⟨⟨TX5, 32, rfl⟩, cw_X5_comes, mw356, mw357, mw332, rfl, rfl, by decide +kernel, by decide +kernel, by decide +kernel⟩
theorem cw_X5_findStand : Cond.code yX5_findStand cX5_findStand 10 (none) ∈ TB := tb4 6 rfl rfl
theorem cal_X5_findStand : gCal J_X5_findStand yX5_findStand 5 3 := ⟨⟨TX5, 32, rfl⟩, cw_X5_findStand, mw358, mw359, mw332, rfl, rfl, by decide +kernel, by decide +kernel, by decide +kernel⟩
theorem cw_X5_findAll : Cond.code yX5_findAll cX5_findAll 4 (some .int) ∈ TB := tb4 2 rfl rfl
theorem cal_X5_findAll : gCal J_X5_findAll yX5_findAll 5 1 := ⟨⟨TX5, 32, rfl⟩, cw_X5_findAll, mw360, mw361, mw332, rfl, rfl, by decide +kernel, by decide +kernel, by decide +kernel⟩
theorem cw_X5_isOnBest : Cond.code yX5_isOnBest cX5_isOnBest 6 (some .boolean) ∈ TB := tb4 32 rfl rfl
theorem cal_X5_isOnBest : gCal J_X5_isOnBest yX5_isOnBest 5 3 := ⟨⟨TX5, 32, rfl⟩, cw_X5_isOnBest, mw362, mw363, mw332, rfl, rfl, by decide +kernel, by decide +kernel, by decide +kernel⟩
theorem cw_X5_isLeft : Cond.code yX5_isLeft cX5_isLeft 2 (some .boolean) ∈ TB := tb3 230 rfl rfl
theorem cal_X5_isLeft : gCal J_X5_isLeft yX5_isLeft 5 1 := ⟨⟨TX5, 32, rfl⟩, cw_X5_isLeft, mw364, mw365, mw332, rfl, rfl, by decide +kernel, by decide +kernel, by decide +kernel⟩
theorem cw_X5_findBest : Cond.code yX5_findBest cX5_findBest 5 (some .int) ∈ TB := tb3 238 rfl rfl
theorem cal_X5_findBest : gCal J_X5_findBest yX5_findBest 5 0 := ⟨⟨TX5, 32, rfl⟩, cw_X5_findBest, mw366, mw367, mw332, rfl, rfl, by decide +kernel, by decide +kernel, by decide +kernel⟩
theorem cw_X5_pairedWith : Cond.code yX5_pairedWith cX5_pairedWith 9 (some .int) ∈ TB := tb4 36 rfl rfl
theorem cal_X5_pairedWith : gCal J_X5_pairedWith yX5_pairedWith 5 2 := ⟨⟨TX5, 32, rfl⟩, cw_X5_pairedWith, mw368, mw369, mw332, rfl, rfl, by decide +kernel, by decide +kernel, by decide +kernel⟩
theorem cw_X5_isRight : Cond.code yX5_isRight cX5_isRight 2 (some .boolean) ∈ TB := tb4 44 rfl rfl
theorem cal_X5_isRight : gCal J_X5_isRight yX5_isRight 5 1 := ⟨⟨TX5, 32, rfl⟩, cw_X5_isRight, mw370, mw371, mw332, rfl, rfl, by decide +kernel, by decide +kernel, by decide +kernel⟩
theorem cw_X5_goesUp : Cond.code yX5_goesUp cX5_goesUp 4 (none) ∈ TB := tb4 60 rfl rfl
theorem cal_X5_goesUp : gCal J_X5_goesUp yX5_goesUp 5 1 := ⟨⟨TX5, 32, rfl⟩, cw_X5_goesUp, mw372, mw373, mw332, rfl, rfl, by decide +kernel, by decide +kernel, by decide +kernel⟩
theorem cw_X5_tellBest : Cond.code yX5_tellBest cX5_tellBest 3 (some .int) ∈ TB := tb4 68 rfl rfl
theorem cal_X5_tellBest : gCal J_X5_tellBest yX5_tellBest 5 1 := ⟨⟨TX5, 32, rfl⟩, cw_X5_tellBest, mw374, mw375, mw332, rfl, rfl, by decide +kernel, by decide +kernel, by decide +kernel⟩
theorem cw_X5_does : Cond.code yX5_does cX5_does 3 (some .boolean) ∈ TB := tb4 95 rfl rfl
theorem cal_X5_does : gCal J_X5_does yX5_does 5 2 := ⟨⟨TX5, 32, rfl⟩, cw_X5_does, mw376, mw377, mw332, rfl, rfl, by decide +kernel, by decide +kernel, by decide +kernel⟩
theorem cw_X5_isPair : Cond.code yX5_isPair cX5_isPair 2 (some .boolean) ∈ TB := tb4 83 rfl rfl
theorem cal_X5_isPair : gCalS J_X5_isPair yX5_isPair 2 := ⟨cw_X5_isPair, mw378, mw332, rfl, rfl, by decide +kernel, by decide +kernel, by decide +kernel⟩
theorem cw_X5_keep : Cond.code yX5_keep cX5_keep 2 (none) ∈ TB := tb4 87 rfl rfl
theorem cal_X5_keep : gCal J_X5_keep yX5_keep 5 0 := ⟨⟨TX5, 32, rfl⟩, cw_X5_keep, mw379, mw380, mw332, rfl, rfl, by decide +kernel, by decide +kernel, by decide +kernel⟩
theorem cw_X5_goDay : Cond.code yX5_goDay cX5_goDay 4 (some .int) ∈ TB := tb4 91 rfl rfl
theorem cal_X5_goDay : gCal J_X5_goDay yX5_goDay 5 2 := ⟨⟨TX5, 32, rfl⟩, cw_X5_goDay, mw381, mw382, mw332, rfl, rfl, by decide +kernel, by decide +kernel, by decide +kernel⟩
theorem cw_X5_tellDay : Cond.code yX5_tellDay cX5_tellDay 2 (some .int) ∈ TB := tb4 99 rfl rfl
theorem cal_X5_tellDay : gCal J_X5_tellDay yX5_tellDay 5 1 := ⟨⟨TX5, 32, rfl⟩, cw_X5_tellDay, mw383, mw384, mw332, rfl, rfl, by decide +kernel, by decide +kernel, by decide +kernel⟩
theorem cw_X5_putBack : Cond.code yX5_putBack cX5_putBack 2 (none) ∈ TB := tb4 103 rfl rfl
theorem cal_X5_putBack : gCal J_X5_putBack yX5_putBack 5 0 := ⟨⟨TX5, 32, rfl⟩, cw_X5_putBack, mw385, mw386, mw332, rfl, rfl, by decide +kernel, by decide +kernel, by decide +kernel⟩
theorem cw_X5_areSo : Cond.code yX5_areSo cX5_areSo 2 (some .boolean) ∈ TB := tb4 127 rfl rfl
theorem cal_X5_areSo : gCal J_X5_areSo yX5_areSo 5 0 := ⟨⟨TX5, 32, rfl⟩, cw_X5_areSo, mw387, mw388, mw332, rfl, rfl, by decide +kernel, by decide +kernel, by decide +kernel⟩
theorem cw_X5_inLeastTerms : Cond.code yX5_inLeastTerms cX5_inLeastTerms 11 (some .long) ∈ TB := tb4 139 rfl rfl
theorem cal_X5_inLeastTerms : gCalS J_X5_inLeastTerms yX5_inLeastTerms 3 := ⟨cw_X5_inLeastTerms, mw389, mw332, rfl, rfl, by decide +kernel, by decide +kernel, by decide +kernel⟩
theorem cw_X5_lost : Cond.code yX5_lost cX5_lost 2 (some .long) ∈ TB := tb4 159 rfl rfl
theorem cal_X5_lost : gCal J_X5_lost yX5_lost 5 1 := ⟨⟨TX5, 32, rfl⟩, cw_X5_lost, mw390, mw391, mw332, rfl, rfl, by decide +kernel, by decide +kernel, by decide +kernel⟩
theorem cw_X5_begins : Cond.code yX5_begins cX5_begins 2 (none) ∈ TB := tb4 171 rfl rfl
theorem cal_X5_begins : gCal J_X5_begins yX5_begins 5 1 := ⟨⟨TX5, 32, rfl⟩, cw_X5_begins, mw392, mw393, mw332, rfl, rfl, by decide +kernel, by decide +kernel, by decide +kernel⟩

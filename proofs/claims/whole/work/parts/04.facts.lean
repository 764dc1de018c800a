/-! the methods, and facts of pools and methods -/
abbrev M_J0_charAt_5068e : sM := (yJ0_charAt_5068e, cJ0_charAt_5068e, 2, (some .char), none)
abbrev M_J0_checkIndex_df160 : sM := (yJ0_checkIndex_df160, cJ0_checkIndex_df160, 2, none, none)
abbrev M_J0_coder_7d493 : sM := (yJ0_coder_7d493, cJ0_coder_7d493, 1, (some .byte), none)
abbrev M_J0_isLatin1_aae02 : sM := (yJ0_isLatin1_aae02, cJ0_isLatin1_aae02, 1, (some .boolean), none)
abbrev M_J0_length_8abf5 : sM := (yJ0_length_8abf5, cJ0_length_8abf5, 1, (some .int), none)
abbrev M_J13_bitCount_95d88 : sM := (yJ13_bitCount_95d88, cJ13_bitCount_95d88, 2, (some .int), none)
abbrev M_J13_numberOfTrailingZeros_95d88 : sM := (yJ13_numberOfTrailingZeros_95d88, cJ13_numberOfTrailingZeros_95d88, 3, (some .int), none)
abbrev M_J1_charAt_3b067 : sM := (yJ1_charAt_3b067, cJ1_charAt_3b067, 2, (some .char), none)
abbrev M_J2_charAt_3b067 : sM := (yJ2_charAt_3b067, cJ2_charAt_3b067, 2, (some .char), none)
abbrev M_J2_checkIndex_2214a : sM := (yJ2_checkIndex_2214a, cJ2_checkIndex_2214a, 2, none, none)
abbrev M_J2_getChar_3b067 : sM := (yJ2_getChar_3b067, cJ2_getChar_3b067, 2, (some .char), none)
abbrev M_J2_length_9d52b : sM := (yJ2_length_9d52b, cJ2_length_9d52b, 1, (some .int), none)
abbrev M_J3_checkIndex_8e157 : sM := (yJ3_checkIndex_8e157, cJ3_checkIndex_8e157, 3, (some .int), none)
abbrev M_J6_bitCount_0f7a4 : sM := (yJ6_bitCount_0f7a4, cJ6_bitCount_0f7a4, 1, (some .int), none)
abbrev M_J6_numberOfTrailingZeros_0f7a4 : sM := (yJ6_numberOfTrailingZeros_0f7a4, cJ6_numberOfTrailingZeros_0f7a4, 2, (some .int), none)
abbrev M_J7_copyOf_59c91 : sM := (yJ7_copyOf_59c91, cJ7_copyOf_59c91, 3, (some (.array .int)), none)
abbrev M_J7_fill_53178 : sM := (yJ7_fill_53178, cJ7_fill_53178, 4, none, none)
abbrev M_J7_fill_d0a16 : sM := (yJ7_fill_d0a16, cJ7_fill_d0a16, 5, none, none)
abbrev M_J9_max_7cf53 : sM := (yJ9_max_7cf53, cJ9_max_7cf53, 2, (some .int), none)
abbrev M_J9_min_7cf53 : sM := (yJ9_min_7cf53, cJ9_min_7cf53, 2, (some .int), none)
abbrev M_L_agree : sM := (yL_agree, cL_agree, 5, (some .int), (some [(0, 10, 13, 27)]))
abbrev M_L_alike : sM := (yL_alike, cL_alike, 4, (some .int), (some [(0, 9, 12, 27)]))
abbrev M_L_beliefs : sM := (yL_beliefs, cL_beliefs, 4, (some .int), (some [(0, 9, 12, 27)]))
abbrev M_L_believe : sM := (yL_believe, cL_believe, 6, (some .int), (some [(0, 19, 22, 27)]))
abbrev M_L_chain : sM := (yL_chain, cL_chain, 4, (some .int), (some [(0, 9, 12, 27)]))
abbrev M_L_cheapest : sM := (yL_cheapest, cL_cheapest, 6, (some .int), (some [(0, 12, 15, 27)]))
abbrev M_L_core : sM := (yL_core, cL_core, 4, (some .int), (some [(0, 9, 12, 13)]))
abbrev M_L_counter : sM := (yL_counter, cL_counter, 5, (some .int), (some [(0, 10, 13, 27)]))
abbrev M_L_falls : sM := (yL_falls, cL_falls, 5, (some .int), (some [(0, 9, 12, 27)]))
abbrev M_L_follows : sM := (yL_follows, cL_follows, 5, (some .int), (some [(0, 17, 20, 27)]))
abbrev M_L_formula : sM := (yL_formula, cL_formula, 3, (some .int), (some [(0, 8, 11, 13), (0, 8, 14, 15)]))
abbrev M_L_forward : sM := (yL_forward, cL_forward, 6, (some .int), (some [(0, 12, 15, 27)]))
abbrev M_L_gains : sM := (yL_gains, cL_gains, 5, (some .int), (some [(0, 10, 13, 27), (0, 10, 17, 13)]))
abbrev M_L_holds : sM := (yL_holds, cL_holds, 5, (some .int), (some [(0, 17, 20, 27), (0, 17, 24, 13)]))
abbrev M_L_idle : sM := (yL_idle, cL_idle, 4, (some .int), (some [(0, 9, 12, 27)]))
abbrev M_L_is : sM := (yL_is, cL_is, 5, (some .int), (some [(0, 17, 20, 27), (0, 17, 24, 61)]))
abbrev M_L_lastly : sM := (yL_lastly, cL_lastly, 6, (some .int), (some [(0, 12, 15, 27)]))
abbrev M_L_law : sM := (yL_law, cL_law, 8, (some .boolean), none)
abbrev M_L_line : sM := (yL_line, cL_line, 9, (some .int), (some [(0, 18, 21, 27), (0, 18, 25, 13), (0, 18, 29, 15)]))
abbrev M_L_look : sM := (yL_look, cL_look, 5, (some .int), (some [(0, 10, 13, 27), (0, 10, 17, 61)]))
abbrev M_L_more : sM := (yL_more, cL_more, 5, (some .int), (some [(0, 10, 13, 27)]))
abbrev M_L_needs : sM := (yL_needs, cL_needs, 4, (some .int), (some [(0, 8, 11, 27)]))
abbrev M_L_owes : sM := (yL_owes, cL_owes, 6, (some .int), (some [(0, 12, 15, 27), (0, 12, 19, 13)]))
abbrev M_L_price : sM := (yL_price, cL_price, 6, (some .int), (some [(0, 12, 15, 27), (0, 12, 19, 13)]))
abbrev M_L_refunds : sM := (yL_refunds, cL_refunds, 4, (some .int), (some [(0, 9, 12, 13)]))
abbrev M_L_resold : sM := (yL_resold, cL_resold, 6, (some .int), (some [(0, 12, 15, 27)]))
abbrev M_L_rests : sM := (yL_rests, cL_rests, 4, (some .int), (some [(0, 8, 11, 27)]))
abbrev M_L_rules : sM := (yL_rules, cL_rules, 5, (some .int), (some [(0, 10, 13, 27), (0, 10, 17, 13)]))
abbrev M_L_same : sM := (yL_same, cL_same, 5, (some .int), (some [(0, 17, 20, 27)]))
abbrev M_L_sell : sM := (yL_sell, cL_sell, 7, (some .int), (some [(0, 14, 17, 27), (0, 14, 21, 13), (0, 14, 25, 15)]))
abbrev M_L_signs : sM := (yL_signs, cL_signs, 4, (some .int), (some [(0, 9, 12, 27)]))
abbrev M_L_spent : sM := (yL_spent, cL_spent, 4, (some .int), (some [(0, 9, 12, 27)]))
abbrev M_L_things : sM := (yL_things, cL_things, 3, (some .int), (some [(0, 5, 8, 13), (0, 5, 11, 21)]))
abbrev M_L_truths : sM := (yL_truths, cL_truths, 4, (some .int), (some [(0, 9, 12, 13)]))
abbrev M_L_undo : sM := (yL_undo, cL_undo, 4, (some .int), (some [(0, 16, 19, 27)]))
abbrev M_L_where : sM := (yL_where, cL_where, 5, (some .int), (some [(0, 10, 13, 27)]))
abbrev M_L_withdraw : sM := (yL_withdraw, cL_withdraw, 4, (some .int), (some [(0, 9, 12, 13)]))
abbrev M_L_worlds : sM := (yL_worlds, cL_worlds, 4, (some .int), (some [(0, 9, 12, 27)]))
abbrev M_X0_areEach : sM := (yX0_areEach, cX0_areEach, 4, (some .boolean), none)
abbrev M_X0_asked : sM := (yX0_asked, cX0_asked, 2, (some .int), none)
abbrev M_X0_audit : sM := (yX0_audit, cX0_audit, 6, none, none)
abbrev M_X0_boughtInRow : sM := (yX0_boughtInRow, cX0_boughtInRow, 5, (some .int), none)
abbrev M_X0_costOf : sM := (yX0_costOf, cX0_costOf, 3, (some .int), none)
abbrev M_X0_costOfAll : sM := (yX0_costOfAll, cX0_costOfAll, 6, (some .int), none)
abbrev M_X0_firstWrong : sM := (yX0_firstWrong, cX0_firstWrong, 2, (some .int), none)
abbrev M_X0_fits : sM := (yX0_fits, cX0_fits, 7, (some .boolean), none)
abbrev M_X0_fitsCases : sM := (yX0_fitsCases, cX0_fitsCases, 5, (some .boolean), none)
abbrev M_X0_fitsPlain : sM := (yX0_fitsPlain, cX0_fitsPlain, 5, (some .boolean), none)
abbrev M_X0_init : sM := (yX0_init, cX0_init, 3, none, none)
abbrev M_X0_isHonest : sM := (yX0_isHonest, cX0_isHonest, 3, (some .boolean), none)
abbrev M_X0_isPlaced : sM := (yX0_isPlaced, cX0_isPlaced, 4, (some .boolean), none)
abbrev M_X0_isSaved : sM := (yX0_isSaved, cX0_isSaved, 5, (some .boolean), none)
abbrev M_X0_linesOf : sM := (yX0_linesOf, cX0_linesOf, 5, (some .long), none)
abbrev M_X0_premisesOf : sM := (yX0_premisesOf, cX0_premisesOf, 4, (some .int), none)
abbrev M_X0_staleIf : sM := (yX0_staleIf, cX0_staleIf, 9, (some .long), none)
abbrev M_X0_standsOnSound : sM := (yX0_standsOnSound, cX0_standsOnSound, 4, (some .boolean), none)
abbrev M_X0_tells : sM := (yX0_tells, cX0_tells, 3, (some .boolean), none)
abbrev M_X1_addFormula : sM := (yX1_addFormula, cX1_addFormula, 4, (some .int), none)
abbrev M_X1_addLine : sM := (yX1_addLine, cX1_addLine, 8, (some .int), none)
abbrev M_X1_addReceipt : sM := (yX1_addReceipt, cX1_addReceipt, 6, (some .int), none)
abbrev M_X1_costOf : sM := (yX1_costOf, cX1_costOf, 4, (some .int), none)
abbrev M_X1_hasRule : sM := (yX1_hasRule, cX1_hasRule, 3, (some .boolean), none)
abbrev M_X1_init : sM := (yX1_init, cX1_init, 3, none, none)
abbrev M_X1_isAmong : sM := (yX1_isAmong, cX1_isAmong, 4, (some .boolean), none)
abbrev M_X1_isTrue : sM := (yX1_isTrue, cX1_isTrue, 3, (some .boolean), none)
abbrev M_X1_isVoid : sM := (yX1_isVoid, cX1_isVoid, 2, (some .boolean), none)
abbrev M_X1_nodeOf : sM := (yX1_nodeOf, cX1_nodeOf, 2, (some .int), none)
abbrev M_X1_nodeOfLine : sM := (yX1_nodeOfLine, cX1_nodeOfLine, 2, (some .int), none)
abbrev M_X1_ofLine : sM := (yX1_ofLine, cX1_ofLine, 4, (some .int), none)
abbrev M_X1_ofReceipt : sM := (yX1_ofReceipt, cX1_ofReceipt, 4, (some .int), none)
abbrev M_X1_premiseOf : sM := (yX1_premiseOf, cX1_premiseOf, 3, (some .int), none)
abbrev M_X1_priceOf : sM := (yX1_priceOf, cX1_priceOf, 4, (some .int), none)
abbrev M_X1_setPrice : sM := (yX1_setPrice, cX1_setPrice, 4, none, none)
abbrev M_X1_standOn : sM := (yX1_standOn, cX1_standOn, 10, none, none)
abbrev M_X1_take : sM := (yX1_take, cX1_take, 2, none, none)
abbrev M_X1_toldTo : sM := (yX1_toldTo, cX1_toldTo, 2, (some .int), none)
abbrev M_X1_truthOf : sM := (yX1_truthOf, cX1_truthOf, 3, (some .long), none)
abbrev M_X1_words : sM := (yX1_words, cX1_words, 1, (some .int), none)
abbrev M_X1_worldCount : sM := (yX1_worldCount, cX1_worldCount, 1, (some .int), none)
abbrev M_X2_column : sM := (yX2_column, cX2_column, 2, (some .long), none)
abbrev M_X2_cut : sM := (yX2_cut, cX2_cut, 5, none, none)
abbrev M_X2_firstOf : sM := (yX2_firstOf, cX2_firstOf, 2, (some .int), none)
abbrev M_X2_hasRoom : sM := (yX2_hasRoom, cX2_hasRoom, 2, (some .boolean), none)
abbrev M_X2_init : sM := (yX2_init, cX2_init, 1, none, none)
abbrev M_X2_isMade : sM := (yX2_isMade, cX2_isMade, 5, (some .boolean), none)
abbrev M_X2_kindOf : sM := (yX2_kindOf, cX2_kindOf, 2, (some .int), none)
abbrev M_X2_make : sM := (yX2_make, cX2_make, 8, (some .int), none)
abbrev M_X2_makeAtom : sM := (yX2_makeAtom, cX2_makeAtom, 3, (some .int), none)
abbrev M_X2_makeBinder : sM := (yX2_makeBinder, cX2_makeBinder, 7, (some .int), none)
abbrev M_X2_place : sM := (yX2_place, cX2_place, 6, (some .int), none)
abbrev M_X2_placedOf : sM := (yX2_placedOf, cX2_placedOf, 4, (some .int), none)
abbrev M_X2_secondOf : sM := (yX2_secondOf, cX2_secondOf, 2, (some .int), none)
abbrev M_X2_signsOf : sM := (yX2_signsOf, cX2_signsOf, 2, (some .int), none)
abbrev M_X2_truth : sM := (yX2_truth, cX2_truth, 4, (some .long), none)
abbrev M_X2_truthAt : sM := (yX2_truthAt, cX2_truthAt, 7, (some .long), none)
abbrev M_X2_truthOfBinder : sM := (yX2_truthOfBinder, cX2_truthOfBinder, 11, (some .long), none)
abbrev M_X3_alikeTo : sM := (yX3_alikeTo, cX3_alikeTo, 4, (some .int), none)
abbrev M_X3_fewestFailing : sM := (yX3_fewestFailing, cX3_fewestFailing, 7, (some .int), none)
abbrev M_X3_fewestMore : sM := (yX3_fewestMore, cX3_fewestMore, 4, (some .int), none)
abbrev M_X3_formulasOf : sM := (yX3_formulasOf, cX3_formulasOf, 4, (some .int), none)
abbrev M_X3_gather : sM := (yX3_gather, cX3_gather, 4, none, none)
abbrev M_X3_holdAlike : sM := (yX3_holdAlike, cX3_holdAlike, 4, (some .boolean), none)
abbrev M_X3_idleIn : sM := (yX3_idleIn, cX3_idleIn, 5, (some .int), none)
abbrev M_X3_init : sM := (yX3_init, cX3_init, 2, none, none)
abbrev M_X3_isBetter : sM := (yX3_isBetter, cX3_isBetter, 3, (some .boolean), none)
abbrev M_X3_isEmpty : sM := (yX3_isEmpty, cX3_isEmpty, 2, (some .boolean), none)
abbrev M_X3_isOpenTo : sM := (yX3_isOpenTo, cX3_isOpenTo, 3, (some .boolean), none)
abbrev M_X3_leastBreach : sM := (yX3_leastBreach, cX3_leastBreach, 3, (some .int), none)
abbrev M_X3_leastClash : sM := (yX3_leastClash, cX3_leastClash, 6, (some .int), none)
abbrev M_X3_leastOf : sM := (yX3_leastOf, cX3_leastOf, 3, (some .int), none)
abbrev M_X3_leastOutside : sM := (yX3_leastOutside, cX3_leastOutside, 6, (some .int), none)
abbrev M_X3_leastWorld : sM := (yX3_leastWorld, cX3_leastWorld, 2, (some .int), none)
abbrev M_X3_listMembers : sM := (yX3_listMembers, cX3_listMembers, 4, (some .int), none)
abbrev M_X3_markAcross : sM := (yX3_markAcross, cX3_markAcross, 3, none, none)
abbrev M_X3_markTogether : sM := (yX3_markTogether, cX3_markTogether, 4, none, none)
abbrev M_X3_markWithin : sM := (yX3_markWithin, cX3_markWithin, 5, none, none)
abbrev M_X3_membersIn : sM := (yX3_membersIn, cX3_membersIn, 5, (some .int), none)
abbrev M_X3_narrow : sM := (yX3_narrow, cX3_narrow, 5, none, none)
abbrev M_X3_oneMore : sM := (yX3_oneMore, cX3_oneMore, 5, (some .int), none)
abbrev M_X3_provesWith : sM := (yX3_provesWith, cX3_provesWith, 9, (some .boolean), none)
abbrev M_X3_size : sM := (yX3_size, cX3_size, 4, (some .int), none)
abbrev M_X3_threeMore : sM := (yX3_threeMore, cX3_threeMore, 4, (some .int), none)
abbrev M_X3_truthsIn : sM := (yX3_truthsIn, cX3_truthsIn, 4, (some .int), none)
abbrev M_X3_twoMore : sM := (yX3_twoMore, cX3_twoMore, 6, (some .int), none)
abbrev M_X4_addStep : sM := (yX4_addStep, cX4_addStep, 7, none, none)
abbrev M_X4_cheapestHouse : sM := (yX4_cheapestHouse, cX4_cheapestHouse, 5, (some .int), none)
abbrev M_X4_costAlone : sM := (yX4_costAlone, cX4_costAlone, 5, (some .int), none)
abbrev M_X4_costAt : sM := (yX4_costAt, cX4_costAt, 4, (some .int), none)
abbrev M_X4_costIn : sM := (yX4_costIn, cX4_costIn, 5, (some .int), none)
abbrev M_X4_costOfAbsurd : sM := (yX4_costOfAbsurd, cX4_costOfAbsurd, 5, (some .int), none)
abbrev M_X4_costOfGiven : sM := (yX4_costOfGiven, cX4_costOfGiven, 5, (some .int), none)
abbrev M_X4_costOfStep : sM := (yX4_costOfStep, cX4_costOfStep, 8, (some .int), none)
abbrev M_X4_costResold : sM := (yX4_costResold, cX4_costResold, 5, (some .int), none)
abbrev M_X4_improve : sM := (yX4_improve, cX4_improve, 5, (some .boolean), none)
abbrev M_X4_init : sM := (yX4_init, cX4_init, 3, none, none)
abbrev M_X4_lastRuleIn : sM := (yX4_lastRuleIn, cX4_lastRuleIn, 6, (some .int), none)
abbrev M_X4_limited : sM := (yX4_limited, cX4_limited, 1, (some .int), none)
abbrev M_X4_lineCost : sM := (yX4_lineCost, cX4_lineCost, 4, (some .int), none)
abbrev M_X4_listAllSteps : sM := (yX4_listAllSteps, cX4_listAllSteps, 6, none, none)
abbrev M_X4_listAndSteps : sM := (yX4_listAndSteps, cX4_listAndSteps, 4, none, none)
abbrev M_X4_listAssumed : sM := (yX4_listAssumed, cX4_listAssumed, 3, none, none)
abbrev M_X4_listIfSteps : sM := (yX4_listIfSteps, cX4_listIfSteps, 5, none, none)
abbrev M_X4_listOrSteps : sM := (yX4_listOrSteps, cX4_listOrSteps, 10, none, none)
abbrev M_X4_listSomeSteps : sM := (yX4_listSomeSteps, cX4_listSomeSteps, 4, none, none)
abbrev M_X4_listSteps : sM := (yX4_listSteps, cX4_listSteps, 6, none, none)
abbrev M_X4_lookAt : sM := (yX4_lookAt, cX4_lookAt, 5, none, none)
abbrev M_X4_placeOf : sM := (yX4_placeOf, cX4_placeOf, 3, (some .int), none)
abbrev M_X4_placeOfIf : sM := (yX4_placeOfIf, cX4_placeOfIf, 4, (some .int), none)
abbrev M_X4_prepare : sM := (yX4_prepare, cX4_prepare, 4, none, none)
abbrev M_X4_settle : sM := (yX4_settle, cX4_settle, 6, none, none)
abbrev M_X4_slotOf : sM := (yX4_slotOf, cX4_slotOf, 3, (some .int), none)
abbrev M_X5_byteAt : sM := (yX5_byteAt, cX5_byteAt, 2, (some .int), none)
abbrev M_X5_cut : sM := (yX5_cut, cX5_cut, 2, (some .boolean), none)
abbrev M_X5_fail : sM := (yX5_fail, cX5_fail, 2, (some .int), none)
abbrev M_X5_hasRoom : sM := (yX5_hasRoom, cX5_hasRoom, 2, (some .boolean), none)
abbrev M_X5_init : sM := (yX5_init, cX5_init, 2, none, none)
abbrev M_X5_isLetter : sM := (yX5_isLetter, cX5_isLetter, 3, (some .boolean), none)
abbrev M_X5_isWord : sM := (yX5_isWord, cX5_isWord, 5, (some .boolean), none)
abbrev M_X5_join : sM := (yX5_join, cX5_join, 4, (some .int), none)
abbrev M_X5_letterOf : sM := (yX5_letterOf, cX5_letterOf, 1, (some .int), none)
abbrev M_X5_mayGoDeeper : sM := (yX5_mayGoDeeper, cX5_mayGoDeeper, 2, (some .boolean), none)
abbrev M_X5_mayTakeSign : sM := (yX5_mayTakeSign, cX5_mayTakeSign, 2, (some .boolean), none)
abbrev M_X5_peek : sM := (yX5_peek, cX5_peek, 2, (some .int), none)
abbrev M_X5_put : sM := (yX5_put, cX5_put, 3, none, none)
abbrev M_X5_read : sM := (yX5_read, cX5_read, 3, (some .int), none)
abbrev M_X5_readAnd : sM := (yX5_readAnd, cX5_readAnd, 5, (some .int), none)
abbrev M_X5_readBinder : sM := (yX5_readBinder, cX5_readBinder, 6, (some .int), none)
abbrev M_X5_readIf : sM := (yX5_readIf, cX5_readIf, 5, (some .int), none)
abbrev M_X5_readInner : sM := (yX5_readInner, cX5_readInner, 5, (some .int), none)
abbrev M_X5_readNot : sM := (yX5_readNot, cX5_readNot, 3, (some .int), none)
abbrev M_X5_readOr : sM := (yX5_readOr, cX5_readOr, 5, (some .int), none)
abbrev M_X5_readShort : sM := (yX5_readShort, cX5_readShort, 4, (some .int), none)
abbrev M_X5_readUnit : sM := (yX5_readUnit, cX5_readUnit, 4, (some .int), none)
abbrev M_X5_readWord : sM := (yX5_readWord, cX5_readWord, 6, (some .int), none)
abbrev M_X5_wordEnd : sM := (yX5_wordEnd, cX5_wordEnd, 3, (some .int), none)
abbrev M_X6_coinsOfAll : sM := (yX6_coinsOfAll, cX6_coinsOfAll, 3, (some .int), none)
abbrev M_X6_dearerOnes : sM := (yX6_dearerOnes, cX6_dearerOnes, 5, (some .int), none)
abbrev M_X6_gainOf : sM := (yX6_gainOf, cX6_gainOf, 7, (some .int), none)
abbrev M_X6_init : sM := (yX6_init, cX6_init, 3, none, none)
abbrev M_X6_isBefore : sM := (yX6_isBefore, cX6_isBefore, 4, (some .boolean), none)
abbrev M_X6_isRefunded : sM := (yX6_isRefunded, cX6_isRefunded, 4, (some .boolean), none)
abbrev M_X6_owedBy : sM := (yX6_owedBy, cX6_owedBy, 8, (some .int), none)
abbrev M_X6_refunded : sM := (yX6_refunded, cX6_refunded, 4, (some .int), none)
abbrev M_X6_sellerOf : sM := (yX6_sellerOf, cX6_sellerOf, 2, (some .int), none)
abbrev M_X6_wasSoldBefore : sM := (yX6_wasSoldBefore, cX6_wasSoldBefore, 5, (some .boolean), none)
abbrev M_X7_agree : sM := (yX7_agree, cX7_agree, 3, (some .int), none)
abbrev M_X7_alike : sM := (yX7_alike, cX7_alike, 2, (some .int), none)
abbrev M_X7_areInOrder : sM := (yX7_areInOrder, cX7_areInOrder, 4, (some .boolean), none)
abbrev M_X7_back : sM := (yX7_back, cX7_back, 1, (some .boolean), none)
abbrev M_X7_beliefs : sM := (yX7_beliefs, cX7_beliefs, 2, (some .int), none)
abbrev M_X7_believe : sM := (yX7_believe, cX7_believe, 6, (some .boolean), none)
abbrev M_X7_chain : sM := (yX7_chain, cX7_chain, 2, (some .int), none)
abbrev M_X7_cheapest : sM := (yX7_cheapest, cX7_cheapest, 4, (some .int), none)
abbrev M_X7_core : sM := (yX7_core, cX7_core, 3, (some .int), none)
abbrev M_X7_count : sM := (yX7_count, cX7_count, 2, (some .int), none)
abbrev M_X7_counter : sM := (yX7_counter, cX7_counter, 3, (some .int), none)
abbrev M_X7_dearer : sM := (yX7_dearer, cX7_dearer, 1, (some .int), none)
abbrev M_X7_end : sM := (yX7_end, cX7_end, 2, (some .boolean), none)
abbrev M_X7_falls : sM := (yX7_falls, cX7_falls, 4, (some .long), none)
abbrev M_X7_fault : sM := (yX7_fault, cX7_fault, 1, (some .int), none)
abbrev M_X7_feed : sM := (yX7_feed, cX7_feed, 6, (some .int), none)
abbrev M_X7_follows : sM := (yX7_follows, cX7_follows, 3, (some .boolean), none)
abbrev M_X7_formula : sM := (yX7_formula, cX7_formula, 2, (some .int), none)
abbrev M_X7_forward : sM := (yX7_forward, cX7_forward, 6, (some .int), none)
abbrev M_X7_gains : sM := (yX7_gains, cX7_gains, 3, (some .int), none)
abbrev M_X7_holds : sM := (yX7_holds, cX7_holds, 3, (some .boolean), none)
abbrev M_X7_idle : sM := (yX7_idle, cX7_idle, 2, (some .int), none)
abbrev M_X7_image : sM := (yX7_image, cX7_image, 1, none, none)
abbrev M_X7_init : sM := (yX7_init, cX7_init, 1, none, none)
abbrev M_X7_is : sM := (yX7_is, cX7_is, 3, (some .boolean), none)
abbrev M_X7_lastly : sM := (yX7_lastly, cX7_lastly, 4, (some .int), none)
abbrev M_X7_line : sM := (yX7_line, cX7_line, 7, (some .int), none)
abbrev M_X7_look : sM := (yX7_look, cX7_look, 3, (some .int), none)
abbrev M_X7_more : sM := (yX7_more, cX7_more, 3, (some .int), none)
abbrev M_X7_needCustomer : sM := (yX7_needCustomer, cX7_needCustomer, 2, none, none)
abbrev M_X7_needFormula : sM := (yX7_needFormula, cX7_needFormula, 2, none, none)
abbrev M_X7_needHouse : sM := (yX7_needHouse, cX7_needHouse, 2, none, none)
abbrev M_X7_needLaw : sM := (yX7_needLaw, cX7_needLaw, 2, none, none)
abbrev M_X7_needLine : sM := (yX7_needLine, cX7_needLine, 2, none, none)
abbrev M_X7_needPremise : sM := (yX7_needPremise, cX7_needPremise, 2, none, none)
abbrev M_X7_needProof : sM := (yX7_needProof, cX7_needProof, 4, none, none)
abbrev M_X7_needSet : sM := (yX7_needSet, cX7_needSet, 3, (some .int), none)
abbrev M_X7_needWorld : sM := (yX7_needWorld, cX7_needWorld, 2, none, none)
abbrev M_X7_needs : sM := (yX7_needs, cX7_needs, 2, (some .long), none)
abbrev M_X7_owes : sM := (yX7_owes, cX7_owes, 4, (some .int), none)
abbrev M_X7_price : sM := (yX7_price, cX7_price, 5, (some .int), none)
abbrev M_X7_refunds : sM := (yX7_refunds, cX7_refunds, 2, (some .int), none)
abbrev M_X7_resold : sM := (yX7_resold, cX7_resold, 4, (some .int), none)
abbrev M_X7_rests : sM := (yX7_rests, cX7_rests, 2, (some .long), none)
abbrev M_X7_rules : sM := (yX7_rules, cX7_rules, 4, (some .int), none)
abbrev M_X7_same : sM := (yX7_same, cX7_same, 3, (some .boolean), none)
abbrev M_X7_sell : sM := (yX7_sell, cX7_sell, 6, (some .int), none)
abbrev M_X7_signs : sM := (yX7_signs, cX7_signs, 2, (some .int), none)
abbrev M_X7_spent : sM := (yX7_spent, cX7_spent, 2, (some .int), none)
abbrev M_X7_things : sM := (yX7_things, cX7_things, 2, none, none)
abbrev M_X7_truths : sM := (yX7_truths, cX7_truths, 2, (some .int), none)
abbrev M_X7_undo : sM := (yX7_undo, cX7_undo, 3, (some .boolean), none)
abbrev M_X7_where : sM := (yX7_where, cX7_where, 3, (some .int), none)
abbrev M_X7_withdraw : sM := (yX7_withdraw, cX7_withdraw, 3, (some .int), none)
abbrev M_X7_worlds : sM := (yX7_worlds, cX7_worlds, 2, (some .int), none)
abbrev M_X7_wrong : sM := (yX7_wrong, cX7_wrong, 1, (some .int), none)
abbrev M_X8_adds : sM := (yX8_adds, cX8_adds, 6, none, none)
abbrev M_X8_agree : sM := (yX8_agree, cX8_agree, 3, (some .int), none)
abbrev M_X8_alike : sM := (yX8_alike, cX8_alike, 6, (some .int), none)
abbrev M_X8_asked : sM := (yX8_asked, cX8_asked, 2, (some .int), none)
abbrev M_X8_assumedAt : sM := (yX8_assumedAt, cX8_assumedAt, 3, (some .int), none)
abbrev M_X8_at : sM := (yX8_at, cX8_at, 3, (some .int), none)
abbrev M_X8_back : sM := (yX8_back, cX8_back, 2, (some .boolean), none)
abbrev M_X8_beliefs : sM := (yX8_beliefs, cX8_beliefs, 2, (some .int), none)
abbrev M_X8_beliefsOf : sM := (yX8_beliefsOf, cX8_beliefsOf, 2, (some .int), none)
abbrev M_X8_believe : sM := (yX8_believe, cX8_believe, 5, (some .boolean), none)
abbrev M_X8_bitsOf : sM := (yX8_bitsOf, cX8_bitsOf, 4, (some .int), none)
abbrev M_X8_blanks : sM := (yX8_blanks, cX8_blanks, 1, none, none)
abbrev M_X8_byRule : sM := (yX8_byRule, cX8_byRule, 5, (some .int), none)
abbrev M_X8_caseOf : sM := (yX8_caseOf, cX8_caseOf, 7, (some .int), none)
abbrev M_X8_chain : sM := (yX8_chain, cX8_chain, 4, (some .int), none)
abbrev M_X8_cheapest : sM := (yX8_cheapest, cX8_cheapest, 4, (some .int), none)
abbrev M_X8_copies : sM := (yX8_copies, cX8_copies, 7, none, none)
abbrev M_X8_core : sM := (yX8_core, cX8_core, 5, (some .int), none)
abbrev M_X8_costAt : sM := (yX8_costAt, cX8_costAt, 3, (some .int), none)
abbrev M_X8_costOf : sM := (yX8_costOf, cX8_costOf, 4, (some .int), none)
abbrev M_X8_costs : sM := (yX8_costs, cX8_costs, 9, (some .int), none)
abbrev M_X8_count : sM := (yX8_count, cX8_count, 4, (some .int), none)
abbrev M_X8_counter : sM := (yX8_counter, cX8_counter, 3, (some .int), none)
abbrev M_X8_counts : sM := (yX8_counts, cX8_counts, 1, (some .boolean), none)
abbrev M_X8_cutBy : sM := (yX8_cutBy, cX8_cutBy, 3, (some .int), none)
abbrev M_X8_d : sM := (yX8_d, cX8_d, 1, (some .int), none)
abbrev M_X8_dearer : sM := (yX8_dearer, cX8_dearer, 3, (some .int), none)
abbrev M_X8_deeper : sM := (yX8_deeper, cX8_deeper, 1, (some .boolean), none)
abbrev M_X8_end : sM := (yX8_end, cX8_end, 2, (some .boolean), none)
abbrev M_X8_endOf : sM := (yX8_endOf, cX8_endOf, 5, (some .int), none)
abbrev M_X8_fails : sM := (yX8_fails, cX8_fails, 5, (some .int), none)
abbrev M_X8_falls : sM := (yX8_falls, cX8_falls, 9, (some .long), none)
abbrev M_X8_fault : sM := (yX8_fault, cX8_fault, 1, (some .int), none)
abbrev M_X8_feed : sM := (yX8_feed, cX8_feed, 7, (some .int), none)
abbrev M_X8_fills : sM := (yX8_fills, cX8_fills, 3, none, none)
abbrev M_X8_follows : sM := (yX8_follows, cX8_follows, 3, (some .boolean), none)
abbrev M_X8_formula : sM := (yX8_formula, cX8_formula, 4, (some .int), none)
abbrev M_X8_formulas : sM := (yX8_formulas, cX8_formulas, 1, (some .int), none)
abbrev M_X8_forward : sM := (yX8_forward, cX8_forward, 6, (some .int), none)
abbrev M_X8_gains : sM := (yX8_gains, cX8_gains, 6, (some .int), none)
abbrev M_X8_givenBy : sM := (yX8_givenBy, cX8_givenBy, 3, (some .int), none)
abbrev M_X8_goesThrough : sM := (yX8_goesThrough, cX8_goesThrough, 4, none, none)
abbrev M_X8_has : sM := (yX8_has, cX8_has, 2, (some .boolean), none)
abbrev M_X8_hasRule : sM := (yX8_hasRule, cX8_hasRule, 3, (some .boolean), none)
abbrev M_X8_holdAll : sM := (yX8_holdAll, cX8_holdAll, 5, (some .boolean), none)
abbrev M_X8_holds : sM := (yX8_holds, cX8_holds, 3, (some .boolean), none)
abbrev M_X8_idle : sM := (yX8_idle, cX8_idle, 4, (some .int), none)
abbrev M_X8_image : sM := (yX8_image, cX8_image, 2, none, none)
abbrev M_X8_in : sM := (yX8_in, cX8_in, 3, (some .boolean), none)
abbrev M_X8_init : sM := (yX8_init, cX8_init, 4, none, none)
abbrev M_X8_is : sM := (yX8_is, cX8_is, 3, (some .boolean), none)
abbrev M_X8_isAgain : sM := (yX8_isAgain, cX8_isAgain, 4, (some .boolean), none)
abbrev M_X8_isAgainst : sM := (yX8_isAgainst, cX8_isAgainst, 4, (some .boolean), none)
abbrev M_X8_isAhead : sM := (yX8_isAhead, cX8_isAhead, 3, (some .boolean), none)
abbrev M_X8_isAmong : sM := (yX8_isAmong, cX8_isAmong, 5, (some .boolean), none)
abbrev M_X8_isAt : sM := (yX8_isAt, cX8_isAt, 3, (some .boolean), none)
abbrev M_X8_isBack : sM := (yX8_isBack, cX8_isBack, 4, (some .boolean), none)
abbrev M_X8_isCases : sM := (yX8_isCases, cX8_isCases, 8, (some .boolean), none)
abbrev M_X8_isEnough : sM := (yX8_isEnough, cX8_isEnough, 7, (some .boolean), none)
abbrev M_X8_isFewer : sM := (yX8_isFewer, cX8_isFewer, 2, (some .boolean), none)
abbrev M_X8_isHonest : sM := (yX8_isHonest, cX8_isHonest, 7, (some .boolean), none)
abbrev M_X8_isJoining : sM := (yX8_isJoining, cX8_isJoining, 1, (some .boolean), none)
abbrev M_X8_isLeft : sM := (yX8_isLeft, cX8_isLeft, 5, (some .boolean), none)
abbrev M_X8_isLone : sM := (yX8_isLone, cX8_isLone, 1, (some .boolean), none)
abbrev M_X8_isMinus : sM := (yX8_isMinus, cX8_isMinus, 3, (some .boolean), none)
abbrev M_X8_isOf : sM := (yX8_isOf, cX8_isOf, 5, (some .boolean), none)
abbrev M_X8_isOfSome : sM := (yX8_isOfSome, cX8_isOfSome, 6, (some .boolean), none)
abbrev M_X8_isOpen : sM := (yX8_isOpen, cX8_isOpen, 4, (some .boolean), none)
abbrev M_X8_isPart : sM := (yX8_isPart, cX8_isPart, 10, (some .boolean), none)
abbrev M_X8_isRight : sM := (yX8_isRight, cX8_isRight, 5, (some .boolean), none)
abbrev M_X8_isSame : sM := (yX8_isSame, cX8_isSame, 3, (some .boolean), none)
abbrev M_X8_isSaved : sM := (yX8_isSaved, cX8_isSaved, 4, (some .boolean), none)
abbrev M_X8_isStale : sM := (yX8_isStale, cX8_isStale, 4, (some .boolean), none)
abbrev M_X8_isTrue : sM := (yX8_isTrue, cX8_isTrue, 9, (some .boolean), none)
abbrev M_X8_isTwice : sM := (yX8_isTwice, cX8_isTwice, 3, (some .boolean), none)
abbrev M_X8_isVoid : sM := (yX8_isVoid, cX8_isVoid, 2, (some .boolean), none)
abbrev M_X8_isWord : sM := (yX8_isWord, cX8_isWord, 4, (some .boolean), none)
abbrev M_X8_joins : sM := (yX8_joins, cX8_joins, 4, none, none)
abbrev M_X8_lastly : sM := (yX8_lastly, cX8_lastly, 6, (some .int), none)
abbrev M_X8_leastNamed : sM := (yX8_leastNamed, cX8_leastNamed, 5, (some .int), none)
abbrev M_X8_leastWorld : sM := (yX8_leastWorld, cX8_leastWorld, 4, (some .int), none)
abbrev M_X8_letters : sM := (yX8_letters, cX8_letters, 1, none, none)
abbrev M_X8_line : sM := (yX8_line, cX8_line, 10, (some .int), none)
abbrev M_X8_lines : sM := (yX8_lines, cX8_lines, 1, (some .int), none)
abbrev M_X8_look : sM := (yX8_look, cX8_look, 3, (some .int), none)
abbrev M_X8_looksAll : sM := (yX8_looksAll, cX8_looksAll, 7, none, none)
abbrev M_X8_more : sM := (yX8_more, cX8_more, 5, (some .int), none)
abbrev M_X8_narrows : sM := (yX8_narrows, cX8_narrows, 4, none, none)
abbrev M_X8_needs : sM := (yX8_needs, cX8_needs, 2, (some .long), none)
abbrev M_X8_noCustomer : sM := (yX8_noCustomer, cX8_noCustomer, 1, (some .boolean), none)
abbrev M_X8_noFormula : sM := (yX8_noFormula, cX8_noFormula, 2, (some .boolean), none)
abbrev M_X8_noHouse : sM := (yX8_noHouse, cX8_noHouse, 1, (some .boolean), none)
abbrev M_X8_noLine : sM := (yX8_noLine, cX8_noLine, 2, (some .boolean), none)
abbrev M_X8_noProof : sM := (yX8_noProof, cX8_noProof, 4, (some .boolean), none)
abbrev M_X8_noWorld : sM := (yX8_noWorld, cX8_noWorld, 2, (some .boolean), none)
abbrev M_X8_ofLine : sM := (yX8_ofLine, cX8_ofLine, 3, (some .int), none)
abbrev M_X8_ofReceipt : sM := (yX8_ofReceipt, cX8_ofReceipt, 3, (some .int), none)
abbrev M_X8_ofSign : sM := (yX8_ofSign, cX8_ofSign, 5, (some .int), none)
abbrev M_X8_owes : sM := (yX8_owes, cX8_owes, 6, (some .int), none)
abbrev M_X8_partAt : sM := (yX8_partAt, cX8_partAt, 5, (some .int), none)
abbrev M_X8_premise : sM := (yX8_premise, cX8_premise, 3, (some .int), none)
abbrev M_X8_premises : sM := (yX8_premises, cX8_premises, 3, (some .int), none)
abbrev M_X8_premisesBy : sM := (yX8_premisesBy, cX8_premisesBy, 6, (some .int), none)
abbrev M_X8_price : sM := (yX8_price, cX8_price, 6, (some .int), none)
abbrev M_X8_priceOf : sM := (yX8_priceOf, cX8_priceOf, 2, (some .int), none)
abbrev M_X8_puts : sM := (yX8_puts, cX8_puts, 2, (some .boolean), none)
abbrev M_X8_readAnd : sM := (yX8_readAnd, cX8_readAnd, 2, (some .boolean), none)
abbrev M_X8_readAtom : sM := (yX8_readAtom, cX8_readAtom, 3, (some .boolean), none)
abbrev M_X8_readFormula : sM := (yX8_readFormula, cX8_readFormula, 2, (some .boolean), none)
abbrev M_X8_readOr : sM := (yX8_readOr, cX8_readOr, 2, (some .boolean), none)
abbrev M_X8_readUnit : sM := (yX8_readUnit, cX8_readUnit, 2, (some .boolean), none)
abbrev M_X8_receipts : sM := (yX8_receipts, cX8_receipts, 1, (some .int), none)
abbrev M_X8_refunds : sM := (yX8_refunds, cX8_refunds, 4, (some .int), none)
abbrev M_X8_relates : sM := (yX8_relates, cX8_relates, 6, none, none)
abbrev M_X8_resold : sM := (yX8_resold, cX8_resold, 4, (some .int), none)
abbrev M_X8_resoldBy : sM := (yX8_resoldBy, cX8_resoldBy, 7, (some .int), none)
abbrev M_X8_rests : sM := (yX8_rests, cX8_rests, 2, (some .long), none)
abbrev M_X8_rules : sM := (yX8_rules, cX8_rules, 4, (some .int), none)
abbrev M_X8_same : sM := (yX8_same, cX8_same, 3, (some .boolean), none)
abbrev M_X8_seenAt : sM := (yX8_seenAt, cX8_seenAt, 3, (some .int), none)
abbrev M_X8_sell : sM := (yX8_sell, cX8_sell, 6, (some .int), none)
abbrev M_X8_seller : sM := (yX8_seller, cX8_seller, 2, (some .int), none)
abbrev M_X8_set : sM := (yX8_set, cX8_set, 2, (some .int), none)
abbrev M_X8_signs : sM := (yX8_signs, cX8_signs, 2, (some .int), none)
abbrev M_X8_spent : sM := (yX8_spent, cX8_spent, 2, (some .int), none)
abbrev M_X8_spentBy : sM := (yX8_spentBy, cX8_spentBy, 4, (some .int), none)
abbrev M_X8_sum : sM := (yX8_sum, cX8_sum, 2, (some .int), none)
abbrev M_X8_things : sM := (yX8_things, cX8_things, 2, none, none)
abbrev M_X8_thrown : sM := (yX8_thrown, cX8_thrown, 1, (some .int), none)
abbrev M_X8_throwsIf : sM := (yX8_throwsIf, cX8_throwsIf, 3, (some .boolean), none)
abbrev M_X8_truths : sM := (yX8_truths, cX8_truths, 4, (some .int), none)
abbrev M_X8_undo : sM := (yX8_undo, cX8_undo, 3, (some .boolean), none)
abbrev M_X8_where : sM := (yX8_where, cX8_where, 7, (some .int), none)
abbrev M_X8_withdraw : sM := (yX8_withdraw, cX8_withdraw, 5, (some .int), none)
abbrev M_X8_worlds : sM := (yX8_worlds, cX8_worlds, 4, (some .int), none)
abbrev M_X8_worldsMany : sM := (yX8_worldsMany, cX8_worldsMany, 1, (some .int), none)
abbrev M_X8_worldsOfAll : sM := (yX8_worldsOfAll, cX8_worldsOfAll, 3, none, none)
abbrev M_X8_wrong : sM := (yX8_wrong, cX8_wrong, 2, (some .int), none)
theorem uw_0 : ∀ w ∈ u_ws RX0 TX0 6, w ∈ s_TB := fun w hw => List.mem_filter.mpr ⟨List.contains_iff_mem.mp (List.all_eq_true.mp (by decide +kernel : ((u_ws RX0 TX0 6).all (fun w => lw_tbl.contains w)) = true) w hw), List.all_eq_true.mp (by decide +kernel : ((u_ws RX0 TX0 6).all goodWord) = true) w hw⟩
theorem uw_1 : ∀ w ∈ u_ws RX1 TX1 15, w ∈ s_TB := fun w hw => List.mem_filter.mpr ⟨List.contains_iff_mem.mp (List.all_eq_true.mp (by decide +kernel : ((u_ws RX1 TX1 15).all (fun w => lw_tbl.contains w)) = true) w hw), List.all_eq_true.mp (by decide +kernel : ((u_ws RX1 TX1 15).all goodWord) = true) w hw⟩
theorem uw_2 : ∀ w ∈ u_ws RX2 TX2 8, w ∈ s_TB := fun w hw => List.mem_filter.mpr ⟨List.contains_iff_mem.mp (List.all_eq_true.mp (by decide +kernel : ((u_ws RX2 TX2 8).all (fun w => lw_tbl.contains w)) = true) w hw), List.all_eq_true.mp (by decide +kernel : ((u_ws RX2 TX2 8).all goodWord) = true) w hw⟩
theorem uw_3 : ∀ w ∈ u_ws RX3 TX3 6, w ∈ s_TB := fun w hw => List.mem_filter.mpr ⟨List.contains_iff_mem.mp (List.all_eq_true.mp (by decide +kernel : ((u_ws RX3 TX3 6).all (fun w => lw_tbl.contains w)) = true) w hw), List.all_eq_true.mp (by decide +kernel : ((u_ws RX3 TX3 6).all goodWord) = true) w hw⟩
theorem uw_4 : ∀ w ∈ u_ws RX4 TX4 13, w ∈ s_TB := fun w hw => List.mem_filter.mpr ⟨List.contains_iff_mem.mp (List.all_eq_true.mp (by decide +kernel : ((u_ws RX4 TX4 13).all (fun w => lw_tbl.contains w)) = true) w hw), List.all_eq_true.mp (by decide +kernel : ((u_ws RX4 TX4 13).all goodWord) = true) w hw⟩
theorem uw_5 : ∀ w ∈ u_ws RX5 TX5 7, w ∈ s_TB := fun w hw => List.mem_filter.mpr ⟨List.contains_iff_mem.mp (List.all_eq_true.mp (by decide +kernel : ((u_ws RX5 TX5 7).all (fun w => lw_tbl.contains w)) = true) w hw), List.all_eq_true.mp (by decide +kernel : ((u_ws RX5 TX5 7).all goodWord) = true) w hw⟩
theorem uw_6 : ∀ w ∈ u_ws RX6 TX6 2, w ∈ s_TB := fun w hw => List.mem_filter.mpr ⟨List.contains_iff_mem.mp (List.all_eq_true.mp (by decide +kernel : ((u_ws RX6 TX6 2).all (fun w => lw_tbl.contains w)) = true) w hw), List.all_eq_true.mp (by decide +kernel : ((u_ws RX6 TX6 2).all goodWord) = true) w hw⟩
theorem uw_7 : ∀ w ∈ u_ws RX7 TX7 9, w ∈ s_TB := fun w hw => List.mem_filter.mpr ⟨List.contains_iff_mem.mp (List.all_eq_true.mp (by decide +kernel : ((u_ws RX7 TX7 9).all (fun w => lw_tbl.contains w)) = true) w hw), List.all_eq_true.mp (by decide +kernel : ((u_ws RX7 TX7 9).all goodWord) = true) w hw⟩
theorem uw_8 : ∀ w ∈ u_ws RX8 TX8 39, w ∈ s_TB := fun w hw => List.mem_filter.mpr ⟨List.contains_iff_mem.mp (List.all_eq_true.mp (by decide +kernel : ((u_ws RX8 TX8 39).all (fun w => lw_tbl.contains w)) = true) w hw), List.all_eq_true.mp (by decide +kernel : ((u_ws RX8 TX8 39).all goodWord) = true) w hw⟩
theorem fl_X0_9 : s_FL RX0 9 0 4 := ⟨by decide, RX0, TX0, 6, rfl, uw_0, by decide, w_379⟩
theorem fp_X0_9 : s_FP RX0 9 0 4 (.object "ProofShop$Forms") true := ⟨by decide, RX0, TX0, 6, tyX0, rfl, uw_0, by decide, w_379, tyX0_ok, nmX0, by decide +kernel, rfl, fun _ => rfl⟩
theorem fl_X0_15 : s_FL RX0 15 0 5 := ⟨by decide, RX0, TX0, 6, rfl, uw_0, by decide, w_380⟩
theorem fp_X0_15 : s_FP RX0 15 0 5 (.object "ProofShop$Books") true := ⟨by decide, RX0, TX0, 6, tyX0, rfl, uw_0, by decide, w_380, tyX0_ok, nmX0, by decide +kernel, rfl, fun _ => rfl⟩
theorem fl_X0_19 : s_FL RX0 19 0 0 := ⟨by decide, RX0, TX0, 6, rfl, uw_0, by decide, w_374⟩
theorem fp_X0_19 : s_FP RX0 19 0 0 .long false := ⟨by decide, RX0, TX0, 6, tyX0, rfl, uw_0, by decide, w_374, tyX0_ok, nmX0, by decide +kernel, rfl, fun h => by cases h⟩
theorem fl_X0_23 : s_FL RX0 23 0 1 := ⟨by decide, RX0, TX0, 6, rfl, uw_0, by decide, w_376⟩
theorem fp_X0_23 : s_FP RX0 23 0 1 .long false := ⟨by decide, RX0, TX0, 6, tyX0, rfl, uw_0, by decide, w_376, tyX0_ok, nmX0, by decide +kernel, rfl, fun h => by cases h⟩
theorem fl_X0_26 : s_FL RX0 26 0 2 := ⟨by decide, RX0, TX0, 6, rfl, uw_0, by decide, w_377⟩
theorem fp_X0_26 : s_FP RX0 26 0 2 .long false := ⟨by decide, RX0, TX0, 6, tyX0, rfl, uw_0, by decide, w_377, tyX0_ok, nmX0, by decide +kernel, rfl, fun h => by cases h⟩
theorem my_X0_staleIf : s_MV M_X0_staleIf 0 2 := ⟨⟨w_516, w_175, ⟨by decide +kernel, by decide +kernel, by decide +kernel⟩, by decide, rfl⟩, ⟨TX0, 6, rfl⟩, w_514, w_515, by decide⟩
theorem fl_X0_33 : s_FL RX0 33 0 3 := ⟨by decide, RX0, TX0, 6, rfl, uw_0, by decide, w_378⟩
theorem fp_X0_33 : s_FP RX0 33 0 3 .long false := ⟨by decide, RX0, TX0, 6, tyX0, rfl, uw_0, by decide, w_378, tyX0_ok, nmX0, by decide +kernel, rfl, fun h => by cases h⟩
theorem my_X0_linesOf : s_MV M_X0_linesOf 0 1 := ⟨⟨w_541, w_175, ⟨by decide +kernel, by decide +kernel, by decide +kernel⟩, by decide, rfl⟩, ⟨TX0, 6, rfl⟩, w_540, w_0, by decide⟩
theorem fl_X0_40 : s_FL RX0 40 1 6 := ⟨by decide, RX1, TX1, 15, rfl, uw_1, by decide, w_263⟩
theorem my_X0_isHonest : s_MV M_X0_isHonest 0 1 := ⟨⟨w_545, w_175, ⟨by decide +kernel, by decide +kernel, by decide +kernel⟩, by decide, rfl⟩, ⟨TX0, 6, rfl⟩, w_544, w_1, by decide⟩
theorem my_X0_standsOnSound : s_MV M_X0_standsOnSound 0 1 := ⟨⟨w_607, w_175, ⟨by decide +kernel, by decide +kernel, by decide +kernel⟩, by decide, rfl⟩, ⟨TX0, 6, rfl⟩, w_606, w_9, by decide⟩
theorem fl_X0_53 : s_FL RX0 53 1 7 := ⟨by decide, RX1, TX1, 15, rfl, uw_1, by decide, w_266⟩
theorem my_X1_ofLine : s_MV M_X1_ofLine 1 2 := ⟨⟨w_520, w_172, ⟨by decide +kernel, by decide +kernel, by decide +kernel⟩, by decide, rfl⟩, ⟨TX1, 15, rfl⟩, w_518, w_519, by decide⟩
theorem my_X1_toldTo : s_MV M_X1_toldTo 1 1 := ⟨⟨w_524, w_172, ⟨by decide +kernel, by decide +kernel, by decide +kernel⟩, by decide, rfl⟩, ⟨TX1, 15, rfl⟩, w_522, w_523, by decide⟩
theorem my_X1_nodeOfLine : s_MV M_X1_nodeOfLine 1 1 := ⟨⟨w_528, w_172, ⟨by decide +kernel, by decide +kernel, by decide +kernel⟩, by decide, rfl⟩, ⟨TX1, 15, rfl⟩, w_526, w_527, by decide⟩
theorem my_X1_isAmong : s_MV M_X1_isAmong 1 2 := ⟨⟨w_537, w_172, ⟨by decide +kernel, by decide +kernel, by decide +kernel⟩, by decide, rfl⟩, ⟨TX1, 15, rfl⟩, w_535, w_536, by decide⟩
theorem my_X1_premiseOf : s_MV M_X1_premiseOf 1 2 := ⟨⟨w_557, w_172, ⟨by decide +kernel, by decide +kernel, by decide +kernel⟩, by decide, rfl⟩, ⟨TX1, 15, rfl⟩, w_555, w_556, by decide⟩
theorem my_X1_hasRule : s_MV M_X1_hasRule 1 2 := ⟨⟨w_549, w_172, ⟨by decide +kernel, by decide +kernel, by decide +kernel⟩, by decide, rfl⟩, ⟨TX1, 15, rfl⟩, w_547, w_548, by decide⟩
theorem my_X0_premisesOf : s_MV M_X0_premisesOf 0 1 := ⟨⟨w_553, w_175, ⟨by decide +kernel, by decide +kernel, by decide +kernel⟩, by decide, rfl⟩, ⟨TX0, 6, rfl⟩, w_552, w_2, by decide⟩
theorem my_X0_asked : s_MV M_X0_asked 0 1 := ⟨⟨w_561, w_175, ⟨by decide +kernel, by decide +kernel, by decide +kernel⟩, by decide, rfl⟩, ⟨TX0, 6, rfl⟩, w_560, w_3, by decide⟩
theorem my_X0_fits : s_MV M_X0_fits 0 2 := ⟨⟨w_567, w_175, ⟨by decide +kernel, by decide +kernel, by decide +kernel⟩, by decide, rfl⟩, ⟨TX0, 6, rfl⟩, w_566, w_4, by decide⟩
theorem fl_X0_87 : s_FL RX0 87 1 0 := ⟨by decide, RX1, TX1, 15, rfl, uw_1, by decide, w_250⟩
theorem my_X0_fitsCases : s_MV M_X0_fitsCases 0 4 := ⟨⟨w_571, w_175, ⟨by decide +kernel, by decide +kernel, by decide +kernel⟩, by decide, rfl⟩, ⟨TX0, 6, rfl⟩, w_570, w_5, by decide⟩
theorem my_X2_isMade : s_MV M_X2_isMade 2 4 := ⟨⟨w_583, w_170, ⟨by decide +kernel, by decide +kernel, by decide +kernel⟩, by decide, rfl⟩, ⟨TX2, 8, rfl⟩, w_581, w_582, by decide⟩
theorem my_X2_kindOf : s_MV M_X2_kindOf 2 1 := ⟨⟨w_575, w_170, ⟨by decide +kernel, by decide +kernel, by decide +kernel⟩, by decide, rfl⟩, ⟨TX2, 8, rfl⟩, w_573, w_574, by decide⟩
theorem my_X0_isPlaced : s_MV M_X0_isPlaced 0 2 := ⟨⟨w_591, w_175, ⟨by decide +kernel, by decide +kernel, by decide +kernel⟩, by decide, rfl⟩, ⟨TX0, 6, rfl⟩, w_590, w_6, by decide⟩
theorem my_X0_areEach : s_MV M_X0_areEach 0 2 := ⟨⟨w_599, w_175, ⟨by decide +kernel, by decide +kernel, by decide +kernel⟩, by decide, rfl⟩, ⟨TX0, 6, rfl⟩, w_598, w_7, by decide⟩
theorem my_X0_fitsPlain : s_MV M_X0_fitsPlain 0 4 := ⟨⟨w_603, w_175, ⟨by decide +kernel, by decide +kernel, by decide +kernel⟩, by decide, rfl⟩, ⟨TX0, 6, rfl⟩, w_602, w_8, by decide⟩
theorem my_X2_firstOf : s_MV M_X2_firstOf 2 1 := ⟨⟨w_579, w_170, ⟨by decide +kernel, by decide +kernel, by decide +kernel⟩, by decide, rfl⟩, ⟨TX2, 8, rfl⟩, w_577, w_578, by decide⟩
theorem my_X2_secondOf : s_MV M_X2_secondOf 2 1 := ⟨⟨w_587, w_170, ⟨by decide +kernel, by decide +kernel, by decide +kernel⟩, by decide, rfl⟩, ⟨TX2, 8, rfl⟩, w_585, w_586, by decide⟩
theorem my_X2_placedOf : s_MV M_X2_placedOf 2 2 := ⟨⟨w_595, w_170, ⟨by decide +kernel, by decide +kernel, by decide +kernel⟩, by decide, rfl⟩, ⟨TX2, 8, rfl⟩, w_593, w_594, by decide⟩
theorem my_X0_isSaved : s_MV M_X0_isSaved 0 1 := ⟨⟨w_1198, w_175, ⟨by decide +kernel, by decide +kernel, by decide +kernel⟩, by decide, rfl⟩, ⟨TX0, 6, rfl⟩, w_1197, w_40, by decide⟩
theorem my_X2_signsOf : s_MV M_X2_signsOf 2 1 := ⟨⟨w_636, w_170, ⟨by decide +kernel, by decide +kernel, by decide +kernel⟩, by decide, rfl⟩, ⟨TX2, 8, rfl⟩, w_634, w_635, by decide⟩
theorem my_X1_costOf : s_MV M_X1_costOf 1 3 := ⟨⟨w_640, w_172, ⟨by decide +kernel, by decide +kernel, by decide +kernel⟩, by decide, rfl⟩, ⟨TX1, 15, rfl⟩, w_638, w_639, by decide⟩
theorem fl_X0_136 : s_FL RX0 136 1 8 := ⟨by decide, RX1, TX1, 15, rfl, uw_1, by decide, w_269⟩
theorem my_X0_costOf : s_MV M_X0_costOf 0 1 := ⟨⟨w_632, w_175, ⟨by decide +kernel, by decide +kernel, by decide +kernel⟩, by decide, rfl⟩, ⟨TX0, 6, rfl⟩, w_630, w_631, by decide⟩
theorem fl_X1_9 : s_FL RX1 9 1 0 := ⟨by decide, RX1, TX1, 15, rfl, uw_1, by decide, w_247⟩
theorem fp_X1_9 : s_FP RX1 9 1 0 .int false := ⟨by decide, RX1, TX1, 15, tyX1, rfl, uw_1, by decide, w_247, tyX1_ok, nmX1, by decide +kernel, rfl, fun h => by cases h⟩
theorem at_long : s_at 1 .long .long := ⟨rfl, w_311, by decide, Or.inr (Or.inl ⟨rfl, rfl⟩)⟩
theorem fl_X1_15 : s_FL RX1 15 1 3 := ⟨by decide, RX1, TX1, 15, rfl, uw_1, by decide, w_257⟩
theorem fp_X1_15 : s_FP RX1 15 1 3 (.array .long) true := ⟨by decide, RX1, TX1, 15, tyX1, rfl, uw_1, by decide, w_257, tyX1_ok, nmX1, by decide +kernel, rfl, fun _ => rfl⟩
theorem at_int : s_at 0 .int .int := ⟨rfl, w_239, by decide, Or.inl ⟨rfl, rfl⟩⟩
theorem fl_X1_19 : s_FL RX1 19 1 4 := ⟨by decide, RX1, TX1, 15, rfl, uw_1, by decide, w_258⟩
theorem fp_X1_19 : s_FP RX1 19 1 4 (.array .int) true := ⟨by decide, RX1, TX1, 15, tyX1, rfl, uw_1, by decide, w_258, tyX1_ok, nmX1, by decide +kernel, rfl, fun _ => rfl⟩
theorem fl_X1_23 : s_FL RX1 23 1 5 := ⟨by decide, RX1, TX1, 15, rfl, uw_1, by decide, w_260⟩
theorem fp_X1_23 : s_FP RX1 23 1 5 (.array .int) true := ⟨by decide, RX1, TX1, 15, tyX1, rfl, uw_1, by decide, w_260, tyX1_ok, nmX1, by decide +kernel, rfl, fun _ => rfl⟩
theorem fl_X1_26 : s_FL RX1 26 1 7 := ⟨by decide, RX1, TX1, 15, rfl, uw_1, by decide, w_265⟩
theorem fp_X1_26 : s_FP RX1 26 1 7 (.array .long) true := ⟨by decide, RX1, TX1, 15, tyX1, rfl, uw_1, by decide, w_265, tyX1_ok, nmX1, by decide +kernel, rfl, fun _ => rfl⟩
theorem fl_X1_29 : s_FL RX1 29 1 8 := ⟨by decide, RX1, TX1, 15, rfl, uw_1, by decide, w_268⟩
theorem fp_X1_29 : s_FP RX1 29 1 8 (.array .long) true := ⟨by decide, RX1, TX1, 15, tyX1, rfl, uw_1, by decide, w_268, tyX1_ok, nmX1, by decide +kernel, rfl, fun _ => rfl⟩
theorem fl_X1_32 : s_FL RX1 32 1 11 := ⟨by decide, RX1, TX1, 15, rfl, uw_1, by decide, w_276⟩
theorem fp_X1_32 : s_FP RX1 32 1 11 (.array .int) true := ⟨by decide, RX1, TX1, 15, tyX1, rfl, uw_1, by decide, w_276, tyX1_ok, nmX1, by decide +kernel, rfl, fun _ => rfl⟩
theorem fl_X1_35 : s_FL RX1 35 1 12 := ⟨by decide, RX1, TX1, 15, rfl, uw_1, by decide, w_277⟩
theorem fp_X1_35 : s_FP RX1 35 1 12 (.array .int) true := ⟨by decide, RX1, TX1, 15, tyX1, rfl, uw_1, by decide, w_277, tyX1_ok, nmX1, by decide +kernel, rfl, fun _ => rfl⟩
theorem fl_X1_38 : s_FL RX1 38 1 13 := ⟨by decide, RX1, TX1, 15, rfl, uw_1, by decide, w_278⟩
theorem fp_X1_38 : s_FP RX1 38 1 13 (.array .int) true := ⟨by decide, RX1, TX1, 15, tyX1, rfl, uw_1, by decide, w_278, tyX1_ok, nmX1, by decide +kernel, rfl, fun _ => rfl⟩
theorem fl_X1_41 : s_FL RX1 41 1 14 := ⟨by decide, RX1, TX1, 15, rfl, uw_1, by decide, w_279⟩
theorem fp_X1_41 : s_FP RX1 41 1 14 (.array .int) true := ⟨by decide, RX1, TX1, 15, tyX1, rfl, uw_1, by decide, w_279, tyX1_ok, nmX1, by decide +kernel, rfl, fun _ => rfl⟩
theorem fl_X1_45 : s_FL RX1 45 1 1 := ⟨by decide, RX1, TX1, 15, rfl, uw_1, by decide, w_251⟩
theorem fp_X1_45 : s_FP RX1 45 1 1 .int false := ⟨by decide, RX1, TX1, 15, tyX1, rfl, uw_1, by decide, w_251, tyX1_ok, nmX1, by decide +kernel, rfl, fun h => by cases h⟩
theorem fl_X1_48 : s_FL RX1 48 1 2 := ⟨by decide, RX1, TX1, 15, rfl, uw_1, by decide, w_253⟩
theorem fp_X1_48 : s_FP RX1 48 1 2 .int false := ⟨by decide, RX1, TX1, 15, tyX1, rfl, uw_1, by decide, w_253, tyX1_ok, nmX1, by decide +kernel, rfl, fun h => by cases h⟩
theorem fl_X1_51 : s_FL RX1 51 1 6 := ⟨by decide, RX1, TX1, 15, rfl, uw_1, by decide, w_262⟩
theorem fp_X1_51 : s_FP RX1 51 1 6 .int false := ⟨by decide, RX1, TX1, 15, tyX1, rfl, uw_1, by decide, w_262, tyX1_ok, nmX1, by decide +kernel, rfl, fun h => by cases h⟩
theorem fl_X1_54 : s_FL RX1 54 1 9 := ⟨by decide, RX1, TX1, 15, rfl, uw_1, by decide, w_272⟩
theorem fp_X1_54 : s_FP RX1 54 1 9 .int false := ⟨by decide, RX1, TX1, 15, tyX1, rfl, uw_1, by decide, w_272, tyX1_ok, nmX1, by decide +kernel, rfl, fun h => by cases h⟩
theorem fl_X1_57 : s_FL RX1 57 1 10 := ⟨by decide, RX1, TX1, 15, rfl, uw_1, by decide, w_274⟩
theorem fp_X1_57 : s_FP RX1 57 1 10 .int false := ⟨by decide, RX1, TX1, 15, tyX1, rfl, uw_1, by decide, w_274, tyX1_ok, nmX1, by decide +kernel, rfl, fun h => by cases h⟩
theorem my_X1_worldCount : s_MV M_X1_worldCount 1 0 := ⟨⟨w_962, w_172, ⟨by decide +kernel, by decide +kernel, by decide +kernel⟩, by decide, rfl⟩, ⟨TX1, 15, rfl⟩, w_960, w_961, by decide⟩
theorem my_X1_words : s_MV M_X1_words 1 0 := ⟨⟨w_958, w_172, ⟨by decide +kernel, by decide +kernel, by decide +kernel⟩, by decide, rfl⟩, ⟨TX1, 15, rfl⟩, w_956, w_957, by decide⟩
theorem my_X2_truth : s_MV M_X2_truth 2 3 := ⟨⟨w_966, w_170, ⟨by decide +kernel, by decide +kernel, by decide +kernel⟩, by decide, rfl⟩, ⟨TX2, 8, rfl⟩, w_964, w_965, by decide⟩
theorem my_X1_truthOf : s_MV M_X1_truthOf 1 2 := ⟨⟨w_1065, w_172, ⟨by decide +kernel, by decide +kernel, by decide +kernel⟩, by decide, rfl⟩, ⟨TX1, 15, rfl⟩, w_1063, w_1064, by decide⟩
theorem my_X1_priceOf : s_MV M_X1_priceOf 1 2 := ⟨⟨w_644, w_172, ⟨by decide +kernel, by decide +kernel, by decide +kernel⟩, by decide, rfl⟩, ⟨TX1, 15, rfl⟩, w_642, w_643, by decide⟩
theorem my_X1_standOn : s_MV M_X1_standOn 1 1 := ⟨⟨w_1155, w_172, ⟨by decide +kernel, by decide +kernel, by decide +kernel⟩, by decide, rfl⟩, ⟨TX1, 15, rfl⟩, w_1154, w_39, by decide⟩
theorem my_X1_nodeOf : s_MV M_X1_nodeOf 1 1 := ⟨⟨w_533, w_172, ⟨by decide +kernel, by decide +kernel, by decide +kernel⟩, by decide, rfl⟩, ⟨TX1, 15, rfl⟩, w_531, w_532, by decide⟩
theorem fl_X2_11 : s_FL RX2 11 2 1 := ⟨by decide, RX2, TX2, 8, rfl, uw_2, by decide, w_215⟩
theorem fp_X2_11 : s_FP RX2 11 2 1 (.array .int) false := ⟨by decide, RX2, TX2, 8, tyX2, rfl, uw_2, by decide, w_215, tyX2_ok, nmX2, by decide +kernel, rfl, fun h => by cases h⟩
theorem fl_X2_15 : s_FL RX2 15 2 2 := ⟨by decide, RX2, TX2, 8, rfl, uw_2, by decide, w_216⟩
theorem fp_X2_15 : s_FP RX2 15 2 2 (.array .int) false := ⟨by decide, RX2, TX2, 8, tyX2, rfl, uw_2, by decide, w_216, tyX2_ok, nmX2, by decide +kernel, rfl, fun h => by cases h⟩
theorem fl_X2_18 : s_FL RX2 18 2 3 := ⟨by decide, RX2, TX2, 8, rfl, uw_2, by decide, w_217⟩
theorem fp_X2_18 : s_FP RX2 18 2 3 (.array .int) false := ⟨by decide, RX2, TX2, 8, tyX2, rfl, uw_2, by decide, w_217, tyX2_ok, nmX2, by decide +kernel, rfl, fun h => by cases h⟩
theorem fl_X2_21 : s_FL RX2 21 2 4 := ⟨by decide, RX2, TX2, 8, rfl, uw_2, by decide, w_218⟩
theorem fp_X2_21 : s_FP RX2 21 2 4 (.array .int) false := ⟨by decide, RX2, TX2, 8, tyX2, rfl, uw_2, by decide, w_218, tyX2_ok, nmX2, by decide +kernel, rfl, fun h => by cases h⟩
theorem fl_X2_24 : s_FL RX2 24 2 5 := ⟨by decide, RX2, TX2, 8, rfl, uw_2, by decide, w_219⟩
theorem fp_X2_24 : s_FP RX2 24 2 5 (.array .int) false := ⟨by decide, RX2, TX2, 8, tyX2, rfl, uw_2, by decide, w_219, tyX2_ok, nmX2, by decide +kernel, rfl, fun h => by cases h⟩
theorem fl_X2_27 : s_FL RX2 27 2 6 := ⟨by decide, RX2, TX2, 8, rfl, uw_2, by decide, w_220⟩
theorem fp_X2_27 : s_FP RX2 27 2 6 (.array .int) false := ⟨by decide, RX2, TX2, 8, tyX2, rfl, uw_2, by decide, w_220, tyX2_ok, nmX2, by decide +kernel, rfl, fun h => by cases h⟩
theorem fl_X2_30 : s_FL RX2 30 2 7 := ⟨by decide, RX2, TX2, 8, rfl, uw_2, by decide, w_221⟩
theorem fp_X2_30 : s_FP RX2 30 2 7 (.array .int) true := ⟨by decide, RX2, TX2, 8, tyX2, rfl, uw_2, by decide, w_221, tyX2_ok, nmX2, by decide +kernel, rfl, fun _ => rfl⟩
theorem my_J7_fill_53178 : s_MS M_J7_fill_53178 2 := ⟨⟨w_212, w_171, ⟨by decide +kernel, by decide +kernel, by decide +kernel⟩, by decide, rfl⟩, w_211⟩
theorem fl_X2_39 : s_FL RX2 39 2 0 := ⟨by decide, RX2, TX2, 8, rfl, uw_2, by decide, w_213⟩
theorem my_X2_make : s_MV M_X2_make 2 3 := ⟨⟨w_748, w_170, ⟨by decide +kernel, by decide +kernel, by decide +kernel⟩, by decide, rfl⟩, ⟨TX2, 8, rfl⟩, w_746, w_747, by decide⟩
theorem my_X2_hasRoom : s_MV M_X2_hasRoom 2 0 := ⟨⟨w_753, w_170, ⟨by decide +kernel, by decide +kernel, by decide +kernel⟩, by decide, rfl⟩, ⟨TX2, 8, rfl⟩, w_752, w_21, by decide⟩
theorem fp_X2_39 : s_FP RX2 39 2 0 .int false := ⟨by decide, RX2, TX2, 8, tyX2, rfl, uw_2, by decide, w_213, tyX2_ok, nmX2, by decide +kernel, rfl, fun h => by cases h⟩
theorem my_X2_place : s_MV M_X2_place 2 3 := ⟨⟨w_850, w_170, ⟨by decide +kernel, by decide +kernel, by decide +kernel⟩, by decide, rfl⟩, ⟨TX2, 8, rfl⟩, w_849, w_28, by decide⟩
theorem my_X2_makeAtom : s_MV M_X2_makeAtom 2 2 := ⟨⟨w_854, w_170, ⟨by decide +kernel, by decide +kernel, by decide +kernel⟩, by decide, rfl⟩, ⟨TX2, 8, rfl⟩, w_852, w_853, by decide⟩
theorem my_J7_copyOf_59c91 : s_MS M_J7_copyOf_59c91 2 := ⟨⟨w_756, w_171, ⟨by decide +kernel, by decide +kernel, by decide +kernel⟩, by decide, rfl⟩, w_755⟩
theorem my_X2_truthAt : s_MV M_X2_truthAt 2 4 := ⟨⟨w_970, w_170, ⟨by decide +kernel, by decide +kernel, by decide +kernel⟩, by decide, rfl⟩, ⟨TX2, 8, rfl⟩, w_969, w_31, by decide⟩
theorem my_X2_column : s_MS M_X2_column 2 := ⟨⟨w_973, w_170, ⟨by decide +kernel, by decide +kernel, by decide +kernel⟩, by decide, rfl⟩, w_972⟩
theorem my_X2_truthOfBinder : s_MV M_X2_truthOfBinder 2 4 := ⟨⟨w_980, w_170, ⟨by decide +kernel, by decide +kernel, by decide +kernel⟩, by decide, rfl⟩, ⟨TX2, 8, rfl⟩, w_979, w_32, by decide⟩
theorem fl_X3_11 : s_FL RX3 11 3 1 := ⟨by decide, RX3, TX3, 6, rfl, uw_3, by decide, w_350⟩
theorem fp_X3_11 : s_FP RX3 11 3 1 (.array .long) true := ⟨by decide, RX3, TX3, 6, tyX3, rfl, uw_3, by decide, w_350, tyX3_ok, nmX3, by decide +kernel, rfl, fun _ => rfl⟩
theorem fl_X3_17 : s_FL RX3 17 3 2 := ⟨by decide, RX3, TX3, 6, rfl, uw_3, by decide, w_351⟩
theorem fp_X3_17 : s_FP RX3 17 3 2 (.array .long) true := ⟨by decide, RX3, TX3, 6, tyX3, rfl, uw_3, by decide, w_351, tyX3_ok, nmX3, by decide +kernel, rfl, fun _ => rfl⟩
theorem fl_X3_20 : s_FL RX3 20 3 3 := ⟨by decide, RX3, TX3, 6, rfl, uw_3, by decide, w_352⟩
theorem fp_X3_20 : s_FP RX3 20 3 3 (.array .long) true := ⟨by decide, RX3, TX3, 6, tyX3, rfl, uw_3, by decide, w_352, tyX3_ok, nmX3, by decide +kernel, rfl, fun _ => rfl⟩
theorem fl_X3_23 : s_FL RX3 23 3 4 := ⟨by decide, RX3, TX3, 6, rfl, uw_3, by decide, w_353⟩
theorem fp_X3_23 : s_FP RX3 23 3 4 (.array .int) true := ⟨by decide, RX3, TX3, 6, tyX3, rfl, uw_3, by decide, w_353, tyX3_ok, nmX3, by decide +kernel, rfl, fun _ => rfl⟩
theorem fl_X3_27 : s_FL RX3 27 3 5 := ⟨by decide, RX3, TX3, 6, rfl, uw_3, by decide, w_354⟩
theorem fp_X3_27 : s_FP RX3 27 3 5 (.array .long) true := ⟨by decide, RX3, TX3, 6, tyX3, rfl, uw_3, by decide, w_354, tyX3_ok, nmX3, by decide +kernel, rfl, fun _ => rfl⟩
theorem fl_X3_30 : s_FL RX3 30 3 0 := ⟨by decide, RX3, TX3, 6, rfl, uw_3, by decide, w_349⟩
theorem fp_X3_30 : s_FP RX3 30 3 0 (.object "ProofShop$Books") true := ⟨by decide, RX3, TX3, 6, tyX3, rfl, uw_3, by decide, w_349, tyX3_ok, nmX3, by decide +kernel, rfl, fun _ => rfl⟩
theorem my_J13_bitCount_95d88 : s_MS M_J13_bitCount_95d88 1 := ⟨⟨w_676, w_193, ⟨by decide +kernel, by decide +kernel, by decide +kernel⟩, by decide, rfl⟩, w_675⟩
theorem fl_X3_48 : s_FL RX3 48 1 2 := ⟨by decide, RX1, TX1, 15, rfl, uw_1, by decide, w_255⟩
theorem my_X1_isTrue : s_MV M_X1_isTrue 1 2 := ⟨⟨w_1061, w_172, ⟨by decide +kernel, by decide +kernel, by decide +kernel⟩, by decide, rfl⟩, ⟨TX1, 15, rfl⟩, w_1059, w_1060, by decide⟩
theorem my_J7_fill_d0a16 : s_MS M_J7_fill_d0a16 2 := ⟨⟨w_1249, w_171, ⟨by decide +kernel, by decide +kernel, by decide +kernel⟩, by decide, rfl⟩, w_1248⟩
theorem my_X3_narrow : s_MV M_X3_narrow 3 3 := ⟨⟨w_1253, w_174, ⟨by decide +kernel, by decide +kernel, by decide +kernel⟩, by decide, rfl⟩, ⟨TX3, 6, rfl⟩, w_1252, w_42, by decide⟩
theorem my_X3_leastOf : s_MV M_X3_leastOf 3 1 := ⟨⟨w_1459, w_174, ⟨by decide +kernel, by decide +kernel, by decide +kernel⟩, by decide, rfl⟩, ⟨TX3, 6, rfl⟩, w_1458, w_65, by decide⟩
theorem my_J13_numberOfTrailingZeros_95d88 : s_MS M_J13_numberOfTrailingZeros_95d88 1 := ⟨⟨w_1260, w_193, ⟨by decide +kernel, by decide +kernel, by decide +kernel⟩, by decide, rfl⟩, w_1259⟩
theorem my_X3_gather : s_MV M_X3_gather 3 2 := ⟨⟨w_1245, w_174, ⟨by decide +kernel, by decide +kernel, by decide +kernel⟩, by decide, rfl⟩, ⟨TX3, 6, rfl⟩, w_1244, w_41, by decide⟩
theorem my_X3_leastOutside : s_MV M_X3_leastOutside 3 2 := ⟨⟨w_1257, w_174, ⟨by decide +kernel, by decide +kernel, by decide +kernel⟩, by decide, rfl⟩, ⟨TX3, 6, rfl⟩, w_1256, w_43, by decide⟩
theorem my_X3_leastBreach : s_MV M_X3_leastBreach 3 2 := ⟨⟨w_1241, w_174, ⟨by decide +kernel, by decide +kernel, by decide +kernel⟩, by decide, rfl⟩, ⟨TX3, 6, rfl⟩, w_1239, w_1240, by decide⟩
theorem my_X3_holdAlike : s_MV M_X3_holdAlike 3 2 := ⟨⟨w_1519, w_174, ⟨by decide +kernel, by decide +kernel, by decide +kernel⟩, by decide, rfl⟩, ⟨TX3, 6, rfl⟩, w_1518, w_70, by decide⟩
theorem my_J6_bitCount_0f7a4 : s_MS M_J6_bitCount_0f7a4 1 := ⟨⟨w_670, w_195, ⟨by decide +kernel, by decide +kernel, by decide +kernel⟩, by decide, rfl⟩, w_669⟩
theorem my_X3_listMembers : s_MV M_X3_listMembers 3 1 := ⟨⟨w_1479, w_174, ⟨by decide +kernel, by decide +kernel, by decide +kernel⟩, by decide, rfl⟩, ⟨TX3, 6, rfl⟩, w_1478, w_67, by decide⟩
theorem my_X3_membersIn : s_MV M_X3_membersIn 3 2 := ⟨⟨w_1484, w_174, ⟨by decide +kernel, by decide +kernel, by decide +kernel⟩, by decide, rfl⟩, ⟨TX3, 6, rfl⟩, w_1483, w_68, by decide⟩
theorem my_X3_isBetter : s_MS M_X3_isBetter 2 := ⟨⟨w_1487, w_174, ⟨by decide +kernel, by decide +kernel, by decide +kernel⟩, by decide, rfl⟩, w_1486⟩
theorem my_X3_formulasOf : s_MV M_X3_formulasOf 3 1 := ⟨⟨w_1492, w_174, ⟨by decide +kernel, by decide +kernel, by decide +kernel⟩, by decide, rfl⟩, ⟨TX3, 6, rfl⟩, w_1491, w_69, by decide⟩
theorem my_X3_markTogether : s_MV M_X3_markTogether 3 1 := ⟨⟨w_1534, w_174, ⟨by decide +kernel, by decide +kernel, by decide +kernel⟩, by decide, rfl⟩, ⟨TX3, 6, rfl⟩, w_1533, w_71, by decide⟩
theorem my_X3_markWithin : s_MV M_X3_markWithin 3 1 := ⟨⟨w_1538, w_174, ⟨by decide +kernel, by decide +kernel, by decide +kernel⟩, by decide, rfl⟩, ⟨TX3, 6, rfl⟩, w_1537, w_72, by decide⟩
theorem my_X3_markAcross : s_MV M_X3_markAcross 3 1 := ⟨⟨w_1543, w_174, ⟨by decide +kernel, by decide +kernel, by decide +kernel⟩, by decide, rfl⟩, ⟨TX3, 6, rfl⟩, w_1542, w_73, by decide⟩
theorem my_X3_isEmpty : s_MV M_X3_isEmpty 3 1 := ⟨⟨w_1558, w_174, ⟨by decide +kernel, by decide +kernel, by decide +kernel⟩, by decide, rfl⟩, ⟨TX3, 6, rfl⟩, w_1557, w_74, by decide⟩
theorem my_X3_oneMore : s_MV M_X3_oneMore 3 3 := ⟨⟨w_1562, w_174, ⟨by decide +kernel, by decide +kernel, by decide +kernel⟩, by decide, rfl⟩, ⟨TX3, 6, rfl⟩, w_1561, w_75, by decide⟩
theorem my_X3_twoMore : s_MV M_X3_twoMore 3 3 := ⟨⟨w_1575, w_174, ⟨by decide +kernel, by decide +kernel, by decide +kernel⟩, by decide, rfl⟩, ⟨TX3, 6, rfl⟩, w_1574, w_78, by decide⟩
theorem my_X3_threeMore : s_MV M_X3_threeMore 3 1 := ⟨⟨w_1579, w_174, ⟨by decide +kernel, by decide +kernel, by decide +kernel⟩, by decide, rfl⟩, ⟨TX3, 6, rfl⟩, w_1578, w_79, by decide⟩
theorem my_X3_isOpenTo : s_MV M_X3_isOpenTo 3 2 := ⟨⟨w_1566, w_174, ⟨by decide +kernel, by decide +kernel, by decide +kernel⟩, by decide, rfl⟩, ⟨TX3, 6, rfl⟩, w_1565, w_76, by decide⟩
theorem my_X3_provesWith : s_MV M_X3_provesWith 3 3 := ⟨⟨w_1571, w_174, ⟨by decide +kernel, by decide +kernel, by decide +kernel⟩, by decide, rfl⟩, ⟨TX3, 6, rfl⟩, w_1570, w_77, by decide⟩
theorem fl_X4_11 : s_FL RX4 11 4 2 := ⟨by decide, RX4, TX4, 13, rfl, uw_4, by decide, w_402⟩
theorem fp_X4_11 : s_FP RX4 11 4 2 (.array .int) true := ⟨by decide, RX4, TX4, 13, tyX4, rfl, uw_4, by decide, w_402, tyX4_ok, nmX4, by decide +kernel, rfl, fun _ => rfl⟩
theorem fl_X4_15 : s_FL RX4 15 4 3 := ⟨by decide, RX4, TX4, 13, rfl, uw_4, by decide, w_403⟩
theorem fp_X4_15 : s_FP RX4 15 4 3 (.array .int) true := ⟨by decide, RX4, TX4, 13, tyX4, rfl, uw_4, by decide, w_403, tyX4_ok, nmX4, by decide +kernel, rfl, fun _ => rfl⟩
theorem fl_X4_18 : s_FL RX4 18 4 4 := ⟨by decide, RX4, TX4, 13, rfl, uw_4, by decide, w_404⟩
theorem fp_X4_18 : s_FP RX4 18 4 4 (.array .int) true := ⟨by decide, RX4, TX4, 13, tyX4, rfl, uw_4, by decide, w_404, tyX4_ok, nmX4, by decide +kernel, rfl, fun _ => rfl⟩
theorem fl_X4_21 : s_FL RX4 21 4 5 := ⟨by decide, RX4, TX4, 13, rfl, uw_4, by decide, w_405⟩
theorem fp_X4_21 : s_FP RX4 21 4 5 (.array .int) true := ⟨by decide, RX4, TX4, 13, tyX4, rfl, uw_4, by decide, w_405, tyX4_ok, nmX4, by decide +kernel, rfl, fun _ => rfl⟩
theorem fl_X4_24 : s_FL RX4 24 4 6 := ⟨by decide, RX4, TX4, 13, rfl, uw_4, by decide, w_406⟩
theorem fp_X4_24 : s_FP RX4 24 4 6 (.array .int) true := ⟨by decide, RX4, TX4, 13, tyX4, rfl, uw_4, by decide, w_406, tyX4_ok, nmX4, by decide +kernel, rfl, fun _ => rfl⟩
theorem fl_X4_27 : s_FL RX4 27 4 7 := ⟨by decide, RX4, TX4, 13, rfl, uw_4, by decide, w_407⟩
theorem fp_X4_27 : s_FP RX4 27 4 7 (.array .int) true := ⟨by decide, RX4, TX4, 13, tyX4, rfl, uw_4, by decide, w_407, tyX4_ok, nmX4, by decide +kernel, rfl, fun _ => rfl⟩
theorem fl_X4_30 : s_FL RX4 30 4 0 := ⟨by decide, RX4, TX4, 13, rfl, uw_4, by decide, w_400⟩
theorem fp_X4_30 : s_FP RX4 30 4 0 (.object "ProofShop$Forms") true := ⟨by decide, RX4, TX4, 13, tyX4, rfl, uw_4, by decide, w_400, tyX4_ok, nmX4, by decide +kernel, rfl, fun _ => rfl⟩
theorem fl_X4_34 : s_FL RX4 34 4 1 := ⟨by decide, RX4, TX4, 13, rfl, uw_4, by decide, w_401⟩
theorem fp_X4_34 : s_FP RX4 34 4 1 (.object "ProofShop$Books") true := ⟨by decide, RX4, TX4, 13, tyX4, rfl, uw_4, by decide, w_401, tyX4_ok, nmX4, by decide +kernel, rfl, fun _ => rfl⟩
theorem fl_X4_44 : s_FL RX4 44 4 11 := ⟨by decide, RX4, TX4, 13, rfl, uw_4, by decide, w_411⟩
theorem fp_X4_44 : s_FP RX4 44 4 11 .int false := ⟨by decide, RX4, TX4, 13, tyX4, rfl, uw_4, by decide, w_411, tyX4_ok, nmX4, by decide +kernel, rfl, fun h => by cases h⟩
theorem fl_X4_48 : s_FL RX4 48 4 8 := ⟨by decide, RX4, TX4, 13, rfl, uw_4, by decide, w_408⟩
theorem fp_X4_48 : s_FP RX4 48 4 8 .int false := ⟨by decide, RX4, TX4, 13, tyX4, rfl, uw_4, by decide, w_408, tyX4_ok, nmX4, by decide +kernel, rfl, fun h => by cases h⟩
theorem fl_X4_51 : s_FL RX4 51 4 9 := ⟨by decide, RX4, TX4, 13, rfl, uw_4, by decide, w_409⟩
theorem fp_X4_51 : s_FP RX4 51 4 9 .int false := ⟨by decide, RX4, TX4, 13, tyX4, rfl, uw_4, by decide, w_409, tyX4_ok, nmX4, by decide +kernel, rfl, fun h => by cases h⟩
theorem fl_X4_54 : s_FL RX4 54 4 10 := ⟨by decide, RX4, TX4, 13, rfl, uw_4, by decide, w_410⟩
theorem fp_X4_54 : s_FP RX4 54 4 10 .int false := ⟨by decide, RX4, TX4, 13, tyX4, rfl, uw_4, by decide, w_410, tyX4_ok, nmX4, by decide +kernel, rfl, fun h => by cases h⟩
theorem my_X4_lookAt : s_MV M_X4_lookAt 4 2 := ⟨⟨w_1291, w_176, ⟨by decide +kernel, by decide +kernel, by decide +kernel⟩, by decide, rfl⟩, ⟨TX4, 13, rfl⟩, w_1290, w_45, by decide⟩
theorem fl_X4_61 : s_FL RX4 61 1 2 := ⟨by decide, RX1, TX1, 15, rfl, uw_1, by decide, w_254⟩
theorem my_X4_listAssumed : s_MV M_X4_listAssumed 4 1 := ⟨⟨w_1305, w_176, ⟨by decide +kernel, by decide +kernel, by decide +kernel⟩, by decide, rfl⟩, ⟨TX4, 13, rfl⟩, w_1304, w_47, by decide⟩
theorem my_X4_listSteps : s_MV M_X4_listSteps 4 1 := ⟨⟨w_1313, w_176, ⟨by decide +kernel, by decide +kernel, by decide +kernel⟩, by decide, rfl⟩, ⟨TX4, 13, rfl⟩, w_1312, w_49, by decide⟩
theorem my_X4_placeOf : s_MV M_X4_placeOf 4 1 := ⟨⟨w_1295, w_176, ⟨by decide +kernel, by decide +kernel, by decide +kernel⟩, by decide, rfl⟩, ⟨TX4, 13, rfl⟩, w_1294, w_46, by decide⟩
theorem fl_X4_85 : s_FL RX4 85 1 0 := ⟨by decide, RX1, TX1, 15, rfl, uw_1, by decide, w_248⟩
theorem my_X4_slotOf : s_MV M_X4_slotOf 4 1 := ⟨⟨w_1309, w_176, ⟨by decide +kernel, by decide +kernel, by decide +kernel⟩, by decide, rfl⟩, ⟨TX4, 13, rfl⟩, w_1308, w_48, by decide⟩
theorem my_X4_listOrSteps : s_MV M_X4_listOrSteps 4 3 := ⟨⟨w_1325, w_176, ⟨by decide +kernel, by decide +kernel, by decide +kernel⟩, by decide, rfl⟩, ⟨TX4, 13, rfl⟩, w_1324, w_52, by decide⟩
theorem my_X4_listIfSteps : s_MV M_X4_listIfSteps 4 3 := ⟨⟨w_1334, w_176, ⟨by decide +kernel, by decide +kernel, by decide +kernel⟩, by decide, rfl⟩, ⟨TX4, 13, rfl⟩, w_1333, w_54, by decide⟩
theorem my_X4_listAllSteps : s_MV M_X4_listAllSteps 4 1 := ⟨⟨w_1338, w_176, ⟨by decide +kernel, by decide +kernel, by decide +kernel⟩, by decide, rfl⟩, ⟨TX4, 13, rfl⟩, w_1337, w_55, by decide⟩
theorem my_X4_listSomeSteps : s_MV M_X4_listSomeSteps 4 1 := ⟨⟨w_1342, w_176, ⟨by decide +kernel, by decide +kernel, by decide +kernel⟩, by decide, rfl⟩, ⟨TX4, 13, rfl⟩, w_1341, w_56, by decide⟩
theorem my_X4_listAndSteps : s_MV M_X4_listAndSteps 4 3 := ⟨⟨w_1321, w_176, ⟨by decide +kernel, by decide +kernel, by decide +kernel⟩, by decide, rfl⟩, ⟨TX4, 13, rfl⟩, w_1320, w_51, by decide⟩
theorem my_X4_addStep : s_MV M_X4_addStep 4 5 := ⟨⟨w_1317, w_176, ⟨by decide +kernel, by decide +kernel, by decide +kernel⟩, by decide, rfl⟩, ⟨TX4, 13, rfl⟩, w_1316, w_50, by decide⟩
theorem my_X4_placeOfIf : s_MV M_X4_placeOfIf 4 2 := ⟨⟨w_1329, w_176, ⟨by decide +kernel, by decide +kernel, by decide +kernel⟩, by decide, rfl⟩, ⟨TX4, 13, rfl⟩, w_1328, w_53, by decide⟩
theorem fl_X4_136 : s_FL RX4 136 4 12 := ⟨by decide, RX4, TX4, 13, rfl, uw_4, by decide, w_412⟩
theorem fp_X4_136 : s_FP RX4 136 4 12 .int false := ⟨by decide, RX4, TX4, 13, tyX4, rfl, uw_4, by decide, w_412, tyX4_ok, nmX4, by decide +kernel, rfl, fun h => by cases h⟩
theorem my_X4_settle : s_MV M_X4_settle 4 1 := ⟨⟨w_1353, w_176, ⟨by decide +kernel, by decide +kernel, by decide +kernel⟩, by decide, rfl⟩, ⟨TX4, 13, rfl⟩, w_1352, w_57, by decide⟩
theorem my_X4_costAlone : s_MV M_X4_costAlone 4 2 := ⟨⟨w_1357, w_176, ⟨by decide +kernel, by decide +kernel, by decide +kernel⟩, by decide, rfl⟩, ⟨TX4, 13, rfl⟩, w_1356, w_58, by decide⟩
theorem my_X4_costOfStep : s_MV M_X4_costOfStep 4 2 := ⟨⟨w_1367, w_176, ⟨by decide +kernel, by decide +kernel, by decide +kernel⟩, by decide, rfl⟩, ⟨TX4, 13, rfl⟩, w_1366, w_60, by decide⟩
theorem my_X4_improve : s_MV M_X4_improve 4 3 := ⟨⟨w_1383, w_176, ⟨by decide +kernel, by decide +kernel, by decide +kernel⟩, by decide, rfl⟩, ⟨TX4, 13, rfl⟩, w_1382, w_63, by decide⟩
theorem my_X4_costOfAbsurd : s_MV M_X4_costOfAbsurd 4 1 := ⟨⟨w_1387, w_176, ⟨by decide +kernel, by decide +kernel, by decide +kernel⟩, by decide, rfl⟩, ⟨TX4, 13, rfl⟩, w_1386, w_64, by decide⟩
theorem my_X4_lineCost : s_MV M_X4_lineCost 4 2 := ⟨⟨w_1362, w_176, ⟨by decide +kernel, by decide +kernel, by decide +kernel⟩, by decide, rfl⟩, ⟨TX4, 13, rfl⟩, w_1361, w_59, by decide⟩
theorem my_X4_limited : s_MS M_X4_limited 1 := ⟨⟨w_1378, w_176, ⟨by decide +kernel, by decide +kernel, by decide +kernel⟩, by decide, rfl⟩, w_1377⟩
theorem my_X4_costOfGiven : s_MV M_X4_costOfGiven 4 4 := ⟨⟨w_1371, w_176, ⟨by decide +kernel, by decide +kernel, by decide +kernel⟩, by decide, rfl⟩, ⟨TX4, 13, rfl⟩, w_1370, w_61, by decide⟩
theorem my_X4_costAt : s_MV M_X4_costAt 4 2 := ⟨⟨w_1375, w_176, ⟨by decide +kernel, by decide +kernel, by decide +kernel⟩, by decide, rfl⟩, ⟨TX4, 13, rfl⟩, w_1374, w_62, by decide⟩
theorem my_X4_costIn : s_MV M_X4_costIn 4 1 := ⟨⟨w_1346, w_176, ⟨by decide +kernel, by decide +kernel, by decide +kernel⟩, by decide, rfl⟩, ⟨TX4, 13, rfl⟩, w_1344, w_1345, by decide⟩
theorem fl_X5_9 : s_FL RX5 9 5 1 := ⟨by decide, RX5, TX5, 7, rfl, uw_5, by decide, w_320⟩
theorem fp_X5_9 : s_FP RX5 9 5 1 .int false := ⟨by decide, RX5, TX5, 7, tyX5, rfl, uw_5, by decide, w_320, tyX5_ok, nmX5, by decide +kernel, rfl, fun h => by cases h⟩
theorem at_byte : s_at 2 .byte .byte := ⟨rfl, w_342, by decide, Or.inr (Or.inr (Or.inl ⟨rfl, rfl⟩))⟩
theorem fl_X5_15 : s_FL RX5 15 5 3 := ⟨by decide, RX5, TX5, 7, rfl, uw_5, by decide, w_323⟩
theorem fp_X5_15 : s_FP RX5 15 5 3 (.array .byte) true := ⟨by decide, RX5, TX5, 7, tyX5, rfl, uw_5, by decide, w_323, tyX5_ok, nmX5, by decide +kernel, rfl, fun _ => rfl⟩
theorem fl_X5_19 : s_FL RX5 19 5 2 := ⟨by decide, RX5, TX5, 7, rfl, uw_5, by decide, w_322⟩
theorem fp_X5_19 : s_FP RX5 19 5 2 (.object "ProofShop$Forms") true := ⟨by decide, RX5, TX5, 7, tyX5, rfl, uw_5, by decide, w_322, tyX5_ok, nmX5, by decide +kernel, rfl, fun _ => rfl⟩
theorem fl_X5_23 : s_FL RX5 23 5 0 := ⟨by decide, RX5, TX5, 7, rfl, uw_5, by decide, w_318⟩
theorem fp_X5_23 : s_FP RX5 23 5 0 .int false := ⟨by decide, RX5, TX5, 7, tyX5, rfl, uw_5, by decide, w_318, tyX5_ok, nmX5, by decide +kernel, rfl, fun h => by cases h⟩
theorem fl_X5_26 : s_FL RX5 26 5 6 := ⟨by decide, RX5, TX5, 7, rfl, uw_5, by decide, w_326⟩
theorem fp_X5_26 : s_FP RX5 26 5 6 .int false := ⟨by decide, RX5, TX5, 7, tyX5, rfl, uw_5, by decide, w_326, tyX5_ok, nmX5, by decide +kernel, rfl, fun h => by cases h⟩
theorem fl_X5_29 : s_FL RX5 29 5 4 := ⟨by decide, RX5, TX5, 7, rfl, uw_5, by decide, w_324⟩
theorem fp_X5_29 : s_FP RX5 29 5 4 .int false := ⟨by decide, RX5, TX5, 7, tyX5, rfl, uw_5, by decide, w_324, tyX5_ok, nmX5, by decide +kernel, rfl, fun h => by cases h⟩
theorem fl_X5_32 : s_FL RX5 32 5 5 := ⟨by decide, RX5, TX5, 7, rfl, uw_5, by decide, w_325⟩
theorem fp_X5_32 : s_FP RX5 32 5 5 .int false := ⟨by decide, RX5, TX5, 7, tyX5, rfl, uw_5, by decide, w_325, tyX5_ok, nmX5, by decide +kernel, rfl, fun h => by cases h⟩
theorem my_X5_readIf : s_MV M_X5_readIf 5 2 := ⟨⟨w_704, w_173, ⟨by decide +kernel, by decide +kernel, by decide +kernel⟩, by decide, rfl⟩, ⟨TX5, 7, rfl⟩, w_703, w_10, by decide⟩
theorem my_X5_peek : s_MV M_X5_peek 5 0 := ⟨⟨w_720, w_173, ⟨by decide +kernel, by decide +kernel, by decide +kernel⟩, by decide, rfl⟩, ⟨TX5, 7, rfl⟩, w_719, w_14, by decide⟩
theorem my_X5_fail : s_MV M_X5_fail 5 1 := ⟨⟨w_728, w_173, ⟨by decide +kernel, by decide +kernel, by decide +kernel⟩, by decide, rfl⟩, ⟨TX5, 7, rfl⟩, w_727, w_16, by decide⟩
theorem my_X5_readOr : s_MV M_X5_readOr 5 2 := ⟨⟨w_708, w_173, ⟨by decide +kernel, by decide +kernel, by decide +kernel⟩, by decide, rfl⟩, ⟨TX5, 7, rfl⟩, w_707, w_11, by decide⟩
theorem my_X5_mayGoDeeper : s_MV M_X5_mayGoDeeper 5 1 := ⟨⟨w_736, w_173, ⟨by decide +kernel, by decide +kernel, by decide +kernel⟩, by decide, rfl⟩, ⟨TX5, 7, rfl⟩, w_735, w_18, by decide⟩
theorem my_X5_mayTakeSign : s_MV M_X5_mayTakeSign 5 1 := ⟨⟨w_740, w_173, ⟨by decide +kernel, by decide +kernel, by decide +kernel⟩, by decide, rfl⟩, ⟨TX5, 7, rfl⟩, w_739, w_19, by decide⟩
theorem my_X5_join : s_MV M_X5_join 5 3 := ⟨⟨w_744, w_173, ⟨by decide +kernel, by decide +kernel, by decide +kernel⟩, by decide, rfl⟩, ⟨TX5, 7, rfl⟩, w_743, w_20, by decide⟩
theorem my_X5_readAnd : s_MV M_X5_readAnd 5 2 := ⟨⟨w_712, w_173, ⟨by decide +kernel, by decide +kernel, by decide +kernel⟩, by decide, rfl⟩, ⟨TX5, 7, rfl⟩, w_711, w_12, by decide⟩
theorem my_X5_readUnit : s_MV M_X5_readUnit 5 2 := ⟨⟨w_716, w_173, ⟨by decide +kernel, by decide +kernel, by decide +kernel⟩, by decide, rfl⟩, ⟨TX5, 7, rfl⟩, w_715, w_13, by decide⟩
theorem my_X5_readNot : s_MV M_X5_readNot 5 2 := ⟨⟨w_732, w_173, ⟨by decide +kernel, by decide +kernel, by decide +kernel⟩, by decide, rfl⟩, ⟨TX5, 7, rfl⟩, w_731, w_17, by decide⟩
theorem my_X5_readInner : s_MV M_X5_readInner 5 2 := ⟨⟨w_772, w_173, ⟨by decide +kernel, by decide +kernel, by decide +kernel⟩, by decide, rfl⟩, ⟨TX5, 7, rfl⟩, w_771, w_22, by decide⟩
theorem my_X5_isLetter : s_MV M_X5_isLetter 5 1 := ⟨⟨w_776, w_173, ⟨by decide +kernel, by decide +kernel, by decide +kernel⟩, by decide, rfl⟩, ⟨TX5, 7, rfl⟩, w_775, w_23, by decide⟩
theorem my_X5_readWord : s_MV M_X5_readWord 5 2 := ⟨⟨w_780, w_173, ⟨by decide +kernel, by decide +kernel, by decide +kernel⟩, by decide, rfl⟩, ⟨TX5, 7, rfl⟩, w_779, w_24, by decide⟩
theorem my_X5_wordEnd : s_MV M_X5_wordEnd 5 0 := ⟨⟨w_784, w_173, ⟨by decide +kernel, by decide +kernel, by decide +kernel⟩, by decide, rfl⟩, ⟨TX5, 7, rfl⟩, w_783, w_25, by decide⟩
theorem my_X5_isWord : s_MV M_X5_isWord 5 3 := ⟨⟨w_789, w_173, ⟨by decide +kernel, by decide +kernel, by decide +kernel⟩, by decide, rfl⟩, ⟨TX5, 7, rfl⟩, w_788, w_26, by decide⟩
theorem my_X5_readBinder : s_MV M_X5_readBinder 5 4 := ⟨⟨w_841, w_173, ⟨by decide +kernel, by decide +kernel, by decide +kernel⟩, by decide, rfl⟩, ⟨TX5, 7, rfl⟩, w_840, w_27, by decide⟩
theorem my_X5_byteAt : s_MV M_X5_byteAt 5 1 := ⟨⟨w_724, w_173, ⟨by decide +kernel, by decide +kernel, by decide +kernel⟩, by decide, rfl⟩, ⟨TX5, 7, rfl⟩, w_723, w_15, by decide⟩
theorem my_X5_readShort : s_MV M_X5_readShort 5 1 := ⟨⟨w_859, w_173, ⟨by decide +kernel, by decide +kernel, by decide +kernel⟩, by decide, rfl⟩, ⟨TX5, 7, rfl⟩, w_858, w_29, by decide⟩
theorem my_X5_letterOf : s_MS M_X5_letterOf 1 := ⟨⟨w_862, w_173, ⟨by decide +kernel, by decide +kernel, by decide +kernel⟩, by decide, rfl⟩, w_861⟩
theorem my_X2_makeBinder : s_MV M_X2_makeBinder 2 3 := ⟨⟨w_845, w_170, ⟨by decide +kernel, by decide +kernel, by decide +kernel⟩, by decide, rfl⟩, ⟨TX2, 8, rfl⟩, w_843, w_844, by decide⟩
theorem my_J0_length_8abf5 : s_MVs M_J0_length_8abf5 0 := ⟨⟨w_793, w_181, ⟨by decide +kernel, by decide +kernel, by decide +kernel⟩, by decide, rfl⟩, w_791, w_792, rfl⟩
theorem my_J0_charAt_5068e : s_MVs M_J0_charAt_5068e 1 := ⟨⟨w_803, w_181, ⟨by decide +kernel, by decide +kernel, by decide +kernel⟩, by decide, rfl⟩, w_801, w_802, rfl⟩
theorem fl_X6_9 : s_FL RX6 9 6 0 := ⟨by decide, RX6, TX6, 2, rfl, uw_6, by decide, w_446⟩
theorem fp_X6_9 : s_FP RX6 9 6 0 (.object "ProofShop$Books") true := ⟨by decide, RX6, TX6, 2, tyX6, rfl, uw_6, by decide, w_446, tyX6_ok, nmX6, by decide +kernel, rfl, fun _ => rfl⟩
theorem fl_X6_15 : s_FL RX6 15 6 1 := ⟨by decide, RX6, TX6, 2, rfl, uw_6, by decide, w_447⟩
theorem fp_X6_15 : s_FP RX6 15 6 1 (.object "ProofShop$Auditor") true := ⟨by decide, RX6, TX6, 2, tyX6, rfl, uw_6, by decide, w_447, tyX6_ok, nmX6, by decide +kernel, rfl, fun _ => rfl⟩
theorem fl_X6_19 : s_FL RX6 19 1 9 := ⟨by decide, RX1, TX1, 15, rfl, uw_1, by decide, w_271⟩
theorem my_X1_isVoid : s_MV M_X1_isVoid 1 1 := ⟨⟨w_687, w_172, ⟨by decide +kernel, by decide +kernel, by decide +kernel⟩, by decide, rfl⟩, ⟨TX1, 15, rfl⟩, w_685, w_686, by decide⟩
theorem my_X6_isRefunded : s_MV M_X6_isRefunded 6 2 := ⟨⟨w_1603, w_177, ⟨by decide +kernel, by decide +kernel, by decide +kernel⟩, by decide, rfl⟩, ⟨TX6, 2, rfl⟩, w_1602, w_81, by decide⟩
theorem my_X1_ofReceipt : s_MV M_X1_ofReceipt 1 2 := ⟨⟨w_623, w_172, ⟨by decide +kernel, by decide +kernel, by decide +kernel⟩, by decide, rfl⟩, ⟨TX1, 15, rfl⟩, w_621, w_622, by decide⟩
theorem my_X0_tells : s_MV M_X0_tells 0 2 := ⟨⟨w_1194, w_175, ⟨by decide +kernel, by decide +kernel, by decide +kernel⟩, by decide, rfl⟩, ⟨TX0, 6, rfl⟩, w_1192, w_1193, by decide⟩
theorem my_X6_wasSoldBefore : s_MV M_X6_wasSoldBefore 6 1 := ⟨⟨w_1608, w_177, ⟨by decide +kernel, by decide +kernel, by decide +kernel⟩, by decide, rfl⟩, ⟨TX6, 2, rfl⟩, w_1607, w_82, by decide⟩
theorem my_X6_isBefore : s_MV M_X6_isBefore 6 2 := ⟨⟨w_1613, w_177, ⟨by decide +kernel, by decide +kernel, by decide +kernel⟩, by decide, rfl⟩, ⟨TX6, 2, rfl⟩, w_1612, w_83, by decide⟩
theorem my_X6_refunded : s_MV M_X6_refunded 6 1 := ⟨⟨w_1599, w_177, ⟨by decide +kernel, by decide +kernel, by decide +kernel⟩, by decide, rfl⟩, ⟨TX6, 2, rfl⟩, w_1597, w_1598, by decide⟩
theorem my_X6_sellerOf : s_MV M_X6_sellerOf 6 1 := ⟨⟨w_1617, w_177, ⟨by decide +kernel, by decide +kernel, by decide +kernel⟩, by decide, rfl⟩, ⟨TX6, 2, rfl⟩, w_1616, w_84, by decide⟩
theorem my_X0_costOfAll : s_MV M_X0_costOfAll 0 1 := ⟨⟨w_628, w_175, ⟨by decide +kernel, by decide +kernel, by decide +kernel⟩, by decide, rfl⟩, ⟨TX0, 6, rfl⟩, w_626, w_627, by decide⟩
theorem nw_X7_9 : s_NW RX7 9 2 8 [.int 0, .null, .null, .null, .null, .null, .null, .null] := ⟨by decide, RX2, TX2, tyX2, rfl, uw_2, tyX2_ok, w_204, w_205, w_170, by decide +kernel⟩
theorem my_X2_init : s_MI M_X2_init 0 := ⟨⟨w_208, w_170, ⟨by decide +kernel, by decide +kernel, by decide +kernel⟩, by decide, rfl⟩, w_207, rfl, rfl⟩
theorem fl_X7_12 : s_FL RX7 12 7 0 := ⟨by decide, RX7, TX7, 9, rfl, uw_7, by decide, w_453⟩
theorem fp_X7_12 : s_FP RX7 12 7 0 (.object "ProofShop$Forms") true := ⟨by decide, RX7, TX7, 9, tyX7, rfl, uw_7, by decide, w_453, tyX7_ok, nmX7, by decide +kernel, rfl, fun _ => rfl⟩
theorem nw_X7_16 : s_NW RX7 16 1 15 [.int 0, .int 0, .int 0, .null, .null, .null, .int 0, .null, .null, .int 0, .int 0, .null, .null, .null, .null] := ⟨by decide, RX1, TX1, tyX1, rfl, uw_1, tyX1_ok, w_240, w_241, w_172, by decide +kernel⟩
theorem my_X1_init : s_MI M_X1_init 0 := ⟨⟨w_244, w_172, ⟨by decide +kernel, by decide +kernel, by decide +kernel⟩, by decide, rfl⟩, w_243, rfl, rfl⟩
theorem fl_X7_19 : s_FL RX7 19 7 1 := ⟨by decide, RX7, TX7, 9, rfl, uw_7, by decide, w_454⟩
theorem fp_X7_19 : s_FP RX7 19 7 1 (.object "ProofShop$Books") true := ⟨by decide, RX7, TX7, 9, tyX7, rfl, uw_7, by decide, w_454, tyX7_ok, nmX7, by decide +kernel, rfl, fun _ => rfl⟩
theorem fl_X7_23 : s_FL RX7 23 7 2 := ⟨by decide, RX7, TX7, 9, rfl, uw_7, by decide, w_455⟩
theorem fp_X7_23 : s_FP RX7 23 7 2 (.object "ProofShop$Books") true := ⟨by decide, RX7, TX7, 9, tyX7, rfl, uw_7, by decide, w_455, tyX7_ok, nmX7, by decide +kernel, rfl, fun _ => rfl⟩
theorem nw_X7_26 : s_NW RX7 26 5 7 [.int 0, .int 0, .null, .null, .int 0, .int 0, .int 0] := ⟨by decide, RX5, TX5, tyX5, rfl, uw_5, tyX5_ok, w_312, w_313, w_173, by decide +kernel⟩
theorem my_X5_init : s_MI M_X5_init 1 := ⟨⟨w_316, w_173, ⟨by decide +kernel, by decide +kernel, by decide +kernel⟩, by decide, rfl⟩, w_315, rfl, rfl⟩
theorem fl_X7_31 : s_FL RX7 31 7 3 := ⟨by decide, RX7, TX7, 9, rfl, uw_7, by decide, w_456⟩
theorem fp_X7_31 : s_FP RX7 31 7 3 (.object "ProofShop$Reader") true := ⟨by decide, RX7, TX7, 9, tyX7, rfl, uw_7, by decide, w_456, tyX7_ok, nmX7, by decide +kernel, rfl, fun _ => rfl⟩
theorem nw_X7_35 : s_NW RX7 35 3 6 [.null, .null, .null, .null, .null, .null] := ⟨by decide, RX3, TX3, tyX3, rfl, uw_3, tyX3_ok, w_343, w_344, w_174, by decide +kernel⟩
theorem my_X3_init : s_MI M_X3_init 1 := ⟨⟨w_347, w_174, ⟨by decide +kernel, by decide +kernel, by decide +kernel⟩, by decide, rfl⟩, w_346, rfl, rfl⟩
theorem fl_X7_40 : s_FL RX7 40 7 4 := ⟨by decide, RX7, TX7, 9, rfl, uw_7, by decide, w_457⟩
theorem fp_X7_40 : s_FP RX7 40 7 4 (.object "ProofShop$Models") true := ⟨by decide, RX7, TX7, 9, tyX7, rfl, uw_7, by decide, w_457, tyX7_ok, nmX7, by decide +kernel, rfl, fun _ => rfl⟩
theorem nw_X7_44 : s_NW RX7 44 0 6 [.long 0, .long 0, .long 0, .long 0, .null, .null] := ⟨by decide, RX0, TX0, tyX0, rfl, uw_0, tyX0_ok, w_368, w_369, w_175, by decide +kernel⟩
theorem my_X0_init : s_MI M_X0_init 2 := ⟨⟨w_372, w_175, ⟨by decide +kernel, by decide +kernel, by decide +kernel⟩, by decide, rfl⟩, w_371, rfl, rfl⟩
theorem fl_X7_49 : s_FL RX7 49 7 5 := ⟨by decide, RX7, TX7, 9, rfl, uw_7, by decide, w_458⟩
theorem fp_X7_49 : s_FP RX7 49 7 5 (.object "ProofShop$Auditor") true := ⟨by decide, RX7, TX7, 9, tyX7, rfl, uw_7, by decide, w_458, tyX7_ok, nmX7, by decide +kernel, rfl, fun _ => rfl⟩
theorem nw_X7_53 : s_NW RX7 53 4 13 [.null, .null, .null, .null, .null, .null, .null, .null, .int 0, .int 0, .int 0, .int 0, .int 0] := ⟨by decide, RX4, TX4, tyX4, rfl, uw_4, tyX4_ok, w_394, w_395, w_176, by decide +kernel⟩
theorem my_X4_init : s_MI M_X4_init 2 := ⟨⟨w_398, w_176, ⟨by decide +kernel, by decide +kernel, by decide +kernel⟩, by decide, rfl⟩, w_397, rfl, rfl⟩
theorem fl_X7_56 : s_FL RX7 56 7 6 := ⟨by decide, RX7, TX7, 9, rfl, uw_7, by decide, w_459⟩
theorem fp_X7_56 : s_FP RX7 56 7 6 (.object "ProofShop$Prover") true := ⟨by decide, RX7, TX7, 9, tyX7, rfl, uw_7, by decide, w_459, tyX7_ok, nmX7, by decide +kernel, rfl, fun _ => rfl⟩
theorem nw_X7_60 : s_NW RX7 60 6 2 [.null, .null] := ⟨by decide, RX6, TX6, tyX6, rfl, uw_6, tyX6_ok, w_440, w_441, w_177, by decide +kernel⟩
theorem my_X6_init : s_MI M_X6_init 2 := ⟨⟨w_444, w_177, ⟨by decide +kernel, by decide +kernel, by decide +kernel⟩, by decide, rfl⟩, w_443, rfl, rfl⟩
theorem fl_X7_65 : s_FL RX7 65 7 7 := ⟨by decide, RX7, TX7, 9, rfl, uw_7, by decide, w_460⟩
theorem fp_X7_65 : s_FP RX7 65 7 7 (.object "ProofShop$Till") true := ⟨by decide, RX7, TX7, 9, tyX7, rfl, uw_7, by decide, w_460, tyX7_ok, nmX7, by decide +kernel, rfl, fun _ => rfl⟩
theorem my_X5_hasRoom : s_MV M_X5_hasRoom 5 1 := ⟨⟨w_488, w_173, ⟨by decide +kernel, by decide +kernel, by decide +kernel⟩, by decide, rfl⟩, ⟨TX5, 7, rfl⟩, w_486, w_487, by decide⟩
theorem my_X5_put : s_MV M_X5_put 5 1 := ⟨⟨w_492, w_173, ⟨by decide +kernel, by decide +kernel, by decide +kernel⟩, by decide, rfl⟩, ⟨TX5, 7, rfl⟩, w_490, w_491, by decide⟩
theorem fl_X7_77 : s_FL RX7 77 5 0 := ⟨by decide, RX5, TX5, 7, rfl, uw_5, by decide, w_319⟩
theorem my_X5_cut : s_MV M_X5_cut 5 1 := ⟨⟨w_500, w_173, ⟨by decide +kernel, by decide +kernel, by decide +kernel⟩, by decide, rfl⟩, ⟨TX5, 7, rfl⟩, w_498, w_499, by decide⟩
theorem fl_X7_84 : s_FL RX7 84 1 0 := ⟨by decide, RX1, TX1, 15, rfl, uw_1, by decide, w_249⟩
theorem my_X5_read : s_MV M_X5_read 5 1 := ⟨⟨w_700, w_173, ⟨by decide +kernel, by decide +kernel, by decide +kernel⟩, by decide, rfl⟩, ⟨TX5, 7, rfl⟩, w_698, w_699, by decide⟩
theorem fl_X7_91 : s_FL RX7 91 1 1 := ⟨by decide, RX1, TX1, 15, rfl, uw_1, by decide, w_252⟩
theorem my_X2_cut : s_MV M_X2_cut 2 1 := ⟨⟨w_663, w_170, ⟨by decide +kernel, by decide +kernel, by decide +kernel⟩, by decide, rfl⟩, ⟨TX2, 8, rfl⟩, w_661, w_662, by decide⟩
theorem th_X7_96_98 : s_TH RX7 96 98 100 "java/lang/IllegalArgumentException" "the text is wrong" ["java/lang/RuntimeException", "java/lang/Exception"] := ⟨fun w hw => List.mem_filter.mpr ⟨List.contains_iff_mem.mp (List.all_eq_true.mp (by decide +kernel : (((Cond.classLink RX7 96 "java/lang/IllegalArgumentException" :: Cond.initialized "java/lang/IllegalArgumentException" :: vx_atS RX7 100 "java/lang/IllegalArgumentException" ["java/lang/RuntimeException", "java/lang/Exception"]).filter goodWord).all (fun w => lw_tbl.contains w)) = true) w hw), (List.mem_filter.mp hw).2⟩, by decide +kernel, by decide +kernel, by decide +kernel, by decide +kernel, by decide +kernel, by decide, 6, by decide +kernel⟩
theorem fl_X7_103 : s_FL RX7 103 1 2 := ⟨by decide, RX1, TX1, 15, rfl, uw_1, by decide, w_256⟩
theorem th_X7_106_108 : s_TH RX7 106 108 110 "java/lang/UnsupportedOperationException" "there are 30 formulas" ["java/lang/RuntimeException", "java/lang/Exception"] := ⟨fun w hw => List.mem_filter.mpr ⟨List.contains_iff_mem.mp (List.all_eq_true.mp (by decide +kernel : (((Cond.classLink RX7 106 "java/lang/UnsupportedOperationException" :: Cond.initialized "java/lang/UnsupportedOperationException" :: vx_atS RX7 110 "java/lang/UnsupportedOperationException" ["java/lang/RuntimeException", "java/lang/Exception"]).filter goodWord).all (fun w => lw_tbl.contains w)) = true) w hw), (List.mem_filter.mp hw).2⟩, by decide +kernel, by decide +kernel, by decide +kernel, by decide +kernel, by decide +kernel, by decide, 7, by decide +kernel⟩
theorem fl_X7_111 : s_FL RX7 111 2 0 := ⟨by decide, RX2, TX2, 8, rfl, uw_2, by decide, w_214⟩
theorem fp_X7_91 : s_FP RX7 91 1 1 .int false := ⟨by decide, RX1, TX1, 15, tyX1, rfl, uw_1, by decide, w_252, tyX1_ok, nmX1, by decide +kernel, rfl, fun h => by cases h⟩
theorem my_X1_addFormula : s_MV M_X1_addFormula 1 2 := ⟨⟨w_954, w_172, ⟨by decide +kernel, by decide +kernel, by decide +kernel⟩, by decide, rfl⟩, ⟨TX1, 15, rfl⟩, w_952, w_953, by decide⟩
theorem fl_X7_118 : s_FL RX7 118 5 1 := ⟨by decide, RX5, TX5, 7, rfl, uw_5, by decide, w_321⟩
theorem th_X7_96_121 : s_TH RX7 96 121 100 "java/lang/IllegalArgumentException" "no such number of things" ["java/lang/RuntimeException", "java/lang/Exception"] := ⟨fun w hw => List.mem_filter.mpr ⟨List.contains_iff_mem.mp (List.all_eq_true.mp (by decide +kernel : (((Cond.classLink RX7 96 "java/lang/IllegalArgumentException" :: Cond.initialized "java/lang/IllegalArgumentException" :: vx_atS RX7 100 "java/lang/IllegalArgumentException" ["java/lang/RuntimeException", "java/lang/Exception"]).filter goodWord).all (fun w => lw_tbl.contains w)) = true) w hw), (List.mem_filter.mp hw).2⟩, by decide +kernel, by decide +kernel, by decide +kernel, by decide +kernel, by decide +kernel, by decide, 8, by decide +kernel⟩
theorem fp_X7_84 : s_FP RX7 84 1 0 .int false := ⟨by decide, RX1, TX1, 15, tyX1, rfl, uw_1, by decide, w_249, tyX1_ok, nmX1, by decide +kernel, rfl, fun h => by cases h⟩
theorem th_X7_123_125 : s_TH RX7 123 125 127 "java/lang/IllegalStateException" "there are formulas" ["java/lang/RuntimeException", "java/lang/Exception"] := ⟨fun w hw => List.mem_filter.mpr ⟨List.contains_iff_mem.mp (List.all_eq_true.mp (by decide +kernel : (((Cond.classLink RX7 123 "java/lang/IllegalStateException" :: Cond.initialized "java/lang/IllegalStateException" :: vx_atS RX7 127 "java/lang/IllegalStateException" ["java/lang/RuntimeException", "java/lang/Exception"]).filter goodWord).all (fun w => lw_tbl.contains w)) = true) w hw), (List.mem_filter.mp hw).2⟩, by decide +kernel, by decide +kernel, by decide +kernel, by decide +kernel, by decide +kernel, by decide, 9, by decide +kernel⟩
theorem my_X7_needFormula : s_MV M_X7_needFormula 7 1 := ⟨⟨w_1019, w_169, ⟨by decide +kernel, by decide +kernel, by decide +kernel⟩, by decide, rfl⟩, ⟨TX7, 9, rfl⟩, w_1018, w_33, by decide⟩
theorem my_X7_needWorld : s_MV M_X7_needWorld 7 1 := ⟨⟨w_1055, w_169, ⟨by decide +kernel, by decide +kernel, by decide +kernel⟩, by decide, rfl⟩, ⟨TX7, 9, rfl⟩, w_1054, w_34, by decide⟩
theorem my_X3_size : s_MV M_X3_size 3 1 := ⟨⟨w_1076, w_174, ⟨by decide +kernel, by decide +kernel, by decide +kernel⟩, by decide, rfl⟩, ⟨TX3, 6, rfl⟩, w_1074, w_1075, by decide⟩
theorem my_X7_needHouse : s_MV M_X7_needHouse 7 1 := ⟨⟨w_1090, w_169, ⟨by decide +kernel, by decide +kernel, by decide +kernel⟩, by decide, rfl⟩, ⟨TX7, 9, rfl⟩, w_1089, w_35, by decide⟩
theorem th_X7_96_150 : s_TH RX7 96 150 100 "java/lang/IllegalArgumentException" "no such rules" ["java/lang/RuntimeException", "java/lang/Exception"] := ⟨fun w hw => List.mem_filter.mpr ⟨List.contains_iff_mem.mp (List.all_eq_true.mp (by decide +kernel : (((Cond.classLink RX7 96 "java/lang/IllegalArgumentException" :: Cond.initialized "java/lang/IllegalArgumentException" :: vx_atS RX7 100 "java/lang/IllegalArgumentException" ["java/lang/RuntimeException", "java/lang/Exception"]).filter goodWord).all (fun w => lw_tbl.contains w)) = true) w hw), (List.mem_filter.mp hw).2⟩, by decide +kernel, by decide +kernel, by decide +kernel, by decide +kernel, by decide +kernel, by decide, 13, by decide +kernel⟩
theorem fl_X7_152 : s_FL RX7 152 1 4 := ⟨by decide, RX1, TX1, 15, rfl, uw_1, by decide, w_259⟩
theorem th_X7_156_158 : s_TH RX7 156 158 160 "java/lang/IndexOutOfBoundsException" "no such rule" ["java/lang/RuntimeException", "java/lang/Exception"] := ⟨fun w hw => List.mem_filter.mpr ⟨List.contains_iff_mem.mp (List.all_eq_true.mp (by decide +kernel : (((Cond.classLink RX7 156 "java/lang/IndexOutOfBoundsException" :: Cond.initialized "java/lang/IndexOutOfBoundsException" :: vx_atS RX7 160 "java/lang/IndexOutOfBoundsException" ["java/lang/RuntimeException", "java/lang/Exception"]).filter goodWord).all (fun w => lw_tbl.contains w)) = true) w hw), (List.mem_filter.mp hw).2⟩, by decide +kernel, by decide +kernel, by decide +kernel, by decide +kernel, by decide +kernel, by decide, 14, by decide +kernel⟩
theorem th_X7_96_161 : s_TH RX7 96 161 100 "java/lang/IllegalArgumentException" "no such price" ["java/lang/RuntimeException", "java/lang/Exception"] := ⟨fun w hw => List.mem_filter.mpr ⟨List.contains_iff_mem.mp (List.all_eq_true.mp (by decide +kernel : (((Cond.classLink RX7 96 "java/lang/IllegalArgumentException" :: Cond.initialized "java/lang/IllegalArgumentException" :: vx_atS RX7 100 "java/lang/IllegalArgumentException" ["java/lang/RuntimeException", "java/lang/Exception"]).filter goodWord).all (fun w => lw_tbl.contains w)) = true) w hw), (List.mem_filter.mp hw).2⟩, by decide +kernel, by decide +kernel, by decide +kernel, by decide +kernel, by decide +kernel, by decide, 15, by decide +kernel⟩
theorem my_X1_setPrice : s_MV M_X1_setPrice 1 3 := ⟨⟨w_1107, w_172, ⟨by decide +kernel, by decide +kernel, by decide +kernel⟩, by decide, rfl⟩, ⟨TX1, 15, rfl⟩, w_1105, w_1106, by decide⟩
theorem my_X7_needCustomer : s_MV M_X7_needCustomer 7 1 := ⟨⟨w_1118, w_169, ⟨by decide +kernel, by decide +kernel, by decide +kernel⟩, by decide, rfl⟩, ⟨TX7, 9, rfl⟩, w_1117, w_36, by decide⟩
theorem fl_X7_174 : s_FL RX7 174 1 5 := ⟨by decide, RX1, TX1, 15, rfl, uw_1, by decide, w_261⟩
theorem my_X7_needPremise : s_MV M_X7_needPremise 7 1 := ⟨⟨w_1137, w_169, ⟨by decide +kernel, by decide +kernel, by decide +kernel⟩, by decide, rfl⟩, ⟨TX7, 9, rfl⟩, w_1136, w_37, by decide⟩
theorem my_X7_areInOrder : s_MS M_X7_areInOrder 4 := ⟨⟨w_1145, w_169, ⟨by decide +kernel, by decide +kernel, by decide +kernel⟩, by decide, rfl⟩, w_1144⟩
theorem th_X7_96_184 : s_TH RX7 96 184 100 "java/lang/IllegalArgumentException" "a premise too many, or behind none" ["java/lang/RuntimeException", "java/lang/Exception"] := ⟨fun w hw => List.mem_filter.mpr ⟨List.contains_iff_mem.mp (List.all_eq_true.mp (by decide +kernel : (((Cond.classLink RX7 96 "java/lang/IllegalArgumentException" :: Cond.initialized "java/lang/IllegalArgumentException" :: vx_atS RX7 100 "java/lang/IllegalArgumentException" ["java/lang/RuntimeException", "java/lang/Exception"]).filter goodWord).all (fun w => lw_tbl.contains w)) = true) w hw), (List.mem_filter.mp hw).2⟩, by decide +kernel, by decide +kernel, by decide +kernel, by decide +kernel, by decide +kernel, by decide, 18, by decide +kernel⟩
theorem fl_X7_186 : s_FL RX7 186 1 6 := ⟨by decide, RX1, TX1, 15, rfl, uw_1, by decide, w_264⟩
theorem th_X7_106_189 : s_TH RX7 106 189 110 "java/lang/UnsupportedOperationException" "there are 40 lines" ["java/lang/RuntimeException", "java/lang/Exception"] := ⟨fun w hw => List.mem_filter.mpr ⟨List.contains_iff_mem.mp (List.all_eq_true.mp (by decide +kernel : (((Cond.classLink RX7 106 "java/lang/UnsupportedOperationException" :: Cond.initialized "java/lang/UnsupportedOperationException" :: vx_atS RX7 110 "java/lang/UnsupportedOperationException" ["java/lang/RuntimeException", "java/lang/Exception"]).filter goodWord).all (fun w => lw_tbl.contains w)) = true) w hw), (List.mem_filter.mp hw).2⟩, by decide +kernel, by decide +kernel, by decide +kernel, by decide +kernel, by decide +kernel, by decide, 19, by decide +kernel⟩
theorem my_X1_addLine : s_MV M_X1_addLine 1 6 := ⟨⟨w_1151, w_172, ⟨by decide +kernel, by decide +kernel, by decide +kernel⟩, by decide, rfl⟩, ⟨TX1, 15, rfl⟩, w_1149, w_1150, by decide⟩
theorem my_X7_needLine : s_MV M_X7_needLine 7 1 := ⟨⟨w_1141, w_169, ⟨by decide +kernel, by decide +kernel, by decide +kernel⟩, by decide, rfl⟩, ⟨TX7, 9, rfl⟩, w_1140, w_38, by decide⟩
theorem my_X0_audit : s_MV M_X0_audit 0 0 := ⟨⟨w_512, w_175, ⟨by decide +kernel, by decide +kernel, by decide +kernel⟩, by decide, rfl⟩, ⟨TX0, 6, rfl⟩, w_510, w_511, by decide⟩
theorem my_X0_firstWrong : s_MV M_X0_firstWrong 0 0 := ⟨⟨w_611, w_175, ⟨by decide +kernel, by decide +kernel, by decide +kernel⟩, by decide, rfl⟩, ⟨TX0, 6, rfl⟩, w_609, w_610, by decide⟩
theorem fl_X7_219 : s_FL RX7 219 1 7 := ⟨by decide, RX1, TX1, 15, rfl, uw_1, by decide, w_267⟩
theorem fl_X7_223 : s_FL RX7 223 1 8 := ⟨by decide, RX1, TX1, 15, rfl, uw_1, by decide, w_270⟩
theorem my_X7_needProof : s_MV M_X7_needProof 7 3 := ⟨⟨w_1282, w_169, ⟨by decide +kernel, by decide +kernel, by decide +kernel⟩, by decide, rfl⟩, ⟨TX7, 9, rfl⟩, w_1281, w_44, by decide⟩
theorem my_X4_lastRuleIn : s_MV M_X4_lastRuleIn 4 1 := ⟨⟨w_1398, w_176, ⟨by decide +kernel, by decide +kernel, by decide +kernel⟩, by decide, rfl⟩, ⟨TX4, 13, rfl⟩, w_1396, w_1397, by decide⟩
theorem my_X4_cheapestHouse : s_MV M_X4_cheapestHouse 4 0 := ⟨⟨w_1410, w_176, ⟨by decide +kernel, by decide +kernel, by decide +kernel⟩, by decide, rfl⟩, ⟨TX4, 13, rfl⟩, w_1408, w_1409, by decide⟩
theorem my_X4_costResold : s_MV M_X4_costResold 4 1 := ⟨⟨w_1421, w_176, ⟨by decide +kernel, by decide +kernel, by decide +kernel⟩, by decide, rfl⟩, ⟨TX4, 13, rfl⟩, w_1419, w_1420, by decide⟩
theorem my_X3_truthsIn : s_MV M_X3_truthsIn 3 1 := ⟨⟨w_1443, w_174, ⟨by decide +kernel, by decide +kernel, by decide +kernel⟩, by decide, rfl⟩, ⟨TX3, 6, rfl⟩, w_1441, w_1442, by decide⟩
theorem my_X3_leastWorld : s_MV M_X3_leastWorld 3 1 := ⟨⟨w_1455, w_174, ⟨by decide +kernel, by decide +kernel, by decide +kernel⟩, by decide, rfl⟩, ⟨TX3, 6, rfl⟩, w_1453, w_1454, by decide⟩
theorem my_X7_needSet : s_MV M_X7_needSet 7 1 := ⟨⟨w_1470, w_169, ⟨by decide +kernel, by decide +kernel, by decide +kernel⟩, by decide, rfl⟩, ⟨TX7, 9, rfl⟩, w_1469, w_66, by decide⟩
theorem my_X3_fewestFailing : s_MV M_X3_fewestFailing 3 1 := ⟨⟨w_1475, w_174, ⟨by decide +kernel, by decide +kernel, by decide +kernel⟩, by decide, rfl⟩, ⟨TX3, 6, rfl⟩, w_1473, w_1474, by decide⟩
theorem my_X3_idleIn : s_MV M_X3_idleIn 3 1 := ⟨⟨w_1503, w_174, ⟨by decide +kernel, by decide +kernel, by decide +kernel⟩, by decide, rfl⟩, ⟨TX3, 6, rfl⟩, w_1501, w_1502, by decide⟩
theorem my_X3_alikeTo : s_MV M_X3_alikeTo 3 1 := ⟨⟨w_1515, w_174, ⟨by decide +kernel, by decide +kernel, by decide +kernel⟩, by decide, rfl⟩, ⟨TX3, 6, rfl⟩, w_1513, w_1514, by decide⟩
theorem my_X3_leastClash : s_MV M_X3_leastClash 3 1 := ⟨⟨w_1530, w_174, ⟨by decide +kernel, by decide +kernel, by decide +kernel⟩, by decide, rfl⟩, ⟨TX3, 6, rfl⟩, w_1528, w_1529, by decide⟩
theorem my_X3_fewestMore : s_MV M_X3_fewestMore 3 2 := ⟨⟨w_1554, w_174, ⟨by decide +kernel, by decide +kernel, by decide +kernel⟩, by decide, rfl⟩, ⟨TX3, 6, rfl⟩, w_1552, w_1553, by decide⟩
theorem my_X7_needLaw : s_MV M_X7_needLaw 7 1 := ⟨⟨w_1590, w_169, ⟨by decide +kernel, by decide +kernel, by decide +kernel⟩, by decide, rfl⟩, ⟨TX7, 9, rfl⟩, w_1589, w_80, by decide⟩
theorem my_X6_gainOf : s_MV M_X6_gainOf 6 2 := ⟨⟨w_1595, w_177, ⟨by decide +kernel, by decide +kernel, by decide +kernel⟩, by decide, rfl⟩, ⟨TX6, 2, rfl⟩, w_1593, w_1594, by decide⟩
theorem th_X7_96_288 : s_TH RX7 96 288 100 "java/lang/IllegalArgumentException" "no such buyer" ["java/lang/RuntimeException", "java/lang/Exception"] := ⟨fun w hw => List.mem_filter.mpr ⟨List.contains_iff_mem.mp (List.all_eq_true.mp (by decide +kernel : (((Cond.classLink RX7 96 "java/lang/IllegalArgumentException" :: Cond.initialized "java/lang/IllegalArgumentException" :: vx_atS RX7 100 "java/lang/IllegalArgumentException" ["java/lang/RuntimeException", "java/lang/Exception"]).filter goodWord).all (fun w => lw_tbl.contains w)) = true) w hw), (List.mem_filter.mp hw).2⟩, by decide +kernel, by decide +kernel, by decide +kernel, by decide +kernel, by decide +kernel, by decide, 23, by decide +kernel⟩
theorem th_X7_96_290 : s_TH RX7 96 290 100 "java/lang/IllegalArgumentException" "no such coins or day" ["java/lang/RuntimeException", "java/lang/Exception"] := ⟨fun w hw => List.mem_filter.mpr ⟨List.contains_iff_mem.mp (List.all_eq_true.mp (by decide +kernel : (((Cond.classLink RX7 96 "java/lang/IllegalArgumentException" :: Cond.initialized "java/lang/IllegalArgumentException" :: vx_atS RX7 100 "java/lang/IllegalArgumentException" ["java/lang/RuntimeException", "java/lang/Exception"]).filter goodWord).all (fun w => lw_tbl.contains w)) = true) w hw), (List.mem_filter.mp hw).2⟩, by decide +kernel, by decide +kernel, by decide +kernel, by decide +kernel, by decide +kernel, by decide, 24, by decide +kernel⟩
theorem fl_X7_292 : s_FL RX7 292 1 9 := ⟨by decide, RX1, TX1, 15, rfl, uw_1, by decide, w_273⟩
theorem th_X7_106_295 : s_TH RX7 106 295 110 "java/lang/UnsupportedOperationException" "there are 30 receipts" ["java/lang/RuntimeException", "java/lang/Exception"] := ⟨fun w hw => List.mem_filter.mpr ⟨List.contains_iff_mem.mp (List.all_eq_true.mp (by decide +kernel : (((Cond.classLink RX7 106 "java/lang/UnsupportedOperationException" :: Cond.initialized "java/lang/UnsupportedOperationException" :: vx_atS RX7 110 "java/lang/UnsupportedOperationException" ["java/lang/RuntimeException", "java/lang/Exception"]).filter goodWord).all (fun w => lw_tbl.contains w)) = true) w hw), (List.mem_filter.mp hw).2⟩, by decide +kernel, by decide +kernel, by decide +kernel, by decide +kernel, by decide +kernel, by decide, 25, by decide +kernel⟩
theorem my_X1_addReceipt : s_MV M_X1_addReceipt 1 4 := ⟨⟨w_1631, w_172, ⟨by decide +kernel, by decide +kernel, by decide +kernel⟩, by decide, rfl⟩, ⟨TX1, 15, rfl⟩, w_1629, w_1630, by decide⟩
theorem th_X7_156_301 : s_TH RX7 156 301 160 "java/lang/IndexOutOfBoundsException" "no such receipt" ["java/lang/RuntimeException", "java/lang/Exception"] := ⟨fun w hw => List.mem_filter.mpr ⟨List.contains_iff_mem.mp (List.all_eq_true.mp (by decide +kernel : (((Cond.classLink RX7 156 "java/lang/IndexOutOfBoundsException" :: Cond.initialized "java/lang/IndexOutOfBoundsException" :: vx_atS RX7 160 "java/lang/IndexOutOfBoundsException" ["java/lang/RuntimeException", "java/lang/Exception"]).filter goodWord).all (fun w => lw_tbl.contains w)) = true) w hw), (List.mem_filter.mp hw).2⟩, by decide +kernel, by decide +kernel, by decide +kernel, by decide +kernel, by decide +kernel, by decide, 26, by decide +kernel⟩
theorem fl_X7_306 : s_FL RX7 306 1 10 := ⟨by decide, RX1, TX1, 15, rfl, uw_1, by decide, w_275⟩
theorem fp_X7_306 : s_FP RX7 306 1 10 .int false := ⟨by decide, RX1, TX1, 15, tyX1, rfl, uw_1, by decide, w_275, tyX1_ok, nmX1, by decide +kernel, rfl, fun h => by cases h⟩
theorem my_X6_owedBy : s_MV M_X6_owedBy 6 3 := ⟨⟨w_1651, w_177, ⟨by decide +kernel, by decide +kernel, by decide +kernel⟩, by decide, rfl⟩, ⟨TX6, 2, rfl⟩, w_1649, w_1650, by decide⟩
theorem my_X6_dearerOnes : s_MV M_X6_dearerOnes 6 0 := ⟨⟨w_619, w_177, ⟨by decide +kernel, by decide +kernel, by decide +kernel⟩, by decide, rfl⟩, ⟨TX6, 2, rfl⟩, w_617, w_618, by decide⟩
theorem my_X0_boughtInRow : s_MV M_X0_boughtInRow 0 1 := ⟨⟨w_1670, w_175, ⟨by decide +kernel, by decide +kernel, by decide +kernel⟩, by decide, rfl⟩, ⟨TX0, 6, rfl⟩, w_1668, w_1669, by decide⟩
theorem my_X1_take : s_MV M_X1_take 1 1 := ⟨⟨w_652, w_172, ⟨by decide +kernel, by decide +kernel, by decide +kernel⟩, by decide, rfl⟩, ⟨TX1, 15, rfl⟩, w_650, w_651, by decide⟩
theorem fl_X7_325 : s_FL RX7 325 7 8 := ⟨by decide, RX7, TX7, 9, rfl, uw_7, by decide, w_461⟩
theorem fp_X7_325 : s_FP RX7 325 7 8 .boolean false := ⟨by decide, RX7, TX7, 9, tyX7, rfl, uw_7, by decide, w_461, tyX7_ok, nmX7, by decide +kernel, rfl, fun h => by cases h⟩
theorem fl_X7_334 : s_FL RX7 334 0 0 := ⟨by decide, RX0, TX0, 6, rfl, uw_0, by decide, w_375⟩
theorem my_X6_coinsOfAll : s_MV M_X6_coinsOfAll 6 0 := ⟨⟨w_683, w_177, ⟨by decide +kernel, by decide +kernel, by decide +kernel⟩, by decide, rfl⟩, ⟨TX6, 2, rfl⟩, w_681, w_682, by decide⟩
theorem th_X7_156_346 : s_TH RX7 156 346 160 "java/lang/IndexOutOfBoundsException" "no such formula" ["java/lang/RuntimeException", "java/lang/Exception"] := ⟨fun w hw => List.mem_filter.mpr ⟨List.contains_iff_mem.mp (List.all_eq_true.mp (by decide +kernel : (((Cond.classLink RX7 156 "java/lang/IndexOutOfBoundsException" :: Cond.initialized "java/lang/IndexOutOfBoundsException" :: vx_atS RX7 160 "java/lang/IndexOutOfBoundsException" ["java/lang/RuntimeException", "java/lang/Exception"]).filter goodWord).all (fun w => lw_tbl.contains w)) = true) w hw), (List.mem_filter.mp hw).2⟩, by decide +kernel, by decide +kernel, by decide +kernel, by decide +kernel, by decide +kernel, by decide, 10, by decide +kernel⟩
theorem th_X7_156_348 : s_TH RX7 156 348 160 "java/lang/IndexOutOfBoundsException" "no such house" ["java/lang/RuntimeException", "java/lang/Exception"] := ⟨fun w hw => List.mem_filter.mpr ⟨List.contains_iff_mem.mp (List.all_eq_true.mp (by decide +kernel : (((Cond.classLink RX7 156 "java/lang/IndexOutOfBoundsException" :: Cond.initialized "java/lang/IndexOutOfBoundsException" :: vx_atS RX7 160 "java/lang/IndexOutOfBoundsException" ["java/lang/RuntimeException", "java/lang/Exception"]).filter goodWord).all (fun w => lw_tbl.contains w)) = true) w hw), (List.mem_filter.mp hw).2⟩, by decide +kernel, by decide +kernel, by decide +kernel, by decide +kernel, by decide +kernel, by decide, 12, by decide +kernel⟩
theorem th_X7_156_350 : s_TH RX7 156 350 160 "java/lang/IndexOutOfBoundsException" "no such customer" ["java/lang/RuntimeException", "java/lang/Exception"] := ⟨fun w hw => List.mem_filter.mpr ⟨List.contains_iff_mem.mp (List.all_eq_true.mp (by decide +kernel : (((Cond.classLink RX7 156 "java/lang/IndexOutOfBoundsException" :: Cond.initialized "java/lang/IndexOutOfBoundsException" :: vx_atS RX7 160 "java/lang/IndexOutOfBoundsException" ["java/lang/RuntimeException", "java/lang/Exception"]).filter goodWord).all (fun w => lw_tbl.contains w)) = true) w hw), (List.mem_filter.mp hw).2⟩, by decide +kernel, by decide +kernel, by decide +kernel, by decide +kernel, by decide +kernel, by decide, 16, by decide +kernel⟩
theorem th_X7_156_352 : s_TH RX7 156 352 160 "java/lang/IndexOutOfBoundsException" "no such line" ["java/lang/RuntimeException", "java/lang/Exception"] := ⟨fun w hw => List.mem_filter.mpr ⟨List.contains_iff_mem.mp (List.all_eq_true.mp (by decide +kernel : (((Cond.classLink RX7 156 "java/lang/IndexOutOfBoundsException" :: Cond.initialized "java/lang/IndexOutOfBoundsException" :: vx_atS RX7 160 "java/lang/IndexOutOfBoundsException" ["java/lang/RuntimeException", "java/lang/Exception"]).filter goodWord).all (fun w => lw_tbl.contains w)) = true) w hw), (List.mem_filter.mp hw).2⟩, by decide +kernel, by decide +kernel, by decide +kernel, by decide +kernel, by decide +kernel, by decide, 17, by decide +kernel⟩
theorem th_X7_96_357 : s_TH RX7 96 357 100 "java/lang/IllegalArgumentException" "no such world" ["java/lang/RuntimeException", "java/lang/Exception"] := ⟨fun w hw => List.mem_filter.mpr ⟨List.contains_iff_mem.mp (List.all_eq_true.mp (by decide +kernel : (((Cond.classLink RX7 96 "java/lang/IllegalArgumentException" :: Cond.initialized "java/lang/IllegalArgumentException" :: vx_atS RX7 100 "java/lang/IllegalArgumentException" ["java/lang/RuntimeException", "java/lang/Exception"]).filter goodWord).all (fun w => lw_tbl.contains w)) = true) w hw), (List.mem_filter.mp hw).2⟩, by decide +kernel, by decide +kernel, by decide +kernel, by decide +kernel, by decide +kernel, by decide, 11, by decide +kernel⟩
theorem th_X7_96_359 : s_TH RX7 96 359 100 "java/lang/IllegalArgumentException" "no such law" ["java/lang/RuntimeException", "java/lang/Exception"] := ⟨fun w hw => List.mem_filter.mpr ⟨List.contains_iff_mem.mp (List.all_eq_true.mp (by decide +kernel : (((Cond.classLink RX7 96 "java/lang/IllegalArgumentException" :: Cond.initialized "java/lang/IllegalArgumentException" :: vx_atS RX7 100 "java/lang/IllegalArgumentException" ["java/lang/RuntimeException", "java/lang/Exception"]).filter goodWord).all (fun w => lw_tbl.contains w)) = true) w hw), (List.mem_filter.mp hw).2⟩, by decide +kernel, by decide +kernel, by decide +kernel, by decide +kernel, by decide +kernel, by decide, 22, by decide +kernel⟩
theorem th_X7_96_361 : s_TH RX7 96 361 100 "java/lang/IllegalArgumentException" "more than 14 in the set" ["java/lang/RuntimeException", "java/lang/Exception"] := ⟨fun w hw => List.mem_filter.mpr ⟨List.contains_iff_mem.mp (List.all_eq_true.mp (by decide +kernel : (((Cond.classLink RX7 96 "java/lang/IllegalArgumentException" :: Cond.initialized "java/lang/IllegalArgumentException" :: vx_atS RX7 100 "java/lang/IllegalArgumentException" ["java/lang/RuntimeException", "java/lang/Exception"]).filter goodWord).all (fun w => lw_tbl.contains w)) = true) w hw), (List.mem_filter.mp hw).2⟩, by decide +kernel, by decide +kernel, by decide +kernel, by decide +kernel, by decide +kernel, by decide, 21, by decide +kernel⟩
theorem my_X4_prepare : s_MV M_X4_prepare 4 2 := ⟨⟨w_1286, w_176, ⟨by decide +kernel, by decide +kernel, by decide +kernel⟩, by decide, rfl⟩, ⟨TX4, 13, rfl⟩, w_1284, w_1285, by decide⟩
theorem fl_X8_3 : s_FL RX8 3 8 0 := ⟨by decide, RX8, TX8, 39, rfl, uw_8, by decide, w_1682⟩
theorem fp_X8_3 : s_FP RX8 3 8 0 .int false := ⟨by decide, RX8, TX8, 39, tyX8, rfl, uw_8, by decide, w_1682, tyX8_ok, nmX8, by decide +kernel, rfl, fun h => by cases h⟩
theorem fl_X8_13 : s_FL RX8 13 8 1 := ⟨by decide, RX8, TX8, 39, rfl, uw_8, by decide, w_1683⟩
theorem fp_X8_13 : s_FP RX8 13 8 1 (.array .int) true := ⟨by decide, RX8, TX8, 39, tyX8, rfl, uw_8, by decide, w_1683, tyX8_ok, nmX8, by decide +kernel, rfl, fun _ => rfl⟩
theorem fl_X8_17 : s_FL RX8 17 8 2 := ⟨by decide, RX8, TX8, 39, rfl, uw_8, by decide, w_1684⟩
theorem fp_X8_17 : s_FP RX8 17 8 2 (.array .int) true := ⟨by decide, RX8, TX8, 39, tyX8, rfl, uw_8, by decide, w_1684, tyX8_ok, nmX8, by decide +kernel, rfl, fun _ => rfl⟩
theorem fl_X8_20 : s_FL RX8 20 8 4 := ⟨by decide, RX8, TX8, 39, rfl, uw_8, by decide, w_1686⟩
theorem fp_X8_20 : s_FP RX8 20 8 4 (.array .int) true := ⟨by decide, RX8, TX8, 39, tyX8, rfl, uw_8, by decide, w_1686, tyX8_ok, nmX8, by decide +kernel, rfl, fun _ => rfl⟩
theorem fl_X8_23 : s_FL RX8 23 8 5 := ⟨by decide, RX8, TX8, 39, rfl, uw_8, by decide, w_1687⟩
theorem fp_X8_23 : s_FP RX8 23 8 5 (.array .int) true := ⟨by decide, RX8, TX8, 39, tyX8, rfl, uw_8, by decide, w_1687, tyX8_ok, nmX8, by decide +kernel, rfl, fun _ => rfl⟩
theorem fl_X8_26 : s_FL RX8 26 8 6 := ⟨by decide, RX8, TX8, 39, rfl, uw_8, by decide, w_1688⟩
theorem fp_X8_26 : s_FP RX8 26 8 6 (.array .byte) true := ⟨by decide, RX8, TX8, 39, tyX8, rfl, uw_8, by decide, w_1688, tyX8_ok, nmX8, by decide +kernel, rfl, fun _ => rfl⟩
theorem fl_X8_30 : s_FL RX8 30 8 13 := ⟨by decide, RX8, TX8, 39, rfl, uw_8, by decide, w_1695⟩
theorem fp_X8_30 : s_FP RX8 30 8 13 .int false := ⟨by decide, RX8, TX8, 39, tyX8, rfl, uw_8, by decide, w_1695, tyX8_ok, nmX8, by decide +kernel, rfl, fun h => by cases h⟩
theorem fl_X8_33 : s_FL RX8 33 8 15 := ⟨by decide, RX8, TX8, 39, rfl, uw_8, by decide, w_1697⟩
theorem fp_X8_33 : s_FP RX8 33 8 15 (.array .int) true := ⟨by decide, RX8, TX8, 39, tyX8, rfl, uw_8, by decide, w_1697, tyX8_ok, nmX8, by decide +kernel, rfl, fun _ => rfl⟩
theorem fl_X8_36 : s_FL RX8 36 8 16 := ⟨by decide, RX8, TX8, 39, rfl, uw_8, by decide, w_1698⟩
theorem fp_X8_36 : s_FP RX8 36 8 16 (.array .int) true := ⟨by decide, RX8, TX8, 39, tyX8, rfl, uw_8, by decide, w_1698, tyX8_ok, nmX8, by decide +kernel, rfl, fun _ => rfl⟩
theorem at_boolean : s_at 3 .boolean .boolean := ⟨rfl, w_1800, by decide, Or.inr (Or.inr (Or.inr ⟨rfl, rfl⟩))⟩
theorem fl_X8_39 : s_FL RX8 39 8 17 := ⟨by decide, RX8, TX8, 39, rfl, uw_8, by decide, w_1699⟩
theorem fp_X8_39 : s_FP RX8 39 8 17 (.array .boolean) true := ⟨by decide, RX8, TX8, 39, tyX8, rfl, uw_8, by decide, w_1699, tyX8_ok, nmX8, by decide +kernel, rfl, fun _ => rfl⟩
theorem fl_X8_43 : s_FL RX8 43 8 18 := ⟨by decide, RX8, TX8, 39, rfl, uw_8, by decide, w_1700⟩
theorem fp_X8_43 : s_FP RX8 43 8 18 (.array .long) true := ⟨by decide, RX8, TX8, 39, tyX8, rfl, uw_8, by decide, w_1700, tyX8_ok, nmX8, by decide +kernel, rfl, fun _ => rfl⟩
theorem fl_X8_47 : s_FL RX8 47 8 19 := ⟨by decide, RX8, TX8, 39, rfl, uw_8, by decide, w_1701⟩
theorem fp_X8_47 : s_FP RX8 47 8 19 (.array .long) true := ⟨by decide, RX8, TX8, 39, tyX8, rfl, uw_8, by decide, w_1701, tyX8_ok, nmX8, by decide +kernel, rfl, fun _ => rfl⟩
theorem fl_X8_50 : s_FL RX8 50 8 20 := ⟨by decide, RX8, TX8, 39, rfl, uw_8, by decide, w_1702⟩
theorem fp_X8_50 : s_FP RX8 50 8 20 (.array .int) true := ⟨by decide, RX8, TX8, 39, tyX8, rfl, uw_8, by decide, w_1702, tyX8_ok, nmX8, by decide +kernel, rfl, fun _ => rfl⟩
theorem fl_X8_53 : s_FL RX8 53 8 21 := ⟨by decide, RX8, TX8, 39, rfl, uw_8, by decide, w_1703⟩
theorem fp_X8_53 : s_FP RX8 53 8 21 (.array .int) true := ⟨by decide, RX8, TX8, 39, tyX8, rfl, uw_8, by decide, w_1703, tyX8_ok, nmX8, by decide +kernel, rfl, fun _ => rfl⟩
theorem fl_X8_56 : s_FL RX8 56 8 22 := ⟨by decide, RX8, TX8, 39, rfl, uw_8, by decide, w_1704⟩
theorem fp_X8_56 : s_FP RX8 56 8 22 (.array .int) true := ⟨by decide, RX8, TX8, 39, tyX8, rfl, uw_8, by decide, w_1704, tyX8_ok, nmX8, by decide +kernel, rfl, fun _ => rfl⟩
theorem fl_X8_59 : s_FL RX8 59 8 23 := ⟨by decide, RX8, TX8, 39, rfl, uw_8, by decide, w_1705⟩
theorem fp_X8_59 : s_FP RX8 59 8 23 (.array .int) true := ⟨by decide, RX8, TX8, 39, tyX8, rfl, uw_8, by decide, w_1705, tyX8_ok, nmX8, by decide +kernel, rfl, fun _ => rfl⟩
theorem fl_X8_62 : s_FL RX8 62 8 24 := ⟨by decide, RX8, TX8, 39, rfl, uw_8, by decide, w_1706⟩
theorem fp_X8_62 : s_FP RX8 62 8 24 (.array .int) true := ⟨by decide, RX8, TX8, 39, tyX8, rfl, uw_8, by decide, w_1706, tyX8_ok, nmX8, by decide +kernel, rfl, fun _ => rfl⟩
theorem fl_X8_65 : s_FL RX8 65 8 25 := ⟨by decide, RX8, TX8, 39, rfl, uw_8, by decide, w_1707⟩
theorem fp_X8_65 : s_FP RX8 65 8 25 (.array .int) true := ⟨by decide, RX8, TX8, 39, tyX8, rfl, uw_8, by decide, w_1707, tyX8_ok, nmX8, by decide +kernel, rfl, fun _ => rfl⟩
theorem fl_X8_68 : s_FL RX8 68 8 26 := ⟨by decide, RX8, TX8, 39, rfl, uw_8, by decide, w_1708⟩
theorem fp_X8_68 : s_FP RX8 68 8 26 (.array .int) true := ⟨by decide, RX8, TX8, 39, tyX8, rfl, uw_8, by decide, w_1708, tyX8_ok, nmX8, by decide +kernel, rfl, fun _ => rfl⟩
theorem fl_X8_71 : s_FL RX8 71 8 27 := ⟨by decide, RX8, TX8, 39, rfl, uw_8, by decide, w_1709⟩
theorem fp_X8_71 : s_FP RX8 71 8 27 (.array .boolean) true := ⟨by decide, RX8, TX8, 39, tyX8, rfl, uw_8, by decide, w_1709, tyX8_ok, nmX8, by decide +kernel, rfl, fun _ => rfl⟩
theorem fl_X8_74 : s_FL RX8 74 8 28 := ⟨by decide, RX8, TX8, 39, rfl, uw_8, by decide, w_1710⟩
theorem fp_X8_74 : s_FP RX8 74 8 28 (.array .boolean) true := ⟨by decide, RX8, TX8, 39, tyX8, rfl, uw_8, by decide, w_1710, tyX8_ok, nmX8, by decide +kernel, rfl, fun _ => rfl⟩
theorem fl_X8_77 : s_FL RX8 77 8 29 := ⟨by decide, RX8, TX8, 39, rfl, uw_8, by decide, w_1711⟩
theorem fp_X8_77 : s_FP RX8 77 8 29 (.array .boolean) true := ⟨by decide, RX8, TX8, 39, tyX8, rfl, uw_8, by decide, w_1711, tyX8_ok, nmX8, by decide +kernel, rfl, fun _ => rfl⟩
theorem fl_X8_80 : s_FL RX8 80 8 30 := ⟨by decide, RX8, TX8, 39, rfl, uw_8, by decide, w_1712⟩
theorem fp_X8_80 : s_FP RX8 80 8 30 (.array .int) true := ⟨by decide, RX8, TX8, 39, tyX8, rfl, uw_8, by decide, w_1712, tyX8_ok, nmX8, by decide +kernel, rfl, fun _ => rfl⟩
theorem fl_X8_83 : s_FL RX8 83 8 31 := ⟨by decide, RX8, TX8, 39, rfl, uw_8, by decide, w_1713⟩
theorem fp_X8_83 : s_FP RX8 83 8 31 (.array .int) true := ⟨by decide, RX8, TX8, 39, tyX8, rfl, uw_8, by decide, w_1713, tyX8_ok, nmX8, by decide +kernel, rfl, fun _ => rfl⟩
theorem fl_X8_86 : s_FL RX8 86 8 32 := ⟨by decide, RX8, TX8, 39, rfl, uw_8, by decide, w_1714⟩
theorem fp_X8_86 : s_FP RX8 86 8 32 (.array .int) true := ⟨by decide, RX8, TX8, 39, tyX8, rfl, uw_8, by decide, w_1714, tyX8_ok, nmX8, by decide +kernel, rfl, fun _ => rfl⟩
theorem fl_X8_89 : s_FL RX8 89 8 36 := ⟨by decide, RX8, TX8, 39, rfl, uw_8, by decide, w_1718⟩
theorem fp_X8_89 : s_FP RX8 89 8 36 (.array .int) true := ⟨by decide, RX8, TX8, 39, tyX8, rfl, uw_8, by decide, w_1718, tyX8_ok, nmX8, by decide +kernel, rfl, fun _ => rfl⟩
theorem fl_X8_92 : s_FL RX8 92 8 37 := ⟨by decide, RX8, TX8, 39, rfl, uw_8, by decide, w_1719⟩
theorem fp_X8_92 : s_FP RX8 92 8 37 (.array .int) true := ⟨by decide, RX8, TX8, 39, tyX8, rfl, uw_8, by decide, w_1719, tyX8_ok, nmX8, by decide +kernel, rfl, fun _ => rfl⟩
theorem fl_X8_96 : s_FL RX8 96 8 3 := ⟨by decide, RX8, TX8, 39, rfl, uw_8, by decide, w_1685⟩
theorem fp_X8_96 : s_FP RX8 96 8 3 .boolean false := ⟨by decide, RX8, TX8, 39, tyX8, rfl, uw_8, by decide, w_1685, tyX8_ok, nmX8, by decide +kernel, rfl, fun h => by cases h⟩
theorem my_X8_fills : s_MV M_X8_fills 8 0 := ⟨⟨w_1812, w_178, ⟨by decide +kernel, by decide +kernel, by decide +kernel⟩, by decide, rfl⟩, ⟨TX8, 39, rfl⟩, w_1811, w_85, by decide⟩
theorem my_X8_formulas : s_MV M_X8_formulas 8 0 := ⟨⟨w_1816, w_178, ⟨by decide +kernel, by decide +kernel, by decide +kernel⟩, by decide, rfl⟩, ⟨TX8, 39, rfl⟩, w_1815, w_86, by decide⟩
theorem my_X8_in : s_MS M_X8_in 3 := ⟨⟨w_1911, w_178, ⟨by decide +kernel, by decide +kernel, by decide +kernel⟩, by decide, rfl⟩, w_1910⟩
theorem my_X8_lines : s_MV M_X8_lines 8 0 := ⟨⟨w_2006, w_178, ⟨by decide +kernel, by decide +kernel, by decide +kernel⟩, by decide, rfl⟩, ⟨TX8, 39, rfl⟩, w_2005, w_113, by decide⟩
theorem my_X8_at : s_MV M_X8_at 8 2 := ⟨⟨w_1904, w_178, ⟨by decide +kernel, by decide +kernel, by decide +kernel⟩, by decide, rfl⟩, ⟨TX8, 39, rfl⟩, w_1903, w_103, by decide⟩
theorem my_X8_isJoining : s_MS M_X8_isJoining 1 := ⟨⟨w_1953, w_178, ⟨by decide +kernel, by decide +kernel, by decide +kernel⟩, by decide, rfl⟩, w_1952⟩
theorem my_X8_isLone : s_MS M_X8_isLone 1 := ⟨⟨w_1956, w_178, ⟨by decide +kernel, by decide +kernel, by decide +kernel⟩, by decide, rfl⟩, w_1955⟩
theorem my_X8_set : s_MS M_X8_set 2 := ⟨⟨w_1934, w_178, ⟨by decide +kernel, by decide +kernel, by decide +kernel⟩, by decide, rfl⟩, w_1933⟩
theorem my_X8_isPart : s_MV M_X8_isPart 8 7 := ⟨⟨w_1931, w_178, ⟨by decide +kernel, by decide +kernel, by decide +kernel⟩, by decide, rfl⟩, ⟨TX8, 39, rfl⟩, w_1930, w_106, by decide⟩
theorem my_X8_endOf : s_MV M_X8_endOf 8 2 := ⟨⟨w_2066, w_178, ⟨by decide +kernel, by decide +kernel, by decide +kernel⟩, by decide, rfl⟩, ⟨TX8, 39, rfl⟩, w_2065, w_126, by decide⟩
theorem my_X8_cutBy : s_MV M_X8_cutBy 8 2 := ⟨⟨w_2062, w_178, ⟨by decide +kernel, by decide +kernel, by decide +kernel⟩, by decide, rfl⟩, ⟨TX8, 39, rfl⟩, w_2061, w_125, by decide⟩
theorem my_X8_d : s_MV M_X8_d 8 0 := ⟨⟨w_1892, w_178, ⟨by decide +kernel, by decide +kernel, by decide +kernel⟩, by decide, rfl⟩, ⟨TX8, 39, rfl⟩, w_1891, w_100, by decide⟩
theorem my_X8_isOf : s_MV M_X8_isOf 8 4 := ⟨⟨w_2086, w_178, ⟨by decide +kernel, by decide +kernel, by decide +kernel⟩, by decide, rfl⟩, ⟨TX8, 39, rfl⟩, w_2085, w_131, by decide⟩
theorem fl_X8_145 : s_FL RX8 145 8 7 := ⟨by decide, RX8, TX8, 39, rfl, uw_8, by decide, w_1689⟩
theorem fp_X8_145 : s_FP RX8 145 8 7 .int false := ⟨by decide, RX8, TX8, 39, tyX8, rfl, uw_8, by decide, w_1689, tyX8_ok, nmX8, by decide +kernel, rfl, fun h => by cases h⟩
theorem fl_X8_148 : s_FL RX8 148 8 8 := ⟨by decide, RX8, TX8, 39, rfl, uw_8, by decide, w_1690⟩
theorem fl_X8_151 : s_FL RX8 151 8 9 := ⟨by decide, RX8, TX8, 39, rfl, uw_8, by decide, w_1691⟩
theorem my_X8_isAt : s_MV M_X8_isAt 8 2 := ⟨⟨w_1860, w_178, ⟨by decide +kernel, by decide +kernel, by decide +kernel⟩, by decide, rfl⟩, ⟨TX8, 39, rfl⟩, w_1859, w_93, by decide⟩
theorem fp_X8_148 : s_FP RX8 148 8 8 .int false := ⟨by decide, RX8, TX8, 39, tyX8, rfl, uw_8, by decide, w_1690, tyX8_ok, nmX8, by decide +kernel, rfl, fun h => by cases h⟩
theorem fl_X8_158 : s_FL RX8 158 8 10 := ⟨by decide, RX8, TX8, 39, rfl, uw_8, by decide, w_1692⟩
theorem fp_X8_158 : s_FP RX8 158 8 10 .int false := ⟨by decide, RX8, TX8, 39, tyX8, rfl, uw_8, by decide, w_1692, tyX8_ok, nmX8, by decide +kernel, rfl, fun h => by cases h⟩
theorem my_X8_blanks : s_MV M_X8_blanks 8 0 := ⟨⟨w_1856, w_178, ⟨by decide +kernel, by decide +kernel, by decide +kernel⟩, by decide, rfl⟩, ⟨TX8, 39, rfl⟩, w_1855, w_92, by decide⟩
theorem fl_X8_172 : s_FL RX8 172 8 12 := ⟨by decide, RX8, TX8, 39, rfl, uw_8, by decide, w_1694⟩
theorem fp_X8_172 : s_FP RX8 172 8 12 .int false := ⟨by decide, RX8, TX8, 39, tyX8, rfl, uw_8, by decide, w_1694, tyX8_ok, nmX8, by decide +kernel, rfl, fun h => by cases h⟩
theorem my_X8_counts : s_MV M_X8_counts 8 0 := ⟨⟨w_1872, w_178, ⟨by decide +kernel, by decide +kernel, by decide +kernel⟩, by decide, rfl⟩, ⟨TX8, 39, rfl⟩, w_1871, w_96, by decide⟩
theorem fl_X8_179 : s_FL RX8 179 8 11 := ⟨by decide, RX8, TX8, 39, rfl, uw_8, by decide, w_1693⟩
theorem fp_X8_179 : s_FP RX8 179 8 11 .int false := ⟨by decide, RX8, TX8, 39, tyX8, rfl, uw_8, by decide, w_1693, tyX8_ok, nmX8, by decide +kernel, rfl, fun h => by cases h⟩
theorem my_X8_puts : s_MV M_X8_puts 8 1 := ⟨⟨w_1868, w_178, ⟨by decide +kernel, by decide +kernel, by decide +kernel⟩, by decide, rfl⟩, ⟨TX8, 39, rfl⟩, w_1867, w_95, by decide⟩
theorem fl_X8_185 : s_FL RX8 185 8 14 := ⟨by decide, RX8, TX8, 39, rfl, uw_8, by decide, w_1696⟩
theorem my_X8_has : s_MV M_X8_has 8 1 := ⟨⟨w_1852, w_178, ⟨by decide +kernel, by decide +kernel, by decide +kernel⟩, by decide, rfl⟩, ⟨TX8, 39, rfl⟩, w_1851, w_91, by decide⟩
theorem my_X8_deeper : s_MV M_X8_deeper 8 0 := ⟨⟨w_1864, w_178, ⟨by decide +kernel, by decide +kernel, by decide +kernel⟩, by decide, rfl⟩, ⟨TX8, 39, rfl⟩, w_1863, w_94, by decide⟩
theorem my_X8_readUnit : s_MV M_X8_readUnit 8 0 := ⟨⟨w_1848, w_178, ⟨by decide +kernel, by decide +kernel, by decide +kernel⟩, by decide, rfl⟩, ⟨TX8, 39, rfl⟩, w_1847, w_90, by decide⟩
theorem my_X8_readFormula : s_MV M_X8_readFormula 8 0 := ⟨⟨w_1836, w_178, ⟨by decide +kernel, by decide +kernel, by decide +kernel⟩, by decide, rfl⟩, ⟨TX8, 39, rfl⟩, w_1835, w_87, by decide⟩
theorem my_X8_letters : s_MV M_X8_letters 8 0 := ⟨⟨w_1876, w_178, ⟨by decide +kernel, by decide +kernel, by decide +kernel⟩, by decide, rfl⟩, ⟨TX8, 39, rfl⟩, w_1875, w_97, by decide⟩
theorem my_X8_isWord : s_MV M_X8_isWord 8 1 := ⟨⟨w_1881, w_178, ⟨by decide +kernel, by decide +kernel, by decide +kernel⟩, by decide, rfl⟩, ⟨TX8, 39, rfl⟩, w_1880, w_98, by decide⟩
theorem my_X8_readAtom : s_MV M_X8_readAtom 8 0 := ⟨⟨w_1888, w_178, ⟨by decide +kernel, by decide +kernel, by decide +kernel⟩, by decide, rfl⟩, ⟨TX8, 39, rfl⟩, w_1887, w_99, by decide⟩
theorem fp_X8_185 : s_FP RX8 185 8 14 .boolean false := ⟨by decide, RX8, TX8, 39, tyX8, rfl, uw_8, by decide, w_1696, tyX8_ok, nmX8, by decide +kernel, rfl, fun h => by cases h⟩
theorem my_X8_joins : s_MV M_X8_joins 8 2 := ⟨⟨w_1896, w_178, ⟨by decide +kernel, by decide +kernel, by decide +kernel⟩, by decide, rfl⟩, ⟨TX8, 39, rfl⟩, w_1895, w_101, by decide⟩
theorem my_X8_readAnd : s_MV M_X8_readAnd 8 0 := ⟨⟨w_1844, w_178, ⟨by decide +kernel, by decide +kernel, by decide +kernel⟩, by decide, rfl⟩, ⟨TX8, 39, rfl⟩, w_1843, w_89, by decide⟩
theorem my_X8_readOr : s_MV M_X8_readOr 8 0 := ⟨⟨w_1840, w_178, ⟨by decide +kernel, by decide +kernel, by decide +kernel⟩, by decide, rfl⟩, ⟨TX8, 39, rfl⟩, w_1839, w_88, by decide⟩
theorem fp_X8_151 : s_FP RX8 151 8 9 .int false := ⟨by decide, RX8, TX8, 39, tyX8, rfl, uw_8, by decide, w_1691, tyX8_ok, nmX8, by decide +kernel, rfl, fun h => by cases h⟩
theorem my_X8_throwsIf : s_MV M_X8_throwsIf 8 2 := ⟨⟨w_1900, w_178, ⟨by decide +kernel, by decide +kernel, by decide +kernel⟩, by decide, rfl⟩, ⟨TX8, 39, rfl⟩, w_1899, w_102, by decide⟩
theorem my_X8_ofSign : s_MV M_X8_ofSign 8 2 := ⟨⟨w_1960, w_178, ⟨by decide +kernel, by decide +kernel, by decide +kernel⟩, by decide, rfl⟩, ⟨TX8, 39, rfl⟩, w_1959, w_110, by decide⟩
theorem my_X8_noFormula : s_MV M_X8_noFormula 8 1 := ⟨⟨w_1919, w_178, ⟨by decide +kernel, by decide +kernel, by decide +kernel⟩, by decide, rfl⟩, ⟨TX8, 39, rfl⟩, w_1918, w_104, by decide⟩
theorem my_X8_isSame : s_MV M_X8_isSame 8 2 := ⟨⟨w_1927, w_178, ⟨by decide +kernel, by decide +kernel, by decide +kernel⟩, by decide, rfl⟩, ⟨TX8, 39, rfl⟩, w_1926, w_105, by decide⟩
theorem my_X8_worldsMany : s_MV M_X8_worldsMany 8 0 := ⟨⟨w_1946, w_178, ⟨by decide +kernel, by decide +kernel, by decide +kernel⟩, by decide, rfl⟩, ⟨TX8, 39, rfl⟩, w_1945, w_108, by decide⟩
theorem my_X8_noWorld : s_MV M_X8_noWorld 8 1 := ⟨⟨w_1942, w_178, ⟨by decide +kernel, by decide +kernel, by decide +kernel⟩, by decide, rfl⟩, ⟨TX8, 39, rfl⟩, w_1941, w_107, by decide⟩
theorem my_X8_isTrue : s_MV M_X8_isTrue 8 2 := ⟨⟨w_1950, w_178, ⟨by decide +kernel, by decide +kernel, by decide +kernel⟩, by decide, rfl⟩, ⟨TX8, 39, rfl⟩, w_1949, w_109, by decide⟩
theorem my_X8_noHouse : s_MS M_X8_noHouse 1 := ⟨⟨w_1975, w_178, ⟨by decide +kernel, by decide +kernel, by decide +kernel⟩, by decide, rfl⟩, w_1974⟩
theorem my_X8_noCustomer : s_MS M_X8_noCustomer 1 := ⟨⟨w_1986, w_178, ⟨by decide +kernel, by decide +kernel, by decide +kernel⟩, by decide, rfl⟩, w_1985⟩
theorem my_X8_beliefsOf : s_MV M_X8_beliefsOf 8 1 := ⟨⟨w_1990, w_178, ⟨by decide +kernel, by decide +kernel, by decide +kernel⟩, by decide, rfl⟩, ⟨TX8, 39, rfl⟩, w_1989, w_111, by decide⟩
theorem my_X8_ofLine : s_MV M_X8_ofLine 8 2 := ⟨⟨w_2018, w_178, ⟨by decide +kernel, by decide +kernel, by decide +kernel⟩, by decide, rfl⟩, ⟨TX8, 39, rfl⟩, w_2017, w_115, by decide⟩
theorem my_X8_costOf : s_MV M_X8_costOf 8 3 := ⟨⟨w_2022, w_178, ⟨by decide +kernel, by decide +kernel, by decide +kernel⟩, by decide, rfl⟩, ⟨TX8, 39, rfl⟩, w_2021, w_116, by decide⟩
theorem my_X8_noLine : s_MV M_X8_noLine 8 1 := ⟨⟨w_2002, w_178, ⟨by decide +kernel, by decide +kernel, by decide +kernel⟩, by decide, rfl⟩, ⟨TX8, 39, rfl⟩, w_2001, w_112, by decide⟩
theorem my_X8_priceOf : s_MV M_X8_priceOf 8 1 := ⟨⟨w_2014, w_178, ⟨by decide +kernel, by decide +kernel, by decide +kernel⟩, by decide, rfl⟩, ⟨TX8, 39, rfl⟩, w_2013, w_114, by decide⟩
theorem my_X8_premise : s_MV M_X8_premise 8 2 := ⟨⟨w_2046, w_178, ⟨by decide +kernel, by decide +kernel, by decide +kernel⟩, by decide, rfl⟩, ⟨TX8, 39, rfl⟩, w_2045, w_121, by decide⟩
theorem my_X8_hasRule : s_MV M_X8_hasRule 8 2 := ⟨⟨w_2038, w_178, ⟨by decide +kernel, by decide +kernel, by decide +kernel⟩, by decide, rfl⟩, ⟨TX8, 39, rfl⟩, w_2037, w_119, by decide⟩
theorem my_X8_premises : s_MV M_X8_premises 8 1 := ⟨⟨w_2042, w_178, ⟨by decide +kernel, by decide +kernel, by decide +kernel⟩, by decide, rfl⟩, ⟨TX8, 39, rfl⟩, w_2041, w_120, by decide⟩
theorem my_X8_asked : s_MV M_X8_asked 8 1 := ⟨⟨w_2050, w_178, ⟨by decide +kernel, by decide +kernel, by decide +kernel⟩, by decide, rfl⟩, ⟨TX8, 39, rfl⟩, w_2049, w_122, by decide⟩
theorem my_X8_isAmong : s_MV M_X8_isAmong 8 2 := ⟨⟨w_2054, w_178, ⟨by decide +kernel, by decide +kernel, by decide +kernel⟩, by decide, rfl⟩, ⟨TX8, 39, rfl⟩, w_2053, w_123, by decide⟩
theorem my_X8_isLeft : s_MV M_X8_isLeft 8 3 := ⟨⟨w_2058, w_178, ⟨by decide +kernel, by decide +kernel, by decide +kernel⟩, by decide, rfl⟩, ⟨TX8, 39, rfl⟩, w_2057, w_124, by decide⟩
theorem my_X8_isRight : s_MV M_X8_isRight 8 3 := ⟨⟨w_2070, w_178, ⟨by decide +kernel, by decide +kernel, by decide +kernel⟩, by decide, rfl⟩, ⟨TX8, 39, rfl⟩, w_2069, w_127, by decide⟩
theorem my_X8_isTwice : s_MV M_X8_isTwice 8 2 := ⟨⟨w_2074, w_178, ⟨by decide +kernel, by decide +kernel, by decide +kernel⟩, by decide, rfl⟩, ⟨TX8, 39, rfl⟩, w_2073, w_128, by decide⟩
theorem my_X8_isCases : s_MV M_X8_isCases 8 4 := ⟨⟨w_2078, w_178, ⟨by decide +kernel, by decide +kernel, by decide +kernel⟩, by decide, rfl⟩, ⟨TX8, 39, rfl⟩, w_2077, w_129, by decide⟩
theorem my_X8_isOfSome : s_MV M_X8_isOfSome 8 3 := ⟨⟨w_2082, w_178, ⟨by decide +kernel, by decide +kernel, by decide +kernel⟩, by decide, rfl⟩, ⟨TX8, 39, rfl⟩, w_2081, w_130, by decide⟩
theorem my_X8_isMinus : s_MV M_X8_isMinus 8 2 := ⟨⟨w_2090, w_178, ⟨by decide +kernel, by decide +kernel, by decide +kernel⟩, by decide, rfl⟩, ⟨TX8, 39, rfl⟩, w_2089, w_132, by decide⟩
theorem my_X8_isHonest : s_MV M_X8_isHonest 8 1 := ⟨⟨w_2034, w_178, ⟨by decide +kernel, by decide +kernel, by decide +kernel⟩, by decide, rfl⟩, ⟨TX8, 39, rfl⟩, w_2033, w_118, by decide⟩
theorem my_X8_isStale : s_MV M_X8_isStale 8 1 := ⟨⟨w_2099, w_178, ⟨by decide +kernel, by decide +kernel, by decide +kernel⟩, by decide, rfl⟩, ⟨TX8, 39, rfl⟩, w_2098, w_134, by decide⟩
theorem my_X8_isOpen : s_MV M_X8_isOpen 8 1 := ⟨⟨w_2095, w_178, ⟨by decide +kernel, by decide +kernel, by decide +kernel⟩, by decide, rfl⟩, ⟨TX8, 39, rfl⟩, w_2094, w_133, by decide⟩
theorem my_X8_goesThrough : s_MV M_X8_goesThrough 8 0 := ⟨⟨w_2030, w_178, ⟨by decide +kernel, by decide +kernel, by decide +kernel⟩, by decide, rfl⟩, ⟨TX8, 39, rfl⟩, w_2029, w_117, by decide⟩
theorem my_X8_isSaved : s_MV M_X8_isSaved 8 1 := ⟨⟨w_2103, w_178, ⟨by decide +kernel, by decide +kernel, by decide +kernel⟩, by decide, rfl⟩, ⟨TX8, 39, rfl⟩, w_2102, w_135, by decide⟩
theorem my_X8_spentBy : s_MV M_X8_spentBy 8 1 := ⟨⟨w_2123, w_178, ⟨by decide +kernel, by decide +kernel, by decide +kernel⟩, by decide, rfl⟩, ⟨TX8, 39, rfl⟩, w_2122, w_136, by decide⟩
theorem my_X8_holdAll : s_MV M_X8_holdAll 8 2 := ⟨⟨w_2143, w_178, ⟨by decide +kernel, by decide +kernel, by decide +kernel⟩, by decide, rfl⟩, ⟨TX8, 39, rfl⟩, w_2142, w_138, by decide⟩
theorem my_X8_leastWorld : s_MV M_X8_leastWorld 8 2 := ⟨⟨w_2139, w_178, ⟨by decide +kernel, by decide +kernel, by decide +kernel⟩, by decide, rfl⟩, ⟨TX8, 39, rfl⟩, w_2138, w_137, by decide⟩
theorem my_X8_fails : s_MV M_X8_fails 8 1 := ⟨⟨w_2167, w_178, ⟨by decide +kernel, by decide +kernel, by decide +kernel⟩, by decide, rfl⟩, ⟨TX8, 39, rfl⟩, w_2166, w_139, by decide⟩
theorem my_X8_isFewer : s_MS M_X8_isFewer 2 := ⟨⟨w_2171, w_178, ⟨by decide +kernel, by decide +kernel, by decide +kernel⟩, by decide, rfl⟩, w_2170⟩
theorem my_X8_isAgainst : s_MV M_X8_isAgainst 8 1 := ⟨⟨w_2179, w_178, ⟨by decide +kernel, by decide +kernel, by decide +kernel⟩, by decide, rfl⟩, ⟨TX8, 39, rfl⟩, w_2178, w_140, by decide⟩
theorem my_X8_worldsOfAll : s_MV M_X8_worldsOfAll 8 0 := ⟨⟨w_2187, w_178, ⟨by decide +kernel, by decide +kernel, by decide +kernel⟩, by decide, rfl⟩, ⟨TX8, 39, rfl⟩, w_2186, w_141, by decide⟩
theorem my_X8_leastNamed : s_MV M_X8_leastNamed 8 2 := ⟨⟨w_2191, w_178, ⟨by decide +kernel, by decide +kernel, by decide +kernel⟩, by decide, rfl⟩, ⟨TX8, 39, rfl⟩, w_2190, w_142, by decide⟩
theorem my_X8_isEnough : s_MV M_X8_isEnough 8 2 := ⟨⟨w_2195, w_178, ⟨by decide +kernel, by decide +kernel, by decide +kernel⟩, by decide, rfl⟩, ⟨TX8, 39, rfl⟩, w_2194, w_143, by decide⟩
theorem my_X8_bitsOf : s_MV M_X8_bitsOf 8 1 := ⟨⟨w_2199, w_178, ⟨by decide +kernel, by decide +kernel, by decide +kernel⟩, by decide, rfl⟩, ⟨TX8, 39, rfl⟩, w_2198, w_144, by decide⟩
theorem my_X8_narrows : s_MV M_X8_narrows 8 2 := ⟨⟨w_2203, w_178, ⟨by decide +kernel, by decide +kernel, by decide +kernel⟩, by decide, rfl⟩, ⟨TX8, 39, rfl⟩, w_2202, w_145, by decide⟩
theorem fl_X8_357 : s_FL RX8 357 8 38 := ⟨by decide, RX8, TX8, 39, rfl, uw_8, by decide, w_1720⟩
theorem fp_X8_357 : s_FP RX8 357 8 38 .int false := ⟨by decide, RX8, TX8, 39, tyX8, rfl, uw_8, by decide, w_1720, tyX8_ok, nmX8, by decide +kernel, rfl, fun h => by cases h⟩
theorem fl_X8_360 : s_FL RX8 360 8 33 := ⟨by decide, RX8, TX8, 39, rfl, uw_8, by decide, w_1715⟩
theorem my_X8_copies : s_MV M_X8_copies 8 5 := ⟨⟨w_2231, w_178, ⟨by decide +kernel, by decide +kernel, by decide +kernel⟩, by decide, rfl⟩, ⟨TX8, 39, rfl⟩, w_2230, w_151, by decide⟩
theorem my_X8_seenAt : s_MV M_X8_seenAt 8 1 := ⟨⟨w_2235, w_178, ⟨by decide +kernel, by decide +kernel, by decide +kernel⟩, by decide, rfl⟩, ⟨TX8, 39, rfl⟩, w_2234, w_152, by decide⟩
theorem fp_X8_360 : s_FP RX8 360 8 33 .int false := ⟨by decide, RX8, TX8, 39, tyX8, rfl, uw_8, by decide, w_1715, tyX8_ok, nmX8, by decide +kernel, rfl, fun h => by cases h⟩
theorem my_X8_adds : s_MV M_X8_adds 8 4 := ⟨⟨w_2223, w_178, ⟨by decide +kernel, by decide +kernel, by decide +kernel⟩, by decide, rfl⟩, ⟨TX8, 39, rfl⟩, w_2222, w_149, by decide⟩
theorem my_X8_partAt : s_MV M_X8_partAt 8 4 := ⟨⟨w_2227, w_178, ⟨by decide +kernel, by decide +kernel, by decide +kernel⟩, by decide, rfl⟩, ⟨TX8, 39, rfl⟩, w_2226, w_150, by decide⟩
theorem fl_X8_378 : s_FL RX8 378 8 34 := ⟨by decide, RX8, TX8, 39, rfl, uw_8, by decide, w_1716⟩
theorem fp_X8_378 : s_FP RX8 378 8 34 .int false := ⟨by decide, RX8, TX8, 39, tyX8, rfl, uw_8, by decide, w_1716, tyX8_ok, nmX8, by decide +kernel, rfl, fun h => by cases h⟩
theorem my_X8_assumedAt : s_MV M_X8_assumedAt 8 1 := ⟨⟨w_2243, w_178, ⟨by decide +kernel, by decide +kernel, by decide +kernel⟩, by decide, rfl⟩, ⟨TX8, 39, rfl⟩, w_2242, w_154, by decide⟩
theorem my_X8_caseOf : s_MV M_X8_caseOf 8 4 := ⟨⟨w_2247, w_178, ⟨by decide +kernel, by decide +kernel, by decide +kernel⟩, by decide, rfl⟩, ⟨TX8, 39, rfl⟩, w_2246, w_155, by decide⟩
theorem my_X8_costAt : s_MV M_X8_costAt 8 2 := ⟨⟨w_2252, w_178, ⟨by decide +kernel, by decide +kernel, by decide +kernel⟩, by decide, rfl⟩, ⟨TX8, 39, rfl⟩, w_2251, w_156, by decide⟩
theorem my_X8_sum : s_MS M_X8_sum 2 := ⟨⟨w_2263, w_178, ⟨by decide +kernel, by decide +kernel, by decide +kernel⟩, by decide, rfl⟩, w_2262⟩
theorem my_X8_givenBy : s_MV M_X8_givenBy 8 2 := ⟨⟨w_2268, w_178, ⟨by decide +kernel, by decide +kernel, by decide +kernel⟩, by decide, rfl⟩, ⟨TX8, 39, rfl⟩, w_2267, w_159, by decide⟩
theorem fl_X8_402 : s_FL RX8 402 8 35 := ⟨by decide, RX8, TX8, 39, rfl, uw_8, by decide, w_1717⟩
theorem my_X8_premisesBy : s_MV M_X8_premisesBy 8 3 := ⟨⟨w_2260, w_178, ⟨by decide +kernel, by decide +kernel, by decide +kernel⟩, by decide, rfl⟩, ⟨TX8, 39, rfl⟩, w_2259, w_158, by decide⟩
theorem fp_X8_402 : s_FP RX8 402 8 35 .int false := ⟨by decide, RX8, TX8, 39, tyX8, rfl, uw_8, by decide, w_1717, tyX8_ok, nmX8, by decide +kernel, rfl, fun h => by cases h⟩
theorem my_X8_looksAll : s_MV M_X8_looksAll 8 2 := ⟨⟨w_2219, w_178, ⟨by decide +kernel, by decide +kernel, by decide +kernel⟩, by decide, rfl⟩, ⟨TX8, 39, rfl⟩, w_2218, w_148, by decide⟩
theorem my_X8_relates : s_MV M_X8_relates 8 1 := ⟨⟨w_2239, w_178, ⟨by decide +kernel, by decide +kernel, by decide +kernel⟩, by decide, rfl⟩, ⟨TX8, 39, rfl⟩, w_2238, w_153, by decide⟩
theorem my_X8_byRule : s_MV M_X8_byRule 8 3 := ⟨⟨w_2256, w_178, ⟨by decide +kernel, by decide +kernel, by decide +kernel⟩, by decide, rfl⟩, ⟨TX8, 39, rfl⟩, w_2255, w_157, by decide⟩
theorem my_X8_noProof : s_MV M_X8_noProof 8 3 := ⟨⟨w_2211, w_178, ⟨by decide +kernel, by decide +kernel, by decide +kernel⟩, by decide, rfl⟩, ⟨TX8, 39, rfl⟩, w_2210, w_146, by decide⟩
theorem my_X8_costs : s_MV M_X8_costs 8 3 := ⟨⟨w_2215, w_178, ⟨by decide +kernel, by decide +kernel, by decide +kernel⟩, by decide, rfl⟩, ⟨TX8, 39, rfl⟩, w_2214, w_147, by decide⟩
theorem my_X8_resoldBy : s_MV M_X8_resoldBy 8 3 := ⟨⟨w_2285, w_178, ⟨by decide +kernel, by decide +kernel, by decide +kernel⟩, by decide, rfl⟩, ⟨TX8, 39, rfl⟩, w_2284, w_160, by decide⟩
theorem my_X8_receipts : s_MV M_X8_receipts 8 0 := ⟨⟨w_2298, w_178, ⟨by decide +kernel, by decide +kernel, by decide +kernel⟩, by decide, rfl⟩, ⟨TX8, 39, rfl⟩, w_2297, w_161, by decide⟩
theorem my_X8_ofReceipt : s_MV M_X8_ofReceipt 8 2 := ⟨⟨w_2310, w_178, ⟨by decide +kernel, by decide +kernel, by decide +kernel⟩, by decide, rfl⟩, ⟨TX8, 39, rfl⟩, w_2309, w_163, by decide⟩
theorem my_X8_isVoid : s_MV M_X8_isVoid 8 1 := ⟨⟨w_2306, w_178, ⟨by decide +kernel, by decide +kernel, by decide +kernel⟩, by decide, rfl⟩, ⟨TX8, 39, rfl⟩, w_2305, w_162, by decide⟩
theorem my_X8_isAhead : s_MV M_X8_isAhead 8 2 := ⟨⟨w_2330, w_178, ⟨by decide +kernel, by decide +kernel, by decide +kernel⟩, by decide, rfl⟩, ⟨TX8, 39, rfl⟩, w_2329, w_167, by decide⟩
theorem my_X8_isAgain : s_MV M_X8_isAgain 8 1 := ⟨⟨w_2326, w_178, ⟨by decide +kernel, by decide +kernel, by decide +kernel⟩, by decide, rfl⟩, ⟨TX8, 39, rfl⟩, w_2325, w_166, by decide⟩
theorem my_X8_seller : s_MV M_X8_seller 8 1 := ⟨⟨w_2318, w_178, ⟨by decide +kernel, by decide +kernel, by decide +kernel⟩, by decide, rfl⟩, ⟨TX8, 39, rfl⟩, w_2317, w_164, by decide⟩
theorem my_X8_isBack : s_MV M_X8_isBack 8 2 := ⟨⟨w_2322, w_178, ⟨by decide +kernel, by decide +kernel, by decide +kernel⟩, by decide, rfl⟩, ⟨TX8, 39, rfl⟩, w_2321, w_165, by decide⟩
theorem my_J6_numberOfTrailingZeros_0f7a4 : s_MS M_J6_numberOfTrailingZeros_0f7a4 1 := ⟨⟨w_1263, w_195, ⟨by decide +kernel, by decide +kernel, by decide +kernel⟩, by decide, rfl⟩, w_1262⟩
theorem my_J0_coder_7d493 : s_MVs M_J0_coder_7d493 0 := ⟨⟨w_797, w_181, ⟨by decide +kernel, by decide +kernel, by decide +kernel⟩, by decide, rfl⟩, w_795, w_796, rfl⟩
theorem my_J0_isLatin1_aae02 : s_MVs M_J0_isLatin1_aae02 0 := ⟨⟨w_807, w_181, ⟨by decide +kernel, by decide +kernel, by decide +kernel⟩, by decide, rfl⟩, w_805, w_806, rfl⟩
theorem my_J1_charAt_3b067 : s_MS M_J1_charAt_3b067 2 := ⟨⟨w_810, w_182, ⟨by decide +kernel, by decide +kernel, by decide +kernel⟩, by decide, rfl⟩, w_809⟩
theorem my_J2_charAt_3b067 : s_MS M_J2_charAt_3b067 2 := ⟨⟨w_821, w_184, ⟨by decide +kernel, by decide +kernel, by decide +kernel⟩, by decide, rfl⟩, w_820⟩
theorem my_J0_checkIndex_df160 : s_MS M_J0_checkIndex_df160 2 := ⟨⟨w_813, w_181, ⟨by decide +kernel, by decide +kernel, by decide +kernel⟩, by decide, rfl⟩, w_812⟩
theorem my_J2_checkIndex_2214a : s_MS M_J2_checkIndex_2214a 2 := ⟨⟨w_824, w_184, ⟨by decide +kernel, by decide +kernel, by decide +kernel⟩, by decide, rfl⟩, w_823⟩
theorem my_J2_getChar_3b067 : s_MS M_J2_getChar_3b067 2 := ⟨⟨w_831, w_184, ⟨by decide +kernel, by decide +kernel, by decide +kernel⟩, by decide, rfl⟩, w_830⟩
theorem my_J2_length_9d52b : s_MS M_J2_length_9d52b 1 := ⟨⟨w_827, w_184, ⟨by decide +kernel, by decide +kernel, by decide +kernel⟩, by decide, rfl⟩, w_826⟩
theorem my_X7_formula : s_MV M_X7_formula 7 0 := ⟨⟨w_696, w_169, ⟨by decide +kernel, by decide +kernel, by decide +kernel⟩, by decide, rfl⟩, ⟨TX7, 9, rfl⟩, w_694, w_695, by decide⟩
theorem my_X7_things : s_MV M_X7_things 7 1 := ⟨⟨w_990, w_169, ⟨by decide +kernel, by decide +kernel, by decide +kernel⟩, by decide, rfl⟩, ⟨TX7, 9, rfl⟩, w_988, w_989, by decide⟩
theorem my_X7_signs : s_MV M_X7_signs 7 1 := ⟨⟨w_1015, w_169, ⟨by decide +kernel, by decide +kernel, by decide +kernel⟩, by decide, rfl⟩, ⟨TX7, 9, rfl⟩, w_1013, w_1014, by decide⟩
theorem my_X7_same : s_MV M_X7_same 7 2 := ⟨⟨w_1044, w_169, ⟨by decide +kernel, by decide +kernel, by decide +kernel⟩, by decide, rfl⟩, ⟨TX7, 9, rfl⟩, w_1042, w_1043, by decide⟩
theorem my_X7_holds : s_MV M_X7_holds 7 2 := ⟨⟨w_1051, w_169, ⟨by decide +kernel, by decide +kernel, by decide +kernel⟩, by decide, rfl⟩, ⟨TX7, 9, rfl⟩, w_1049, w_1050, by decide⟩
theorem my_X7_worlds : s_MV M_X7_worlds 7 1 := ⟨⟨w_1072, w_169, ⟨by decide +kernel, by decide +kernel, by decide +kernel⟩, by decide, rfl⟩, ⟨TX7, 9, rfl⟩, w_1070, w_1071, by decide⟩
theorem my_X7_rules : s_MV M_X7_rules 7 2 := ⟨⟨w_1086, w_169, ⟨by decide +kernel, by decide +kernel, by decide +kernel⟩, by decide, rfl⟩, ⟨TX7, 9, rfl⟩, w_1084, w_1085, by decide⟩
theorem my_X7_price : s_MV M_X7_price 7 3 := ⟨⟨w_1100, w_169, ⟨by decide +kernel, by decide +kernel, by decide +kernel⟩, by decide, rfl⟩, ⟨TX7, 9, rfl⟩, w_1098, w_1099, by decide⟩
theorem my_X7_believe : s_MV M_X7_believe 7 3 := ⟨⟨w_1114, w_169, ⟨by decide +kernel, by decide +kernel, by decide +kernel⟩, by decide, rfl⟩, ⟨TX7, 9, rfl⟩, w_1112, w_1113, by decide⟩
theorem my_X7_beliefs : s_MV M_X7_beliefs 7 1 := ⟨⟨w_1126, w_169, ⟨by decide +kernel, by decide +kernel, by decide +kernel⟩, by decide, rfl⟩, ⟨TX7, 9, rfl⟩, w_1124, w_1125, by decide⟩
theorem my_X7_line : s_MV M_X7_line 7 6 := ⟨⟨w_1133, w_169, ⟨by decide +kernel, by decide +kernel, by decide +kernel⟩, by decide, rfl⟩, ⟨TX7, 9, rfl⟩, w_1131, w_1132, by decide⟩
theorem my_X7_look : s_MV M_X7_look 7 2 := ⟨⟨w_1165, w_169, ⟨by decide +kernel, by decide +kernel, by decide +kernel⟩, by decide, rfl⟩, ⟨TX7, 9, rfl⟩, w_1163, w_1164, by decide⟩
theorem my_X7_is : s_MV M_X7_is 7 2 := ⟨⟨w_1190, w_169, ⟨by decide +kernel, by decide +kernel, by decide +kernel⟩, by decide, rfl⟩, ⟨TX7, 9, rfl⟩, w_1188, w_1189, by decide⟩
theorem my_X7_rests : s_MV M_X7_rests 7 1 := ⟨⟨w_1206, w_169, ⟨by decide +kernel, by decide +kernel, by decide +kernel⟩, by decide, rfl⟩, ⟨TX7, 9, rfl⟩, w_1204, w_1205, by decide⟩
theorem my_X7_needs : s_MV M_X7_needs 7 1 := ⟨⟨w_1213, w_169, ⟨by decide +kernel, by decide +kernel, by decide +kernel⟩, by decide, rfl⟩, ⟨TX7, 9, rfl⟩, w_1211, w_1212, by decide⟩
theorem my_X7_spent : s_MV M_X7_spent 7 1 := ⟨⟨w_1220, w_169, ⟨by decide +kernel, by decide +kernel, by decide +kernel⟩, by decide, rfl⟩, ⟨TX7, 9, rfl⟩, w_1218, w_1219, by decide⟩
theorem my_X7_falls : s_MV M_X7_falls 7 2 := ⟨⟨w_1228, w_169, ⟨by decide +kernel, by decide +kernel, by decide +kernel⟩, by decide, rfl⟩, ⟨TX7, 9, rfl⟩, w_1226, w_1227, by decide⟩
theorem my_X7_follows : s_MV M_X7_follows 7 2 := ⟨⟨w_1237, w_169, ⟨by decide +kernel, by decide +kernel, by decide +kernel⟩, by decide, rfl⟩, ⟨TX7, 9, rfl⟩, w_1235, w_1236, by decide⟩
theorem my_X7_counter : s_MV M_X7_counter 7 2 := ⟨⟨w_1271, w_169, ⟨by decide +kernel, by decide +kernel, by decide +kernel⟩, by decide, rfl⟩, ⟨TX7, 9, rfl⟩, w_1269, w_1270, by decide⟩
theorem my_X7_cheapest : s_MV M_X7_cheapest 7 3 := ⟨⟨w_1278, w_169, ⟨by decide +kernel, by decide +kernel, by decide +kernel⟩, by decide, rfl⟩, ⟨TX7, 9, rfl⟩, w_1276, w_1277, by decide⟩
theorem my_X7_lastly : s_MV M_X7_lastly 7 3 := ⟨⟨w_1394, w_169, ⟨by decide +kernel, by decide +kernel, by decide +kernel⟩, by decide, rfl⟩, ⟨TX7, 9, rfl⟩, w_1392, w_1393, by decide⟩
theorem my_X7_where : s_MV M_X7_where 7 2 := ⟨⟨w_1406, w_169, ⟨by decide +kernel, by decide +kernel, by decide +kernel⟩, by decide, rfl⟩, ⟨TX7, 9, rfl⟩, w_1404, w_1405, by decide⟩
theorem my_X7_resold : s_MV M_X7_resold 7 3 := ⟨⟨w_1417, w_169, ⟨by decide +kernel, by decide +kernel, by decide +kernel⟩, by decide, rfl⟩, ⟨TX7, 9, rfl⟩, w_1415, w_1416, by decide⟩
theorem my_X7_forward : s_MV M_X7_forward 7 3 := ⟨⟨w_1429, w_169, ⟨by decide +kernel, by decide +kernel, by decide +kernel⟩, by decide, rfl⟩, ⟨TX7, 9, rfl⟩, w_1427, w_1428, by decide⟩
theorem my_X7_truths : s_MV M_X7_truths 7 1 := ⟨⟨w_1439, w_169, ⟨by decide +kernel, by decide +kernel, by decide +kernel⟩, by decide, rfl⟩, ⟨TX7, 9, rfl⟩, w_1437, w_1438, by decide⟩
theorem my_X7_agree : s_MV M_X7_agree 7 2 := ⟨⟨w_1451, w_169, ⟨by decide +kernel, by decide +kernel, by decide +kernel⟩, by decide, rfl⟩, ⟨TX7, 9, rfl⟩, w_1449, w_1450, by decide⟩
theorem my_X7_withdraw : s_MV M_X7_withdraw 7 1 := ⟨⟨w_1466, w_169, ⟨by decide +kernel, by decide +kernel, by decide +kernel⟩, by decide, rfl⟩, ⟨TX7, 9, rfl⟩, w_1464, w_1465, by decide⟩
theorem my_X7_idle : s_MV M_X7_idle 7 1 := ⟨⟨w_1499, w_169, ⟨by decide +kernel, by decide +kernel, by decide +kernel⟩, by decide, rfl⟩, ⟨TX7, 9, rfl⟩, w_1497, w_1498, by decide⟩
theorem my_X7_alike : s_MV M_X7_alike 7 1 := ⟨⟨w_1511, w_169, ⟨by decide +kernel, by decide +kernel, by decide +kernel⟩, by decide, rfl⟩, ⟨TX7, 9, rfl⟩, w_1509, w_1510, by decide⟩
theorem my_X7_core : s_MV M_X7_core 7 1 := ⟨⟨w_1526, w_169, ⟨by decide +kernel, by decide +kernel, by decide +kernel⟩, by decide, rfl⟩, ⟨TX7, 9, rfl⟩, w_1524, w_1525, by decide⟩
theorem my_X7_more : s_MV M_X7_more 7 2 := ⟨⟨w_1550, w_169, ⟨by decide +kernel, by decide +kernel, by decide +kernel⟩, by decide, rfl⟩, ⟨TX7, 9, rfl⟩, w_1548, w_1549, by decide⟩
theorem my_X7_gains : s_MV M_X7_gains 7 2 := ⟨⟨w_1586, w_169, ⟨by decide +kernel, by decide +kernel, by decide +kernel⟩, by decide, rfl⟩, ⟨TX7, 9, rfl⟩, w_1584, w_1585, by decide⟩
theorem my_X7_sell : s_MV M_X7_sell 7 4 := ⟨⟨w_1624, w_169, ⟨by decide +kernel, by decide +kernel, by decide +kernel⟩, by decide, rfl⟩, ⟨TX7, 9, rfl⟩, w_1622, w_1623, by decide⟩
theorem my_X7_undo : s_MV M_X7_undo 7 1 := ⟨⟨w_1638, w_169, ⟨by decide +kernel, by decide +kernel, by decide +kernel⟩, by decide, rfl⟩, ⟨TX7, 9, rfl⟩, w_1636, w_1637, by decide⟩
theorem my_X7_owes : s_MV M_X7_owes 7 3 := ⟨⟨w_1647, w_169, ⟨by decide +kernel, by decide +kernel, by decide +kernel⟩, by decide, rfl⟩, ⟨TX7, 9, rfl⟩, w_1645, w_1646, by decide⟩
theorem my_X7_refunds : s_MV M_X7_refunds 7 1 := ⟨⟨w_1658, w_169, ⟨by decide +kernel, by decide +kernel, by decide +kernel⟩, by decide, rfl⟩, ⟨TX7, 9, rfl⟩, w_1656, w_1657, by decide⟩
theorem my_X7_chain : s_MV M_X7_chain 7 1 := ⟨⟨w_1666, w_169, ⟨by decide +kernel, by decide +kernel, by decide +kernel⟩, by decide, rfl⟩, ⟨TX7, 9, rfl⟩, w_1664, w_1665, by decide⟩
theorem nw_L_8 : s_NW RL 8 7 9 [.null, .null, .null, .null, .null, .null, .null, .null, .int 0] := ⟨by decide, RX7, TX7, tyX7, rfl, uw_7, tyX7_ok, w_196, w_197, w_169, by decide +kernel⟩
theorem my_X7_init : s_MI M_X7_init 0 := ⟨⟨w_200, w_169, ⟨by decide +kernel, by decide +kernel, by decide +kernel⟩, by decide, rfl⟩, w_199, rfl, rfl⟩
theorem nw_L_143 : s_NW RL 143 8 39 [.int 0, .null, .null, .int 0, .null, .null, .null, .int 0, .int 0, .int 0, .int 0, .int 0, .int 0, .int 0, .int 0, .null, .null, .null, .null, .null, .null, .null, .null, .null, .null, .null, .null, .null, .null, .null, .null, .null, .null, .int 0, .int 0, .int 0, .null, .null, .int 0] := ⟨by decide, RX8, TX8, tyX8, rfl, uw_8, tyX8_ok, w_1675, w_1676, w_178, by decide +kernel⟩
theorem my_X8_init : s_MI M_X8_init 0 := ⟨⟨w_1679, w_178, ⟨by decide +kernel, by decide +kernel, by decide +kernel⟩, by decide, rfl⟩, w_1678, rfl, rfl⟩
theorem my_X7_feed : s_MV M_X7_feed 7 5 := ⟨⟨w_484, w_169, ⟨by decide +kernel, by decide +kernel, by decide +kernel⟩, by decide, rfl⟩, ⟨TX7, 9, rfl⟩, w_482, w_483, by decide⟩
theorem my_X8_feed : s_MV M_X8_feed 8 5 := ⟨⟨w_1820, w_178, ⟨by decide +kernel, by decide +kernel, by decide +kernel⟩, by decide, rfl⟩, ⟨TX8, 39, rfl⟩, w_1818, w_1819, by decide⟩
theorem my_X7_end : s_MV M_X7_end 7 1 := ⟨⟨w_496, w_169, ⟨by decide +kernel, by decide +kernel, by decide +kernel⟩, by decide, rfl⟩, ⟨TX7, 9, rfl⟩, w_494, w_495, by decide⟩
theorem my_X8_end : s_MV M_X8_end 8 1 := ⟨⟨w_1824, w_178, ⟨by decide +kernel, by decide +kernel, by decide +kernel⟩, by decide, rfl⟩, ⟨TX8, 39, rfl⟩, w_1822, w_1823, by decide⟩
theorem my_L_formula : s_MX M_L_formula 2 [(0, 8, 11, 13), (0, 8, 14, 15)] := ⟨w_690, w_168, ⟨by decide +kernel, by decide +kernel, by decide +kernel⟩, by decide, rfl, w_689⟩
theorem my_X8_formula : s_MV M_X8_formula 8 0 := ⟨⟨w_1832, w_178, ⟨by decide +kernel, by decide +kernel, by decide +kernel⟩, by decide, rfl⟩, ⟨TX8, 39, rfl⟩, w_1830, w_1831, by decide⟩
theorem my_X8_thrown : s_MV M_X8_thrown 8 0 := ⟨⟨w_1674, w_178, ⟨by decide +kernel, by decide +kernel, by decide +kernel⟩, by decide, rfl⟩, ⟨TX8, 39, rfl⟩, w_1672, w_1673, by decide⟩
theorem my_X7_fault : s_MV M_X7_fault 7 0 := ⟨⟨w_504, w_169, ⟨by decide +kernel, by decide +kernel, by decide +kernel⟩, by decide, rfl⟩, ⟨TX7, 9, rfl⟩, w_502, w_503, by decide⟩
theorem my_X8_fault : s_MV M_X8_fault 8 0 := ⟨⟨w_1828, w_178, ⟨by decide +kernel, by decide +kernel, by decide +kernel⟩, by decide, rfl⟩, ⟨TX8, 39, rfl⟩, w_1826, w_1827, by decide⟩
theorem my_L_things : s_MX M_L_things 2 [(0, 5, 8, 13), (0, 5, 11, 21)] := ⟨w_985, w_168, ⟨by decide +kernel, by decide +kernel, by decide +kernel⟩, by decide, rfl, w_984⟩
theorem my_X8_things : s_MV M_X8_things 8 1 := ⟨⟨w_1908, w_178, ⟨by decide +kernel, by decide +kernel, by decide +kernel⟩, by decide, rfl⟩, ⟨TX8, 39, rfl⟩, w_1906, w_1907, by decide⟩
theorem my_L_signs : s_MX M_L_signs 3 [(0, 9, 12, 27)] := ⟨w_1010, w_168, ⟨by decide +kernel, by decide +kernel, by decide +kernel⟩, by decide, rfl, w_1009⟩
theorem my_X8_signs : s_MV M_X8_signs 8 1 := ⟨⟨w_1915, w_178, ⟨by decide +kernel, by decide +kernel, by decide +kernel⟩, by decide, rfl⟩, ⟨TX8, 39, rfl⟩, w_1913, w_1914, by decide⟩
theorem my_L_same : s_MX M_L_same 4 [(0, 17, 20, 27)] := ⟨w_1040, w_168, ⟨by decide +kernel, by decide +kernel, by decide +kernel⟩, by decide, rfl, w_1039⟩
theorem my_X8_same : s_MV M_X8_same 8 2 := ⟨⟨w_1923, w_178, ⟨by decide +kernel, by decide +kernel, by decide +kernel⟩, by decide, rfl⟩, ⟨TX8, 39, rfl⟩, w_1921, w_1922, by decide⟩
theorem my_L_holds : s_MX M_L_holds 4 [(0, 17, 20, 27), (0, 17, 24, 13)] := ⟨w_1047, w_168, ⟨by decide +kernel, by decide +kernel, by decide +kernel⟩, by decide, rfl, w_1046⟩
theorem my_X8_holds : s_MV M_X8_holds 8 2 := ⟨⟨w_1938, w_178, ⟨by decide +kernel, by decide +kernel, by decide +kernel⟩, by decide, rfl⟩, ⟨TX8, 39, rfl⟩, w_1936, w_1937, by decide⟩
theorem my_L_worlds : s_MX M_L_worlds 3 [(0, 9, 12, 27)] := ⟨w_1068, w_168, ⟨by decide +kernel, by decide +kernel, by decide +kernel⟩, by decide, rfl, w_1067⟩
theorem my_X8_worlds : s_MV M_X8_worlds 8 1 := ⟨⟨w_1964, w_178, ⟨by decide +kernel, by decide +kernel, by decide +kernel⟩, by decide, rfl⟩, ⟨TX8, 39, rfl⟩, w_1962, w_1963, by decide⟩
theorem my_L_rules : s_MX M_L_rules 4 [(0, 10, 13, 27), (0, 10, 17, 13)] := ⟨w_1082, w_168, ⟨by decide +kernel, by decide +kernel, by decide +kernel⟩, by decide, rfl, w_1081⟩
theorem my_X8_rules : s_MV M_X8_rules 8 2 := ⟨⟨w_1972, w_178, ⟨by decide +kernel, by decide +kernel, by decide +kernel⟩, by decide, rfl⟩, ⟨TX8, 39, rfl⟩, w_1970, w_1971, by decide⟩
theorem my_L_price : s_MX M_L_price 5 [(0, 12, 15, 27), (0, 12, 19, 13)] := ⟨w_1096, w_168, ⟨by decide +kernel, by decide +kernel, by decide +kernel⟩, by decide, rfl, w_1095⟩
theorem my_X8_price : s_MV M_X8_price 8 3 := ⟨⟨w_1979, w_178, ⟨by decide +kernel, by decide +kernel, by decide +kernel⟩, by decide, rfl⟩, ⟨TX8, 39, rfl⟩, w_1977, w_1978, by decide⟩
theorem my_L_believe : s_MX M_L_believe 5 [(0, 19, 22, 27)] := ⟨w_1110, w_168, ⟨by decide +kernel, by decide +kernel, by decide +kernel⟩, by decide, rfl, w_1109⟩
theorem my_X8_believe : s_MV M_X8_believe 8 3 := ⟨⟨w_1983, w_178, ⟨by decide +kernel, by decide +kernel, by decide +kernel⟩, by decide, rfl⟩, ⟨TX8, 39, rfl⟩, w_1981, w_1982, by decide⟩
theorem my_L_beliefs : s_MX M_L_beliefs 3 [(0, 9, 12, 27)] := ⟨w_1122, w_168, ⟨by decide +kernel, by decide +kernel, by decide +kernel⟩, by decide, rfl, w_1121⟩
theorem my_X8_beliefs : s_MV M_X8_beliefs 8 1 := ⟨⟨w_1994, w_178, ⟨by decide +kernel, by decide +kernel, by decide +kernel⟩, by decide, rfl⟩, ⟨TX8, 39, rfl⟩, w_1992, w_1993, by decide⟩
theorem my_L_line : s_MX M_L_line 8 [(0, 18, 21, 27), (0, 18, 25, 13), (0, 18, 29, 15)] := ⟨w_1129, w_168, ⟨by decide +kernel, by decide +kernel, by decide +kernel⟩, by decide, rfl, w_1128⟩
theorem my_X8_line : s_MV M_X8_line 8 6 := ⟨⟨w_1998, w_178, ⟨by decide +kernel, by decide +kernel, by decide +kernel⟩, by decide, rfl⟩, ⟨TX8, 39, rfl⟩, w_1996, w_1997, by decide⟩
theorem my_L_look : s_MX M_L_look 4 [(0, 10, 13, 27), (0, 10, 17, 61)] := ⟨w_1160, w_168, ⟨by decide +kernel, by decide +kernel, by decide +kernel⟩, by decide, rfl, w_1159⟩
theorem my_X8_look : s_MV M_X8_look 8 2 := ⟨⟨w_2010, w_178, ⟨by decide +kernel, by decide +kernel, by decide +kernel⟩, by decide, rfl⟩, ⟨TX8, 39, rfl⟩, w_2008, w_2009, by decide⟩
theorem my_L_is : s_MX M_L_is 4 [(0, 17, 20, 27), (0, 17, 24, 61)] := ⟨w_1186, w_168, ⟨by decide +kernel, by decide +kernel, by decide +kernel⟩, by decide, rfl, w_1185⟩
theorem my_X8_is : s_MV M_X8_is 8 2 := ⟨⟨w_2026, w_178, ⟨by decide +kernel, by decide +kernel, by decide +kernel⟩, by decide, rfl⟩, ⟨TX8, 39, rfl⟩, w_2024, w_2025, by decide⟩
theorem my_X7_wrong : s_MV M_X7_wrong 7 0 := ⟨⟨w_508, w_169, ⟨by decide +kernel, by decide +kernel, by decide +kernel⟩, by decide, rfl⟩, ⟨TX7, 9, rfl⟩, w_506, w_507, by decide⟩
theorem my_X8_wrong : s_MV M_X8_wrong 8 0 := ⟨⟨w_2107, w_178, ⟨by decide +kernel, by decide +kernel, by decide +kernel⟩, by decide, rfl⟩, ⟨TX8, 39, rfl⟩, w_2105, w_2106, by decide⟩
theorem my_L_rests : s_MX M_L_rests 3 [(0, 8, 11, 27)] := ⟨w_1202, w_168, ⟨by decide +kernel, by decide +kernel, by decide +kernel⟩, by decide, rfl, w_1201⟩
theorem my_X8_rests : s_MV M_X8_rests 8 1 := ⟨⟨w_2111, w_178, ⟨by decide +kernel, by decide +kernel, by decide +kernel⟩, by decide, rfl⟩, ⟨TX8, 39, rfl⟩, w_2109, w_2110, by decide⟩
theorem my_L_needs : s_MX M_L_needs 3 [(0, 8, 11, 27)] := ⟨w_1209, w_168, ⟨by decide +kernel, by decide +kernel, by decide +kernel⟩, by decide, rfl, w_1208⟩
theorem my_X8_needs : s_MV M_X8_needs 8 1 := ⟨⟨w_2115, w_178, ⟨by decide +kernel, by decide +kernel, by decide +kernel⟩, by decide, rfl⟩, ⟨TX8, 39, rfl⟩, w_2113, w_2114, by decide⟩
theorem my_L_spent : s_MX M_L_spent 3 [(0, 9, 12, 27)] := ⟨w_1216, w_168, ⟨by decide +kernel, by decide +kernel, by decide +kernel⟩, by decide, rfl, w_1215⟩
theorem my_X8_spent : s_MV M_X8_spent 8 1 := ⟨⟨w_2119, w_178, ⟨by decide +kernel, by decide +kernel, by decide +kernel⟩, by decide, rfl⟩, ⟨TX8, 39, rfl⟩, w_2117, w_2118, by decide⟩
theorem my_L_falls : s_MX M_L_falls 4 [(0, 9, 12, 27)] := ⟨w_1224, w_168, ⟨by decide +kernel, by decide +kernel, by decide +kernel⟩, by decide, rfl, w_1223⟩
theorem my_X8_falls : s_MV M_X8_falls 8 2 := ⟨⟨w_2127, w_178, ⟨by decide +kernel, by decide +kernel, by decide +kernel⟩, by decide, rfl⟩, ⟨TX8, 39, rfl⟩, w_2125, w_2126, by decide⟩
theorem my_L_follows : s_MX M_L_follows 4 [(0, 17, 20, 27)] := ⟨w_1233, w_168, ⟨by decide +kernel, by decide +kernel, by decide +kernel⟩, by decide, rfl, w_1232⟩
theorem my_X8_follows : s_MV M_X8_follows 8 2 := ⟨⟨w_2135, w_178, ⟨by decide +kernel, by decide +kernel, by decide +kernel⟩, by decide, rfl⟩, ⟨TX8, 39, rfl⟩, w_2133, w_2134, by decide⟩
theorem my_L_counter : s_MX M_L_counter 4 [(0, 10, 13, 27)] := ⟨w_1267, w_168, ⟨by decide +kernel, by decide +kernel, by decide +kernel⟩, by decide, rfl, w_1266⟩
theorem my_X8_counter : s_MV M_X8_counter 8 2 := ⟨⟨w_2147, w_178, ⟨by decide +kernel, by decide +kernel, by decide +kernel⟩, by decide, rfl⟩, ⟨TX8, 39, rfl⟩, w_2145, w_2146, by decide⟩
theorem my_L_cheapest : s_MX M_L_cheapest 5 [(0, 12, 15, 27)] := ⟨w_1274, w_168, ⟨by decide +kernel, by decide +kernel, by decide +kernel⟩, by decide, rfl, w_1273⟩
theorem my_X8_cheapest : s_MV M_X8_cheapest 8 3 := ⟨⟨w_2207, w_178, ⟨by decide +kernel, by decide +kernel, by decide +kernel⟩, by decide, rfl⟩, ⟨TX8, 39, rfl⟩, w_2205, w_2206, by decide⟩
theorem my_L_lastly : s_MX M_L_lastly 5 [(0, 12, 15, 27)] := ⟨w_1390, w_168, ⟨by decide +kernel, by decide +kernel, by decide +kernel⟩, by decide, rfl, w_1389⟩
theorem my_X8_lastly : s_MV M_X8_lastly 8 3 := ⟨⟨w_2273, w_178, ⟨by decide +kernel, by decide +kernel, by decide +kernel⟩, by decide, rfl⟩, ⟨TX8, 39, rfl⟩, w_2271, w_2272, by decide⟩
theorem my_L_where : s_MX M_L_where 4 [(0, 10, 13, 27)] := ⟨w_1402, w_168, ⟨by decide +kernel, by decide +kernel, by decide +kernel⟩, by decide, rfl, w_1401⟩
theorem my_X8_where : s_MV M_X8_where 8 2 := ⟨⟨w_2277, w_178, ⟨by decide +kernel, by decide +kernel, by decide +kernel⟩, by decide, rfl⟩, ⟨TX8, 39, rfl⟩, w_2275, w_2276, by decide⟩
theorem my_L_resold : s_MX M_L_resold 5 [(0, 12, 15, 27)] := ⟨w_1413, w_168, ⟨by decide +kernel, by decide +kernel, by decide +kernel⟩, by decide, rfl, w_1412⟩
theorem my_X8_resold : s_MV M_X8_resold 8 3 := ⟨⟨w_2281, w_178, ⟨by decide +kernel, by decide +kernel, by decide +kernel⟩, by decide, rfl⟩, ⟨TX8, 39, rfl⟩, w_2279, w_2280, by decide⟩
theorem my_L_forward : s_MX M_L_forward 5 [(0, 12, 15, 27)] := ⟨w_1425, w_168, ⟨by decide +kernel, by decide +kernel, by decide +kernel⟩, by decide, rfl, w_1424⟩
theorem my_X8_forward : s_MV M_X8_forward 8 3 := ⟨⟨w_2289, w_178, ⟨by decide +kernel, by decide +kernel, by decide +kernel⟩, by decide, rfl⟩, ⟨TX8, 39, rfl⟩, w_2287, w_2288, by decide⟩
theorem my_L_truths : s_MX M_L_truths 3 [(0, 9, 12, 13)] := ⟨w_1435, w_168, ⟨by decide +kernel, by decide +kernel, by decide +kernel⟩, by decide, rfl, w_1434⟩
theorem my_X8_truths : s_MV M_X8_truths 8 1 := ⟨⟨w_1968, w_178, ⟨by decide +kernel, by decide +kernel, by decide +kernel⟩, by decide, rfl⟩, ⟨TX8, 39, rfl⟩, w_1966, w_1967, by decide⟩
theorem my_L_agree : s_MX M_L_agree 4 [(0, 10, 13, 27)] := ⟨w_1447, w_168, ⟨by decide +kernel, by decide +kernel, by decide +kernel⟩, by decide, rfl, w_1446⟩
theorem my_X8_agree : s_MV M_X8_agree 8 2 := ⟨⟨w_2151, w_178, ⟨by decide +kernel, by decide +kernel, by decide +kernel⟩, by decide, rfl⟩, ⟨TX8, 39, rfl⟩, w_2149, w_2150, by decide⟩
theorem my_L_withdraw : s_MX M_L_withdraw 3 [(0, 9, 12, 13)] := ⟨w_1462, w_168, ⟨by decide +kernel, by decide +kernel, by decide +kernel⟩, by decide, rfl, w_1461⟩
theorem my_X8_withdraw : s_MV M_X8_withdraw 8 1 := ⟨⟨w_2163, w_178, ⟨by decide +kernel, by decide +kernel, by decide +kernel⟩, by decide, rfl⟩, ⟨TX8, 39, rfl⟩, w_2161, w_2162, by decide⟩
theorem my_L_idle : s_MX M_L_idle 3 [(0, 9, 12, 27)] := ⟨w_1495, w_168, ⟨by decide +kernel, by decide +kernel, by decide +kernel⟩, by decide, rfl, w_1494⟩
theorem my_X8_idle : s_MV M_X8_idle 8 1 := ⟨⟨w_2155, w_178, ⟨by decide +kernel, by decide +kernel, by decide +kernel⟩, by decide, rfl⟩, ⟨TX8, 39, rfl⟩, w_2153, w_2154, by decide⟩
theorem my_L_alike : s_MX M_L_alike 3 [(0, 9, 12, 27)] := ⟨w_1507, w_168, ⟨by decide +kernel, by decide +kernel, by decide +kernel⟩, by decide, rfl, w_1506⟩
theorem my_X8_alike : s_MV M_X8_alike 8 1 := ⟨⟨w_2159, w_178, ⟨by decide +kernel, by decide +kernel, by decide +kernel⟩, by decide, rfl⟩, ⟨TX8, 39, rfl⟩, w_2157, w_2158, by decide⟩
theorem my_L_core : s_MX M_L_core 3 [(0, 9, 12, 13)] := ⟨w_1522, w_168, ⟨by decide +kernel, by decide +kernel, by decide +kernel⟩, by decide, rfl, w_1521⟩
theorem my_X8_core : s_MV M_X8_core 8 1 := ⟨⟨w_2175, w_178, ⟨by decide +kernel, by decide +kernel, by decide +kernel⟩, by decide, rfl⟩, ⟨TX8, 39, rfl⟩, w_2173, w_2174, by decide⟩
theorem my_L_more : s_MX M_L_more 4 [(0, 10, 13, 27)] := ⟨w_1546, w_168, ⟨by decide +kernel, by decide +kernel, by decide +kernel⟩, by decide, rfl, w_1545⟩
theorem my_X8_more : s_MV M_X8_more 8 2 := ⟨⟨w_2183, w_178, ⟨by decide +kernel, by decide +kernel, by decide +kernel⟩, by decide, rfl⟩, ⟨TX8, 39, rfl⟩, w_2181, w_2182, by decide⟩
theorem my_L_gains : s_MX M_L_gains 4 [(0, 10, 13, 27), (0, 10, 17, 13)] := ⟨w_1582, w_168, ⟨by decide +kernel, by decide +kernel, by decide +kernel⟩, by decide, rfl, w_1581⟩
theorem my_X8_gains : s_MV M_X8_gains 8 2 := ⟨⟨w_2338, w_178, ⟨by decide +kernel, by decide +kernel, by decide +kernel⟩, by decide, rfl⟩, ⟨TX8, 39, rfl⟩, w_2336, w_2337, by decide⟩
theorem my_L_sell : s_MX M_L_sell 6 [(0, 14, 17, 27), (0, 14, 21, 13), (0, 14, 25, 15)] := ⟨w_1620, w_168, ⟨by decide +kernel, by decide +kernel, by decide +kernel⟩, by decide, rfl, w_1619⟩
theorem my_X8_sell : s_MV M_X8_sell 8 4 := ⟨⟨w_2294, w_178, ⟨by decide +kernel, by decide +kernel, by decide +kernel⟩, by decide, rfl⟩, ⟨TX8, 39, rfl⟩, w_2292, w_2293, by decide⟩
theorem my_L_undo : s_MX M_L_undo 3 [(0, 16, 19, 27)] := ⟨w_1634, w_168, ⟨by decide +kernel, by decide +kernel, by decide +kernel⟩, by decide, rfl, w_1633⟩
theorem my_X8_undo : s_MV M_X8_undo 8 1 := ⟨⟨w_2302, w_178, ⟨by decide +kernel, by decide +kernel, by decide +kernel⟩, by decide, rfl⟩, ⟨TX8, 39, rfl⟩, w_2300, w_2301, by decide⟩
theorem my_L_owes : s_MX M_L_owes 5 [(0, 12, 15, 27), (0, 12, 19, 13)] := ⟨w_1643, w_168, ⟨by decide +kernel, by decide +kernel, by decide +kernel⟩, by decide, rfl, w_1642⟩
theorem my_X8_owes : s_MV M_X8_owes 8 3 := ⟨⟨w_2314, w_178, ⟨by decide +kernel, by decide +kernel, by decide +kernel⟩, by decide, rfl⟩, ⟨TX8, 39, rfl⟩, w_2312, w_2313, by decide⟩
theorem my_L_refunds : s_MX M_L_refunds 3 [(0, 9, 12, 13)] := ⟨w_1654, w_168, ⟨by decide +kernel, by decide +kernel, by decide +kernel⟩, by decide, rfl, w_1653⟩
theorem my_X8_refunds : s_MV M_X8_refunds 8 1 := ⟨⟨w_2334, w_178, ⟨by decide +kernel, by decide +kernel, by decide +kernel⟩, by decide, rfl⟩, ⟨TX8, 39, rfl⟩, w_2332, w_2333, by decide⟩
theorem my_X7_dearer : s_MV M_X7_dearer 7 0 := ⟨⟨w_615, w_169, ⟨by decide +kernel, by decide +kernel, by decide +kernel⟩, by decide, rfl⟩, ⟨TX7, 9, rfl⟩, w_613, w_614, by decide⟩
theorem my_X8_dearer : s_MV M_X8_dearer 8 0 := ⟨⟨w_2342, w_178, ⟨by decide +kernel, by decide +kernel, by decide +kernel⟩, by decide, rfl⟩, ⟨TX8, 39, rfl⟩, w_2340, w_2341, by decide⟩
theorem my_L_chain : s_MX M_L_chain 3 [(0, 9, 12, 27)] := ⟨w_1662, w_168, ⟨by decide +kernel, by decide +kernel, by decide +kernel⟩, by decide, rfl, w_1661⟩
theorem my_X8_chain : s_MV M_X8_chain 8 1 := ⟨⟨w_2131, w_178, ⟨by decide +kernel, by decide +kernel, by decide +kernel⟩, by decide, rfl⟩, ⟨TX8, 39, rfl⟩, w_2129, w_2130, by decide⟩
theorem my_X7_image : s_MV M_X7_image 7 0 := ⟨⟨w_648, w_169, ⟨by decide +kernel, by decide +kernel, by decide +kernel⟩, by decide, rfl⟩, ⟨TX7, 9, rfl⟩, w_646, w_647, by decide⟩
theorem my_X8_image : s_MV M_X8_image 8 0 := ⟨⟨w_1804, w_178, ⟨by decide +kernel, by decide +kernel, by decide +kernel⟩, by decide, rfl⟩, ⟨TX8, 39, rfl⟩, w_1802, w_1803, by decide⟩
theorem my_X7_back : s_MV M_X7_back 7 0 := ⟨⟨w_659, w_169, ⟨by decide +kernel, by decide +kernel, by decide +kernel⟩, by decide, rfl⟩, ⟨TX7, 9, rfl⟩, w_657, w_658, by decide⟩
theorem my_X8_back : s_MV M_X8_back 8 0 := ⟨⟨w_1808, w_178, ⟨by decide +kernel, by decide +kernel, by decide +kernel⟩, by decide, rfl⟩, ⟨TX8, 39, rfl⟩, w_1806, w_1807, by decide⟩
theorem my_X7_count : s_MV M_X7_count 7 1 := ⟨⟨w_667, w_169, ⟨by decide +kernel, by decide +kernel, by decide +kernel⟩, by decide, rfl⟩, ⟨TX7, 9, rfl⟩, w_665, w_666, by decide⟩
theorem my_X8_count : s_MV M_X8_count 8 1 := ⟨⟨w_2346, w_178, ⟨by decide +kernel, by decide +kernel, by decide +kernel⟩, by decide, rfl⟩, ⟨TX8, 39, rfl⟩, w_2344, w_2345, by decide⟩
theorem my_J3_checkIndex_8e157 : s_MS M_J3_checkIndex_8e157 3 := ⟨⟨w_818, w_183, ⟨by decide +kernel, by decide +kernel, by decide +kernel⟩, by decide, rfl⟩, w_817⟩

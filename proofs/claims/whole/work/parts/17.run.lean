abbrev zLi : Type := zMi × zNi × Bool × List (List Nat)
def zLl : List zLi := [(zm_Bu_init, (yX0_init, cX0_init, 1, none), true, zw__Bu_init), (zm_Bu_begin, (yX0_begin, cX0_begin, 2, none), false, zw__Bu_begin), (zm_Bu_condition, (yX0_condition, cX0_condition, 4, none), false, zw__Bu_condition), (zm_Bu_chainTwo, (yX0_chainTwo, cX0_chainTwo, 2, none), false, zw__Bu_chainTwo), (zm_Bu_chooseOfTwo, (yX0_chooseOfTwo, cX0_chooseOfTwo, 2, none), false, zw__Bu_chooseOfTwo), (zm_Bu_repeat, (yX0_repeat, cX0_repeat, 5, none), false, zw__Bu_repeat), (zm_Bu_chainCopies, (yX0_chainCopies, cX0_chainCopies, 12, none), false, zw__Bu_chainCopies), (zm_Bu_finish, (yX0_finish, cX0_finish, 1, none), false, zw__Bu_finish), (zm_Pl_init, (yX1_init, cX1_init, 1, none), true, zw__Pl_init), (zm_Pl_sideOf, (yX1_sideOf, cX1_sideOf, 2, some (.object "PromiseTries$Sequence")), false, zw__Pl_sideOf), (zm_Pl_isPutOffBy, (yX1_isPutOffBy, cX1_isPutOffBy, 2, some .boolean), false, zw__Pl_isPutOffBy), (zm_Re_init, (yX2_init, cX2_init, 1, none), true, zw__Re_init), (zm_Re_readAll, (yX2_readAll, cX2_readAll, 3, some .int), false, zw__Re_readAll), (zm_Re_readPromise, (yX2_readPromise, cX2_readPromise, 2, some .boolean), false, zw__Re_readPromise), (zm_Re_readOff, (yX2_readOff, cX2_readOff, 2, some .boolean), false, zw__Re_readOff), (zm_Re_readChoice, (yX2_readChoice, cX2_readChoice, 3, some .boolean), false, zw__Re_readChoice), (zm_Re_readChain, (yX2_readChain, cX2_readChain, 3, some .boolean), false, zw__Re_readChain), (zm_Re_readRepeated, (yX2_readRepeated, cX2_readRepeated, 4, some .boolean), false, zw__Re_readRepeated), (zm_Re_readNumber, (yX2_readNumber, cX2_readNumber, 2, some .boolean), false, zw__Re_readNumber), (zm_Re_readPart, (yX2_readPart, cX2_readPart, 2, some .boolean), false, zw__Re_readPart), (zm_Re_readCondition, (yX2_readCondition, cX2_readCondition, 4, some .boolean), false, zw__Re_readCondition), (zm_Re_readPlain, (yX2_readPlain, cX2_readPlain, 2, some .boolean), false, zw__Re_readPlain), (zm_Re_readAnyOf, (yX2_readAnyOf, cX2_readAnyOf, 3, some .boolean), false, zw__Re_readAnyOf), (zm_Re_readAllOf, (yX2_readAllOf, cX2_readAllOf, 3, some .boolean), false, zw__Re_readAllOf), (zm_Se_init, (yX3_init, cX3_init, 1, none), true, zw__Se_init), (zm_Se_clear, (yX3_clear, cX3_clear, 1, none), false, zw__Se_clear), (zm_Se_addCondition, (yX3_addCondition, cX3_addCondition, 2, some .long), false, zw__Se_addCondition), (zm_Se_link, (yX3_link, cX3_link, 8, none), false, zw__Se_link), (zm_Se_copyBlock, (yX3_copyBlock, cX3_copyBlock, 11, none), false, zw__Se_copyBlock), (zm_Se_findUseful, (yX3_findUseful, cX3_findUseful, 7, none), false, zw__Se_findUseful), (zm_Se_openTo, (yX3_openTo, cX3_openTo, 5, some .long), false, zw__Se_openTo), (zm_Se_after, (yX3_after, cX3_after, 10, some .long), false, zw__Se_after), (zm_Se_walk, (yX3_walk, cX3_walk, 7, some .long), false, zw__Se_walk), (zm_Se_hasEnded, (yX3_hasEnded, cX3_hasEnded, 3, some .boolean), false, zw__Se_hasEnded), (zm_Se_goesOn, (yX3_goesOn, cX3_goesOn, 3, some .boolean), false, zw__Se_goesOn), (zm_Sh_init, (yX4_init, cX4_init, 1, none), true, zw__Sh_init), (zm_Sh_renew, (yX4_renew, cX4_renew, 4, none), false, zw__Sh_renew), (zm_Sh_tearAt, (yX4_tearAt, cX4_tearAt, 3, some .int), false, zw__Sh_tearAt), (zm_Sh_setCell, (yX4_setCell, cX4_setCell, 3, none), false, zw__Sh_setCell), (zm_Ta_init, (yX5_init, cX5_init, 1, none), true, zw__Ta_init), (zm_Ta_begin, (yX5_begin, cX5_begin, 1, none), false, zw__Ta_begin), (zm_Ta_refuse, (yX5_refuse, cX5_refuse, 2, some .boolean), false, zw__Ta_refuse), (zm_Ta_advance, (yX5_advance, cX5_advance, 2, none), false, zw__Ta_advance), (zm_Ta_advanceNumber, (yX5_advanceNumber, cX5_advanceNumber, 3, none), false, zw__Ta_advanceNumber), (zm_Ta_isFigure, (yX5_isFigure, cX5_isFigure, 1, some .boolean), false, zw__Ta_isFigure), (zm_Ta_isSign, (yX5_isSign, cX5_isSign, 1, some .boolean), false, zw__Ta_isSign), (zm_Ta_beginsSequence, (yX5_beginsSequence, cX5_beginsSequence, 1, some .boolean), false, zw__Ta_beginsSequence), (zm_Tr_init, (yX6_init, cX6_init, 1, none), true, zw__Tr_init), (zm_Tr_add, (yX6_add, cX6_add, 2, none), false, zw__Tr_add), (zm_Tr_become, (yX6_become, cX6_become, 2, none), false, zw__Tr_become), (zm_TS_init, (yX7_init, cX7_init, 1, none), true, zw__TS_init), (zm_TS_clear, (yX7_clear, cX7_clear, 1, none), false, zw__TS_clear), (zm_TS_pushWire, (yX7_pushWire, cX7_pushWire, 3, none), false, zw__TS_pushWire), (zm_TS_wordOfWire, (yX7_wordOfWire, cX7_wordOfWire, 2, some .long), false, zw__TS_wordOfWire), (zm_TS_negate, (yX7_negate, cX7_negate, 2, none), false, zw__TS_negate), (zm_TS_joinTwo, (yX7_joinTwo, cX7_joinTwo, 6, none), false, zw__TS_joinTwo), (zm_TS_drop, (yX7_drop, cX7_drop, 1, none), false, zw__TS_drop), (zm_TS_moveTop, (yX7_moveTop, cX7_moveTop, 4, none), false, zw__TS_moveTop), (zm_Wa_init, (yX8_init, cX8_init, 1, none), true, zw__Wa_init), (zm_Wa_restart, (yX8_restart, cX8_restart, 1, none), false, zw__Wa_restart), (zm_Wa_catchUp, (yX8_catchUp, cX8_catchUp, 3, none), false, zw__Wa_catchUp), (zm_Wa_takeIn, (yX8_takeIn, cX8_takeIn, 5, none), false, zw__Wa_takeIn), (zm_Wa_moveDuties, (yX8_moveDuties, cX8_moveDuties, 5, none), false, zw__Wa_moveDuties), (zm_Wa_moveTries, (yX8_moveTries, cX8_moveTries, 6, some .boolean), false, zw__Wa_moveTries), (zm_Wa_beginDuty, (yX8_beginDuty, cX8_beginDuty, 5, none), false, zw__Wa_beginDuty), (zm_Wa_settleDuty, (yX8_settleDuty, cX8_settleDuty, 5, none), false, zw__Wa_settleDuty), (zm_Wa_judgeTries, (yX8_judgeTries, cX8_judgeTries, 4, none), false, zw__Wa_judgeTries), (zm_Wa_judge, (yX8_judge, cX8_judge, 3, some .int), false, zw__Wa_judge), (zm_Wa_howMany, (yX8_howMany, cX8_howMany, 4, some .int), false, zw__Wa_howMany), (zm_Wa_earliest, (yX8_earliest, cX8_earliest, 3, some .int), false, zw__Wa_earliest), (zm_Wa_failedBy, (yX8_failedBy, cX8_failedBy, 4, some .int), false, zw__Wa_failedBy), (zm_Wa_allDuties, (yX8_allDuties, cX8_allDuties, 3, some .int), false, zw__Wa_allDuties), (zm_Wa_dutyTick, (yX8_dutyTick, cX8_dutyTick, 5, some .int), false, zw__Wa_dutyTick), (zm_Wa_dutyState, (yX8_dutyState, cX8_dutyState, 2, some .int), false, zw__Wa_dutyState), (zm_PT_init, (yX9_init, cX9_init, 2, none), true, zw__PT_init), (zm_PT_feed, (yX9_feed, cX9_feed, 2, some .int), false, zw__PT_feed), (zm_PT_end, (yX9_end, cX9_end, 3, some .int), false, zw__PT_end), (zm_PT_text, (yX9_text, cX9_text, 4, some .int), false, zw__PT_text), (zm_PT_fault, (yX9_fault, cX9_fault, 1, some .int), false, zw__PT_fault), (zm_PT_rule, (yX9_rule, cX9_rule, 5, some .int), false, zw__PT_rule), (zm_PT_promise, (yX9_promise, cX9_promise, 4, some .int), false, zw__PT_promise), (zm_PT_fulfils, (yX9_fulfils, cX9_fulfils, 6, some .int), false, zw__PT_fulfils), (zm_PT_fulfilled, (yX9_fulfilled, cX9_fulfilled, 4, some .int), false, zw__PT_fulfilled), (zm_PT_matches, (yX9_matches, cX9_matches, 6, some .int), false, zw__PT_matches), (zm_PT_might, (yX9_might, cX9_might, 5, some .int), false, zw__PT_might), (zm_PT_tick, (yX9_tick, cX9_tick, 4, some .int), false, zw__PT_tick), (zm_PT_bits, (yX9_bits, cX9_bits, 2, some .int), false, zw__PT_bits), (zm_PT_put, (yX9_put, cX9_put, 4, some .int), false, zw__PT_put), (zm_PT_keeps, (yX9_keeps, cX9_keeps, 3, some .int), false, zw__PT_keeps), (zm_PT_draw, (yX9_draw, cX9_draw, 6, some .int), false, zw__PT_draw), (zm_PT_verdict, (yX9_verdict, cX9_verdict, 3, some .int), false, zw__PT_verdict), (zm_PT_decided, (yX9_decided, cX9_decided, 4, some .int), false, zw__PT_decided), (zm_PT_duties, (yX9_duties, cX9_duties, 3, some .int), false, zw__PT_duties), (zm_PT_duty, (yX9_duty, cX9_duty, 8, some .int), false, zw__PT_duty), (zm_PT_tries, (yX9_tries, cX9_tries, 3, some .int), false, zw__PT_tries), (zm_PT_first, (yX9_first, cX9_first, 3, some .int), false, zw__PT_first), (zm_PT_keep, (yX9_keep, cX9_keep, 3, some .int), false, zw__PT_keep), (zm_PT_back, (yX9_back, cX9_back, 2, some .int), false, zw__PT_back), (zm_PT_sheet, (yX9_sheet, cX9_sheet, 4, some .int), false, zw__PT_sheet), (zm_PT_lay, (yX9_lay, cX9_lay, 6, some .int), false, zw__PT_lay), (zm_PT_run, (yX9_run, cX9_run, 8, some .int), false, zw__PT_run), (zm_PT_torn, (yX9_torn, cX9_torn, 1, some .int), false, zw__PT_torn), (zm_PT_count, (yX9_count, cX9_count, 2, some .int), false, zw__PT_count), (zm_PT_isPromise, (yX9_isPromise, cX9_isPromise, 2, some .boolean), false, zw__PT_isPromise), (zm_PT_isTick, (yX9_isTick, cX9_isTick, 2, some .boolean), false, zw__PT_isTick), (zm_PT_isTry, (yX9_isTry, cX9_isTry, 3, some .boolean), false, zw__PT_isTry), (zm_PT_isCondition, (yX9_isCondition, cX9_isCondition, 4, some .boolean), false, zw__PT_isCondition), (zm_PT_isBits, (yX9_isBits, cX9_isBits, 1, some .boolean), false, zw__PT_isBits), (zm_PT_isSide, (yX9_isSide, cX9_isSide, 1, some .boolean), false, zw__PT_isSide), (zm_PT_isVerdict, (yX9_isVerdict, cX9_isVerdict, 1, some .boolean), false, zw__PT_isVerdict), (zm_PT_isImage, (yX9_isImage, cX9_isImage, 1, some .boolean), false, zw__PT_isImage), (zm_PT_isSheet, (yX9_isSheet, cX9_isSheet, 1, some .boolean), false, zw__PT_isSheet), (zm_PT_isLane, (yX9_isLane, cX9_isLane, 1, some .boolean), false, zw__PT_isLane), (zm_PT_nextSeed, (yX9_nextSeed, cX9_nextSeed, 1, some .int), false, zw__PT_nextSeed), (zm_PT_got, (yX9_got, cX9_got, 1, some .int), false, zw__PT_got), (zm_PT_howManyImages, (yX9_howManyImages, cX9_howManyImages, 3, some .int), false, zw__PT_howManyImages), (zm_PT_watchOf, (yX9_watchOf, cX9_watchOf, 3, some (.object "PromiseTries$Watch")), false, zw__PT_watchOf), (zm_PT_watchAnew, (yX9_watchAnew, cX9_watchAnew, 2, none), false, zw__PT_watchAnew), (zm_PT_isFulfilled, (yX9_isFulfilled, cX9_isFulfilled, 3, some .boolean), false, zw__PT_isFulfilled), (zm_PT_howManyFulfil, (yX9_howManyFulfil, cX9_howManyFulfil, 4, some .int), false, zw__PT_howManyFulfil), (zm_Mo_init, (yX10_init, cX10_init, 2, none), true, zw__Mo_init), (zm_Mo_in, (yX10_in, cX10_in, 6, some .boolean), false, zw__Mo_in), (zm_Mo_flag, (yX10_flag, cX10_flag, 1, some .int), false, zw__Mo_flag), (zm_Mo_least, (yX10_least, cX10_least, 2, some .int), false, zw__Mo_least), (zm_Mo_greatest, (yX10_greatest, cX10_greatest, 2, some .int), false, zw__Mo_greatest), (zm_Mo_feed, (yX10_feed, cX10_feed, 2, some .int), false, zw__Mo_feed), (zm_Mo_end, (yX10_end, cX10_end, 3, some .int), false, zw__Mo_end), (zm_Mo_requires, (yX10_requires, cX10_requires, 3, none), false, zw__Mo_requires), (zm_Mo_byteAt, (yX10_byteAt, cX10_byteAt, 2, some .int), false, zw__Mo_byteAt), (zm_Mo_isSignByte, (yX10_isSignByte, cX10_isSignByte, 1, some .boolean), false, zw__Mo_isSignByte), (zm_Mo_reads, (yX10_reads, cX10_reads, 2, none), false, zw__Mo_reads), (zm_Mo_isSign, (yX10_isSign, cX10_isSign, 2, some .boolean), false, zw__Mo_isSign), (zm_Mo_readNumber, (yX10_readNumber, cX10_readNumber, 4, some .int), false, zw__Mo_readNumber), (zm_Mo_nests, (yX10_nests, cX10_nests, 1, none), false, zw__Mo_nests), (zm_Mo_wires, (yX10_wires, cX10_wires, 3, none), false, zw__Mo_wires), (zm_Mo_opensDepth, (yX10_opensDepth, cX10_opensDepth, 1, none), false, zw__Mo_opensDepth), (zm_Mo_joinsAnds, (yX10_joinsAnds, cX10_joinsAnds, 4, none), false, zw__Mo_joinsAnds), (zm_Mo_joinsOrs, (yX10_joinsOrs, cX10_joinsOrs, 2, none), false, zw__Mo_joinsOrs), (zm_Mo_readOperand, (yX10_readOperand, cX10_readOperand, 2, none), false, zw__Mo_readOperand), (zm_Mo_readCondition, (yX10_readCondition, cX10_readCondition, 5, none), false, zw__Mo_readCondition), (zm_Mo_placesNow, (yX10_placesNow, cX10_placesNow, 1, some .int), false, zw__Mo_placesNow), (zm_Mo_takes, (yX10_takes, cX10_takes, 3, none), false, zw__Mo_takes), (zm_Mo_sum, (yX10_sum, cX10_sum, 2, some .int), false, zw__Mo_sum), (zm_Mo_follows, (yX10_follows, cX10_follows, 6, none), false, zw__Mo_follows), (zm_Mo_chains, (yX10_chains, cX10_chains, 3, none), false, zw__Mo_chains), (zm_Mo_chooses, (yX10_chooses, cX10_chooses, 3, none), false, zw__Mo_chooses), (zm_Mo_onePlace, (yX10_onePlace, cX10_onePlace, 5, none), false, zw__Mo_onePlace), (zm_Mo_repeats, (yX10_repeats, cX10_repeats, 17, none), false, zw__Mo_repeats), (zm_Mo_opensSequence, (yX10_opensSequence, cX10_opensSequence, 1, none), false, zw__Mo_opensSequence), (zm_Mo_readBegin, (yX10_readBegin, cX10_readBegin, 1, none), false, zw__Mo_readBegin), (zm_Mo_readTimes, (yX10_readTimes, cX10_readTimes, 3, none), false, zw__Mo_readTimes), (zm_Mo_readEnds, (yX10_readEnds, cX10_readEnds, 2, none), false, zw__Mo_readEnds), (zm_Mo_readSequence, (yX10_readSequence, cX10_readSequence, 3, none), false, zw__Mo_readSequence), (zm_Mo_isFulfillable, (yX10_isFulfillable, cX10_isFulfillable, 6, some .boolean), false, zw__Mo_isFulfillable), (zm_Mo_ends, (yX10_ends, cX10_ends, 8, none), false, zw__Mo_ends), (zm_Mo_isBegin, (yX10_isBegin, cX10_isBegin, 1, some .boolean), false, zw__Mo_isBegin), (zm_Mo_readPromise, (yX10_readPromise, cX10_readPromise, 6, none), false, zw__Mo_readPromise), (zm_Mo_text, (yX10_text, cX10_text, 3, some .int), false, zw__Mo_text), (zm_Mo_fault, (yX10_fault, cX10_fault, 1, some .int), false, zw__Mo_fault), (zm_Mo_isPromise, (yX10_isPromise, cX10_isPromise, 2, some .boolean), false, zw__Mo_isPromise), (zm_Mo_isSide, (yX10_isSide, cX10_isSide, 1, some .boolean), false, zw__Mo_isSide), (zm_Mo_areBits, (yX10_areBits, cX10_areBits, 1, some .boolean), false, zw__Mo_areBits), (zm_Mo_fulfilsOne, (yX10_fulfilsOne, cX10_fulfilsOne, 4, some .boolean), false, zw__Mo_fulfilsOne), (zm_Mo_fulfilsOff, (yX10_fulfilsOff, cX10_fulfilsOff, 3, some .boolean), false, zw__Mo_fulfilsOff), (zm_Mo_findsFulfilling, (yX10_findsFulfilling, cX10_findsFulfilling, 8, none), false, zw__Mo_findsFulfilling), (zm_Mo_nextOf, (yX10_nextOf, cX10_nextOf, 7, some .long), false, zw__Mo_nextOf), (zm_Mo_firstOf, (yX10_firstOf, cX10_firstOf, 2, some .long), false, zw__Mo_firstOf), (zm_Mo_isEnd, (yX10_isEnd, cX10_isEnd, 4, some .boolean), false, zw__Mo_isEnd), (zm_Mo_canEnd, (yX10_canEnd, cX10_canEnd, 4, some .boolean), false, zw__Mo_canEnd), (zm_Mo_isConditionAsked, (yX10_isConditionAsked, cX10_isConditionAsked, 4, some .boolean), false, zw__Mo_isConditionAsked), (zm_Mo_fulfils, (yX10_fulfils, cX10_fulfils, 5, some .int), false, zw__Mo_fulfils), (zm_Mo_fulfilled, (yX10_fulfilled, cX10_fulfilled, 6, some .int), false, zw__Mo_fulfilled), (zm_Mo_matches, (yX10_matches, cX10_matches, 8, some .int), false, zw__Mo_matches), (zm_Mo_might, (yX10_might, cX10_might, 7, some .int), false, zw__Mo_might), (zm_Mo_promise, (yX10_promise, cX10_promise, 4, some .int), false, zw__Mo_promise), (zm_Mo_goesOn, (yX10_goesOn, cX10_goesOn, 7, none), false, zw__Mo_goesOn), (zm_Mo_dies, (yX10_dies, cX10_dies, 4, none), false, zw__Mo_dies), (zm_Mo_begins, (yX10_begins, cX10_begins, 3, none), false, zw__Mo_begins), (zm_Mo_isAny, (yX10_isAny, cX10_isAny, 6, some .boolean), false, zw__Mo_isAny), (zm_Mo_goesThrough, (yX10_goesThrough, cX10_goesThrough, 9, none), false, zw__Mo_goesThrough), (zm_Mo_verdictBy, (yX10_verdictBy, cX10_verdictBy, 6, some .int), false, zw__Mo_verdictBy), (zm_Mo_isTick, (yX10_isTick, cX10_isTick, 2, some .boolean), false, zw__Mo_isTick), (zm_Mo_isTry, (yX10_isTry, cX10_isTry, 3, some .boolean), false, zw__Mo_isTry), (zm_Mo_dutiesFrom, (yX10_dutiesFrom, cX10_dutiesFrom, 4, some .int), false, zw__Mo_dutiesFrom), (zm_Mo_verdict, (yX10_verdict, cX10_verdict, 3, some .int), false, zw__Mo_verdict), (zm_Mo_decided, (yX10_decided, cX10_decided, 3, some .int), false, zw__Mo_decided), (zm_Mo_duties, (yX10_duties, cX10_duties, 3, some .int), false, zw__Mo_duties), (zm_Mo_duty, (yX10_duty, cX10_duty, 7, some .int), false, zw__Mo_duty), (zm_Mo_triesOf, (yX10_triesOf, cX10_triesOf, 5, some .int), false, zw__Mo_triesOf), (zm_Mo_tries, (yX10_tries, cX10_tries, 3, some .int), false, zw__Mo_tries), (zm_Mo_first, (yX10_first, cX10_first, 4, some .int), false, zw__Mo_first), (zm_Mo_allDuties, (yX10_allDuties, cX10_allDuties, 4, some .int), false, zw__Mo_allDuties), (zm_Mo_allTries, (yX10_allTries, cX10_allTries, 4, some .int), false, zw__Mo_allTries), (zm_Mo_rule, (yX10_rule, cX10_rule, 2, some .int), false, zw__Mo_rule), (zm_Mo_failedBy, (yX10_failedBy, cX10_failedBy, 5, some .int), false, zw__Mo_failedBy), (zm_Mo_tick, (yX10_tick, cX10_tick, 2, some .int), false, zw__Mo_tick), (zm_Mo_bits, (yX10_bits, cX10_bits, 2, some .int), false, zw__Mo_bits), (zm_Mo_put, (yX10_put, cX10_put, 4, some .int), false, zw__Mo_put), (zm_Mo_keeps, (yX10_keeps, cX10_keeps, 3, some .int), false, zw__Mo_keeps), (zm_Mo_gets, (yX10_gets, cX10_gets, 1, some .int), false, zw__Mo_gets), (zm_Mo_draw, (yX10_draw, cX10_draw, 5, some .int), false, zw__Mo_draw), (zm_Mo_keep, (yX10_keep, cX10_keep, 4, some .int), false, zw__Mo_keep), (zm_Mo_back, (yX10_back, cX10_back, 3, some .int), false, zw__Mo_back), (zm_Mo_isSheet, (yX10_isSheet, cX10_isSheet, 2, some .boolean), false, zw__Mo_isSheet), (zm_Mo_sheet, (yX10_sheet, cX10_sheet, 5, some .int), false, zw__Mo_sheet), (zm_Mo_lay, (yX10_lay, cX10_lay, 4, some .int), false, zw__Mo_lay), (zm_Mo_run, (yX10_run, cX10_run, 8, some .int), false, zw__Mo_run), (zm_Mo_torn, (yX10_torn, cX10_torn, 1, some .int), false, zw__Mo_torn), (zm_Mo_count, (yX10_count, cX10_count, 2, some .int), false, zw__Mo_count), (zm_JL_bitCount, (yJ13_bitCount_95d88, cJ13_bitCount_95d88, 2, some .int), false, zw__JL_bitCount)]
def zLok (q : zLi) : Prop := q.1.2.2.1.length = q.2.2.2.length ∧ (q.1.2.2.1.zip q.2.2.2).all (fun e => zck q.2.1.1.cls q.2.2.1 q.2.1.2.1 e.1 e.2) = true
set_option maxRecDepth 20000 in
theorem zLl_ok : ∀ q ∈ zLl, zLok q := by
  unfold zLl
  refine List.forall_mem_cons.mpr ⟨zk_Bu_init, ?_⟩
  refine List.forall_mem_cons.mpr ⟨zk_Bu_begin, ?_⟩
  refine List.forall_mem_cons.mpr ⟨zk_Bu_condition, ?_⟩
  refine List.forall_mem_cons.mpr ⟨zk_Bu_chainTwo, ?_⟩
  refine List.forall_mem_cons.mpr ⟨zk_Bu_chooseOfTwo, ?_⟩
  refine List.forall_mem_cons.mpr ⟨zk_Bu_repeat, ?_⟩
  refine List.forall_mem_cons.mpr ⟨zk_Bu_chainCopies, ?_⟩
  refine List.forall_mem_cons.mpr ⟨zk_Bu_finish, ?_⟩
  refine List.forall_mem_cons.mpr ⟨zk_Pl_init, ?_⟩
  refine List.forall_mem_cons.mpr ⟨zk_Pl_sideOf, ?_⟩
  refine List.forall_mem_cons.mpr ⟨zk_Pl_isPutOffBy, ?_⟩
  refine List.forall_mem_cons.mpr ⟨zk_Re_init, ?_⟩
  refine List.forall_mem_cons.mpr ⟨zk_Re_readAll, ?_⟩
  refine List.forall_mem_cons.mpr ⟨zk_Re_readPromise, ?_⟩
  refine List.forall_mem_cons.mpr ⟨zk_Re_readOff, ?_⟩
  refine List.forall_mem_cons.mpr ⟨zk_Re_readChoice, ?_⟩
  refine List.forall_mem_cons.mpr ⟨zk_Re_readChain, ?_⟩
  refine List.forall_mem_cons.mpr ⟨zk_Re_readRepeated, ?_⟩
  refine List.forall_mem_cons.mpr ⟨zk_Re_readNumber, ?_⟩
  refine List.forall_mem_cons.mpr ⟨zk_Re_readPart, ?_⟩
  refine List.forall_mem_cons.mpr ⟨zk_Re_readCondition, ?_⟩
  refine List.forall_mem_cons.mpr ⟨zk_Re_readPlain, ?_⟩
  refine List.forall_mem_cons.mpr ⟨zk_Re_readAnyOf, ?_⟩
  refine List.forall_mem_cons.mpr ⟨zk_Re_readAllOf, ?_⟩
  refine List.forall_mem_cons.mpr ⟨zk_Se_init, ?_⟩
  refine List.forall_mem_cons.mpr ⟨zk_Se_clear, ?_⟩
  refine List.forall_mem_cons.mpr ⟨zk_Se_addCondition, ?_⟩
  refine List.forall_mem_cons.mpr ⟨zk_Se_link, ?_⟩
  refine List.forall_mem_cons.mpr ⟨zk_Se_copyBlock, ?_⟩
  refine List.forall_mem_cons.mpr ⟨zk_Se_findUseful, ?_⟩
  refine List.forall_mem_cons.mpr ⟨zk_Se_openTo, ?_⟩
  refine List.forall_mem_cons.mpr ⟨zk_Se_after, ?_⟩
  refine List.forall_mem_cons.mpr ⟨zk_Se_walk, ?_⟩
  refine List.forall_mem_cons.mpr ⟨zk_Se_hasEnded, ?_⟩
  refine List.forall_mem_cons.mpr ⟨zk_Se_goesOn, ?_⟩
  refine List.forall_mem_cons.mpr ⟨zk_Sh_init, ?_⟩
  refine List.forall_mem_cons.mpr ⟨zk_Sh_renew, ?_⟩
  refine List.forall_mem_cons.mpr ⟨zk_Sh_tearAt, ?_⟩
  refine List.forall_mem_cons.mpr ⟨zk_Sh_setCell, ?_⟩
  refine List.forall_mem_cons.mpr ⟨zk_Ta_init, ?_⟩
  refine List.forall_mem_cons.mpr ⟨zk_Ta_begin, ?_⟩
  refine List.forall_mem_cons.mpr ⟨zk_Ta_refuse, ?_⟩
  refine List.forall_mem_cons.mpr ⟨zk_Ta_advance, ?_⟩
  refine List.forall_mem_cons.mpr ⟨zk_Ta_advanceNumber, ?_⟩
  refine List.forall_mem_cons.mpr ⟨zk_Ta_isFigure, ?_⟩
  refine List.forall_mem_cons.mpr ⟨zk_Ta_isSign, ?_⟩
  refine List.forall_mem_cons.mpr ⟨zk_Ta_beginsSequence, ?_⟩
  refine List.forall_mem_cons.mpr ⟨zk_Tr_init, ?_⟩
  refine List.forall_mem_cons.mpr ⟨zk_Tr_add, ?_⟩
  refine List.forall_mem_cons.mpr ⟨zk_Tr_become, ?_⟩
  refine List.forall_mem_cons.mpr ⟨zk_TS_init, ?_⟩
  refine List.forall_mem_cons.mpr ⟨zk_TS_clear, ?_⟩
  refine List.forall_mem_cons.mpr ⟨zk_TS_pushWire, ?_⟩
  refine List.forall_mem_cons.mpr ⟨zk_TS_wordOfWire, ?_⟩
  refine List.forall_mem_cons.mpr ⟨zk_TS_negate, ?_⟩
  refine List.forall_mem_cons.mpr ⟨zk_TS_joinTwo, ?_⟩
  refine List.forall_mem_cons.mpr ⟨zk_TS_drop, ?_⟩
  refine List.forall_mem_cons.mpr ⟨zk_TS_moveTop, ?_⟩
  refine List.forall_mem_cons.mpr ⟨zk_Wa_init, ?_⟩
  refine List.forall_mem_cons.mpr ⟨zk_Wa_restart, ?_⟩
  refine List.forall_mem_cons.mpr ⟨zk_Wa_catchUp, ?_⟩
  refine List.forall_mem_cons.mpr ⟨zk_Wa_takeIn, ?_⟩
  refine List.forall_mem_cons.mpr ⟨zk_Wa_moveDuties, ?_⟩
  refine List.forall_mem_cons.mpr ⟨zk_Wa_moveTries, ?_⟩
  refine List.forall_mem_cons.mpr ⟨zk_Wa_beginDuty, ?_⟩
  refine List.forall_mem_cons.mpr ⟨zk_Wa_settleDuty, ?_⟩
  refine List.forall_mem_cons.mpr ⟨zk_Wa_judgeTries, ?_⟩
  refine List.forall_mem_cons.mpr ⟨zk_Wa_judge, ?_⟩
  refine List.forall_mem_cons.mpr ⟨zk_Wa_howMany, ?_⟩
  refine List.forall_mem_cons.mpr ⟨zk_Wa_earliest, ?_⟩
  refine List.forall_mem_cons.mpr ⟨zk_Wa_failedBy, ?_⟩
  refine List.forall_mem_cons.mpr ⟨zk_Wa_allDuties, ?_⟩
  refine List.forall_mem_cons.mpr ⟨zk_Wa_dutyTick, ?_⟩
  refine List.forall_mem_cons.mpr ⟨zk_Wa_dutyState, ?_⟩
  refine List.forall_mem_cons.mpr ⟨zk_PT_init, ?_⟩
  refine List.forall_mem_cons.mpr ⟨zk_PT_feed, ?_⟩
  refine List.forall_mem_cons.mpr ⟨zk_PT_end, ?_⟩
  refine List.forall_mem_cons.mpr ⟨zk_PT_text, ?_⟩
  refine List.forall_mem_cons.mpr ⟨zk_PT_fault, ?_⟩
  refine List.forall_mem_cons.mpr ⟨zk_PT_rule, ?_⟩
  refine List.forall_mem_cons.mpr ⟨zk_PT_promise, ?_⟩
  refine List.forall_mem_cons.mpr ⟨zk_PT_fulfils, ?_⟩
  refine List.forall_mem_cons.mpr ⟨zk_PT_fulfilled, ?_⟩
  refine List.forall_mem_cons.mpr ⟨zk_PT_matches, ?_⟩
  refine List.forall_mem_cons.mpr ⟨zk_PT_might, ?_⟩
  refine List.forall_mem_cons.mpr ⟨zk_PT_tick, ?_⟩
  refine List.forall_mem_cons.mpr ⟨zk_PT_bits, ?_⟩
  refine List.forall_mem_cons.mpr ⟨zk_PT_put, ?_⟩
  refine List.forall_mem_cons.mpr ⟨zk_PT_keeps, ?_⟩
  refine List.forall_mem_cons.mpr ⟨zk_PT_draw, ?_⟩
  refine List.forall_mem_cons.mpr ⟨zk_PT_verdict, ?_⟩
  refine List.forall_mem_cons.mpr ⟨zk_PT_decided, ?_⟩
  refine List.forall_mem_cons.mpr ⟨zk_PT_duties, ?_⟩
  refine List.forall_mem_cons.mpr ⟨zk_PT_duty, ?_⟩
  refine List.forall_mem_cons.mpr ⟨zk_PT_tries, ?_⟩
  refine List.forall_mem_cons.mpr ⟨zk_PT_first, ?_⟩
  refine List.forall_mem_cons.mpr ⟨zk_PT_keep, ?_⟩
  refine List.forall_mem_cons.mpr ⟨zk_PT_back, ?_⟩
  refine List.forall_mem_cons.mpr ⟨zk_PT_sheet, ?_⟩
  refine List.forall_mem_cons.mpr ⟨zk_PT_lay, ?_⟩
  refine List.forall_mem_cons.mpr ⟨zk_PT_run, ?_⟩
  refine List.forall_mem_cons.mpr ⟨zk_PT_torn, ?_⟩
  refine List.forall_mem_cons.mpr ⟨zk_PT_count, ?_⟩
  refine List.forall_mem_cons.mpr ⟨zk_PT_isPromise, ?_⟩
  refine List.forall_mem_cons.mpr ⟨zk_PT_isTick, ?_⟩
  refine List.forall_mem_cons.mpr ⟨zk_PT_isTry, ?_⟩
  refine List.forall_mem_cons.mpr ⟨zk_PT_isCondition, ?_⟩
  refine List.forall_mem_cons.mpr ⟨zk_PT_isBits, ?_⟩
  refine List.forall_mem_cons.mpr ⟨zk_PT_isSide, ?_⟩
  refine List.forall_mem_cons.mpr ⟨zk_PT_isVerdict, ?_⟩
  refine List.forall_mem_cons.mpr ⟨zk_PT_isImage, ?_⟩
  refine List.forall_mem_cons.mpr ⟨zk_PT_isSheet, ?_⟩
  refine List.forall_mem_cons.mpr ⟨zk_PT_isLane, ?_⟩
  refine List.forall_mem_cons.mpr ⟨zk_PT_nextSeed, ?_⟩
  refine List.forall_mem_cons.mpr ⟨zk_PT_got, ?_⟩
  refine List.forall_mem_cons.mpr ⟨zk_PT_howManyImages, ?_⟩
  refine List.forall_mem_cons.mpr ⟨zk_PT_watchOf, ?_⟩
  refine List.forall_mem_cons.mpr ⟨zk_PT_watchAnew, ?_⟩
  refine List.forall_mem_cons.mpr ⟨zk_PT_isFulfilled, ?_⟩
  refine List.forall_mem_cons.mpr ⟨zk_PT_howManyFulfil, ?_⟩
  refine List.forall_mem_cons.mpr ⟨zk_Mo_init, ?_⟩
  refine List.forall_mem_cons.mpr ⟨zk_Mo_in, ?_⟩
  refine List.forall_mem_cons.mpr ⟨zk_Mo_flag, ?_⟩
  refine List.forall_mem_cons.mpr ⟨zk_Mo_least, ?_⟩
  refine List.forall_mem_cons.mpr ⟨zk_Mo_greatest, ?_⟩
  refine List.forall_mem_cons.mpr ⟨zk_Mo_feed, ?_⟩
  refine List.forall_mem_cons.mpr ⟨zk_Mo_end, ?_⟩
  refine List.forall_mem_cons.mpr ⟨zk_Mo_requires, ?_⟩
  refine List.forall_mem_cons.mpr ⟨zk_Mo_byteAt, ?_⟩
  refine List.forall_mem_cons.mpr ⟨zk_Mo_isSignByte, ?_⟩
  refine List.forall_mem_cons.mpr ⟨zk_Mo_reads, ?_⟩
  refine List.forall_mem_cons.mpr ⟨zk_Mo_isSign, ?_⟩
  refine List.forall_mem_cons.mpr ⟨zk_Mo_readNumber, ?_⟩
  refine List.forall_mem_cons.mpr ⟨zk_Mo_nests, ?_⟩
  refine List.forall_mem_cons.mpr ⟨zk_Mo_wires, ?_⟩
  refine List.forall_mem_cons.mpr ⟨zk_Mo_opensDepth, ?_⟩
  refine List.forall_mem_cons.mpr ⟨zk_Mo_joinsAnds, ?_⟩
  refine List.forall_mem_cons.mpr ⟨zk_Mo_joinsOrs, ?_⟩
  refine List.forall_mem_cons.mpr ⟨zk_Mo_readOperand, ?_⟩
  refine List.forall_mem_cons.mpr ⟨zk_Mo_readCondition, ?_⟩
  refine List.forall_mem_cons.mpr ⟨zk_Mo_placesNow, ?_⟩
  refine List.forall_mem_cons.mpr ⟨zk_Mo_takes, ?_⟩
  refine List.forall_mem_cons.mpr ⟨zk_Mo_sum, ?_⟩
  refine List.forall_mem_cons.mpr ⟨zk_Mo_follows, ?_⟩
  refine List.forall_mem_cons.mpr ⟨zk_Mo_chains, ?_⟩
  refine List.forall_mem_cons.mpr ⟨zk_Mo_chooses, ?_⟩
  refine List.forall_mem_cons.mpr ⟨zk_Mo_onePlace, ?_⟩
  refine List.forall_mem_cons.mpr ⟨zk_Mo_repeats, ?_⟩
  refine List.forall_mem_cons.mpr ⟨zk_Mo_opensSequence, ?_⟩
  refine List.forall_mem_cons.mpr ⟨zk_Mo_readBegin, ?_⟩
  refine List.forall_mem_cons.mpr ⟨zk_Mo_readTimes, ?_⟩
  refine List.forall_mem_cons.mpr ⟨zk_Mo_readEnds, ?_⟩
  refine List.forall_mem_cons.mpr ⟨zk_Mo_readSequence, ?_⟩
  refine List.forall_mem_cons.mpr ⟨zk_Mo_isFulfillable, ?_⟩
  refine List.forall_mem_cons.mpr ⟨zk_Mo_ends, ?_⟩
  refine List.forall_mem_cons.mpr ⟨zk_Mo_isBegin, ?_⟩
  refine List.forall_mem_cons.mpr ⟨zk_Mo_readPromise, ?_⟩
  refine List.forall_mem_cons.mpr ⟨zk_Mo_text, ?_⟩
  refine List.forall_mem_cons.mpr ⟨zk_Mo_fault, ?_⟩
  refine List.forall_mem_cons.mpr ⟨zk_Mo_isPromise, ?_⟩
  refine List.forall_mem_cons.mpr ⟨zk_Mo_isSide, ?_⟩
  refine List.forall_mem_cons.mpr ⟨zk_Mo_areBits, ?_⟩
  refine List.forall_mem_cons.mpr ⟨zk_Mo_fulfilsOne, ?_⟩
  refine List.forall_mem_cons.mpr ⟨zk_Mo_fulfilsOff, ?_⟩
  refine List.forall_mem_cons.mpr ⟨zk_Mo_findsFulfilling, ?_⟩
  refine List.forall_mem_cons.mpr ⟨zk_Mo_nextOf, ?_⟩
  refine List.forall_mem_cons.mpr ⟨zk_Mo_firstOf, ?_⟩
  refine List.forall_mem_cons.mpr ⟨zk_Mo_isEnd, ?_⟩
  refine List.forall_mem_cons.mpr ⟨zk_Mo_canEnd, ?_⟩
  refine List.forall_mem_cons.mpr ⟨zk_Mo_isConditionAsked, ?_⟩
  refine List.forall_mem_cons.mpr ⟨zk_Mo_fulfils, ?_⟩
  refine List.forall_mem_cons.mpr ⟨zk_Mo_fulfilled, ?_⟩
  refine List.forall_mem_cons.mpr ⟨zk_Mo_matches, ?_⟩
  refine List.forall_mem_cons.mpr ⟨zk_Mo_might, ?_⟩
  refine List.forall_mem_cons.mpr ⟨zk_Mo_promise, ?_⟩
  refine List.forall_mem_cons.mpr ⟨zk_Mo_goesOn, ?_⟩
  refine List.forall_mem_cons.mpr ⟨zk_Mo_dies, ?_⟩
  refine List.forall_mem_cons.mpr ⟨zk_Mo_begins, ?_⟩
  refine List.forall_mem_cons.mpr ⟨zk_Mo_isAny, ?_⟩
  refine List.forall_mem_cons.mpr ⟨zk_Mo_goesThrough, ?_⟩
  refine List.forall_mem_cons.mpr ⟨zk_Mo_verdictBy, ?_⟩
  refine List.forall_mem_cons.mpr ⟨zk_Mo_isTick, ?_⟩
  refine List.forall_mem_cons.mpr ⟨zk_Mo_isTry, ?_⟩
  refine List.forall_mem_cons.mpr ⟨zk_Mo_dutiesFrom, ?_⟩
  refine List.forall_mem_cons.mpr ⟨zk_Mo_verdict, ?_⟩
  refine List.forall_mem_cons.mpr ⟨zk_Mo_decided, ?_⟩
  refine List.forall_mem_cons.mpr ⟨zk_Mo_duties, ?_⟩
  refine List.forall_mem_cons.mpr ⟨zk_Mo_duty, ?_⟩
  refine List.forall_mem_cons.mpr ⟨zk_Mo_triesOf, ?_⟩
  refine List.forall_mem_cons.mpr ⟨zk_Mo_tries, ?_⟩
  refine List.forall_mem_cons.mpr ⟨zk_Mo_first, ?_⟩
  refine List.forall_mem_cons.mpr ⟨zk_Mo_allDuties, ?_⟩
  refine List.forall_mem_cons.mpr ⟨zk_Mo_allTries, ?_⟩
  refine List.forall_mem_cons.mpr ⟨zk_Mo_rule, ?_⟩
  refine List.forall_mem_cons.mpr ⟨zk_Mo_failedBy, ?_⟩
  refine List.forall_mem_cons.mpr ⟨zk_Mo_tick, ?_⟩
  refine List.forall_mem_cons.mpr ⟨zk_Mo_bits, ?_⟩
  refine List.forall_mem_cons.mpr ⟨zk_Mo_put, ?_⟩
  refine List.forall_mem_cons.mpr ⟨zk_Mo_keeps, ?_⟩
  refine List.forall_mem_cons.mpr ⟨zk_Mo_gets, ?_⟩
  refine List.forall_mem_cons.mpr ⟨zk_Mo_draw, ?_⟩
  refine List.forall_mem_cons.mpr ⟨zk_Mo_keep, ?_⟩
  refine List.forall_mem_cons.mpr ⟨zk_Mo_back, ?_⟩
  refine List.forall_mem_cons.mpr ⟨zk_Mo_isSheet, ?_⟩
  refine List.forall_mem_cons.mpr ⟨zk_Mo_sheet, ?_⟩
  refine List.forall_mem_cons.mpr ⟨zk_Mo_lay, ?_⟩
  refine List.forall_mem_cons.mpr ⟨zk_Mo_run, ?_⟩
  refine List.forall_mem_cons.mpr ⟨zk_Mo_torn, ?_⟩
  refine List.forall_mem_cons.mpr ⟨zk_Mo_count, ?_⟩
  refine List.forall_mem_cons.mpr ⟨zk_JL_bitCount, ?_⟩
  exact fun _ h => absurd h List.not_mem_nil
set_option maxRecDepth 20000 in
theorem zLl_T : zLl.map (fun q => q.1) ++ [zm_La_law] = zTl := rfl
set_option maxRecDepth 20000 in
theorem zLl_N : zLl.map (fun q => q.2.1) = zNl := rfl
set_option maxRecDepth 20000 in
theorem zLl_i : zLl.all (fun q => !q.2.2.1 || decide (q.2.1.1.name = "<init>")) = true := by decide +kernel
set_option maxRecDepth 20000 in
theorem zLl_a : zLl.all (fun q => !(decide (q.2.1.1.name = "<init>")) || decide (zat q.1.2.2.1 0 = some (.aload_n 0, 1, []))) = true := by decide +kernel
theorem zLl_len : zLl.length = 210 := by decide +kernel
theorem zLl_at {y : Nat} (h : y < 210) : ∃ q ∈ zLl, zT y = q.1 ∧ zNm y = q.2.1 := by
  have hl : y < zLl.length := by rw [zLl_len]; exact h
  refine ⟨zLl[y], List.getElem_mem hl, ?_, ?_⟩
  · unfold zT
    rw [← zLl_T, List.getD_eq_getElem?_getD, List.getElem?_append_left (by rw [List.length_map]; exact hl), List.getElem?_map, List.getElem?_eq_getElem hl]
    rfl
  · unfold zNm
    rw [← zLl_N, List.getD_eq_getElem?_getD, List.getElem?_map, List.getElem?_eq_getElem hl]
    rfl
theorem zat_mem : ∀ {C : List zC} {pc : Nat} {q : Instr × Nat × List Nat}, zat C pc = some q → (pc, q) ∈ C
  | [], _, _, h => by cases h
  | e :: C, pc, q, h => by
    unfold zat at h
    split at h
    · rename_i hb
      have he : e.1 = pc := Nat.eq_of_beq_eq_true hb
      cases h
      rw [← he]
      exact List.mem_cons_self
    · exact List.mem_cons_of_mem _ (zat_mem h)
theorem zzip_mem {α β : Type} : ∀ {a : List α} {b : List β} {x : α}, a.length = b.length → x ∈ a → ∃ y, (x, y) ∈ a.zip b
  | [], _, _, _, h => absurd h List.not_mem_nil
  | _ :: _, [], _, h, _ => by simp at h
  | a :: as, b :: bs, x, h, hx => by
    rcases List.mem_cons.mp hx with rfl | hx
    · exact ⟨b, by simp⟩
    · obtain ⟨y, hy⟩ := zzip_mem (a := as) (b := bs) (by simpa using h) hx
      exact ⟨y, by simp [hy]⟩
theorem zck_of {C : List zC} {zw : List (List Nat)} {f : zC → List Nat → Bool} (h : C.length = zw.length ∧ (C.zip zw).all (fun e => f e.1 e.2) = true) {pc : Nat} {q : Instr × Nat × List Nat} (hq : zat C pc = some q) : ∃ w, f (pc, q) w = true := by
  obtain ⟨w, hw⟩ := zzip_mem h.1 (zat_mem hq)
  exact ⟨w, List.all_eq_true.mp h.2 _ hw⟩
section ZRUN
variable {p : Program} {l : Launch} {e : Env} {R : Room} {s : State} {m : MethodId} {args : Array Value} {below : List Frame} {meth : Method} {c : Code} {Q : State → Prop}
variable {cc : ByteArray} {nL : Nat} {D : va_G} {t0 b0 base : Nat} {own : String} {M' : zM} {d : Nat} {E : zE0} {rv : Option Value}
theorem zsim_run (cx : zCx D t0 base p s m c own cc nL) (hM : zMet l d E) (hEok : zEok E) (hEs : zEs E) (hfr : d + 1 ≤ R.frames) (hlo : 64 * (d + 1) ≤ R.locals) {CF SF : Nat} (hCF : CF ≤ R.cells) (hSF : SF ≤ R.slots) {ini : Bool} (hini : ini = true → meth.name = "<init>") {y : Nat} (hck : ∀ pc q, zat (zT y).2.2.1 pc = some q → ∃ w, zck own ini cc (pc, q) w = true)
    (hR : zEnd p l e R s m args below meth c Q D t0 b0 base CF SF M' cc (zT y).2.1 rv) : ∀ (n pc : Nat) (lv : zLs) (st : List Value) (M : zM) (ls : Array Slot) (H : Heap) (locs : List Loc) (cells slots : Nat), zrun zT E y n pc lv st M = some (rv, M') → zLoc (zad t0 b0 base) ls nL lv → zRep D t0 b0 base s H M → va_S (fun q => base ≤ q) s.heap H locs → zRm CF SF cells slots M M' → W p l e R s m args below meth c H locs cells slots Q (F0 m pc ls (st.map (zv (zad t0 b0 base)))) := by
  intro n
  induction n with
  | zero => intro pc lv st M ls H locs cells slots h; cases h
  | succ n ih =>
    intro pc lv st M ls H locs cells slots h hloc hrep hS hrm
    unfold zrun at h
    split at h
    · cases h
    · rename_i q hq
      obtain ⟨w, hw⟩ := hck pc q hq
      refine zsim_step (K := fun pc' l' st' M1 => zrun zT E y n pc' (zfg (zT y).2.2.2 pc' l') st' M1) cx hM hEok hEs hfr hlo hCF hSF hini (i := q.1) (len := q.2.1) (r := q.2.2) hw (fun pc l st M1 h => zrun_le hEok _ _ _ _ _ _ _ h) ?_ hR hloc hrep hS hrm h
      intro pc' l' st' M1 h' ls' H' locs' cells' slots' hloc' hrep' hS' hrm'
      exact ih _ _ _ _ _ _ _ _ _ h' hloc'.fg hrep' hS' hrm'
end ZRUN
theorem zEs_all : ∀ d, zEs (zE zT d)
  | 0 => fun _ _ _ _ _ _ h => by cases h
  | d + 1 => by
    intro y as M res hy hn h
    obtain ⟨q, hq, hT, hN⟩ := zLl_at hy
    have ha := List.all_eq_true.mp zLl_a q hq
    rw [← hT, ← hN] at ha
    have ha : zat (zT y).2.2.1 0 = some (.aload_n 0, 1, []) := by
      rcases Bool.or_eq_true_iff.mp ha with z | z
      · exfalso
        rw [decide_eq_true hn] at z
        cases z
      · exact of_decide_eq_true z
    obtain ⟨n, hn⟩ := zF_ex (zok_inv h).2
    cases n with
    | zero => cases hn
    | succ n =>
      unfold zrun at hn
      rw [ha] at hn
      obtain ⟨x, hx, -⟩ := zld_r hn
      have hx2 := zpad_get _ _ _ _ hx
      cases as with
      | nil => simp [zent] at hx2
      | cons v vs =>
        have hv : v = .ref x := by
          unfold zent at hx2
          split at hx2
          · simpa using hx2
          · simpa using hx2
        exact ⟨x, vs, by rw [hv]⟩
theorem zrtc_1 {ret : Option FieldType} (h : zrtc 1 ret = true) : ret = some .int := by
  cases ret with
  | none => cases h
  | some t => cases t <;> first | rfl | cases h
theorem zrtc_2 {ret : Option FieldType} (h : zrtc 2 ret = true) : ret = some .boolean := by
  cases ret with
  | none => cases h
  | some t => cases t <;> first | rfl | cases h
theorem zrtc_3 {ret : Option FieldType} (h : zrtc 3 ret = true) : ret = some .long := by
  cases ret with
  | none => cases h
  | some t => cases t <;> first | rfl | cases h
theorem zrtc_4 {ret : Option FieldType} (h : zrtc 4 ret = true) : ∃ C, ret = some (.object C) := by
  cases ret with
  | none => cases h
  | some t => cases t <;> first | exact ⟨_, rfl⟩ | cases h
theorem zrtc_0 {ret : Option FieldType} (h : zrtc 0 ret = true) : ret = none := by
  cases ret with
  | none => rfl
  | some t => cases t <;> cases h
set_option maxHeartbeats 4000000 in
theorem zmet_all (l : Launch) : ∀ d, zMet l d (zE zT d)
  | 0 => fun _ _ _ _ _ _ h => by cases h
  | d + 1 => by
    intro y as M rv M' hy hE D t0 b0 base
    obtain ⟨w, hw⟩ := zmk_at hy
    obtain ⟨hplain, -, -, hmx, -, hrt⟩ := zmk_inv hw
    obtain ⟨q, hq, hT, hN⟩ := zLl_at hy
    have hok := zLl_ok q hq
    have hii := List.all_eq_true.mp zLl_i q hq
    obtain ⟨hble, hF⟩ := zok_inv hE
    obtain ⟨n, hn⟩ := zF_ex hF
    have hle := zE_ok zT (d + 1) _ _ _ _ _ hE
    refine Met.ofW (cc := (zNm y).2.1) (maxL := (zNm y).2.2.1) (ret := (zNm y).2.2.2) hplain rfl ?_
    intro p e s m args below meth c s₁ B hml hv
    obtain ⟨rfl, hrep, hK, hTb, hZ⟩ := hv
    have hlocks := B.notSynchronized
    have hnm : meth.name = (zNm y).1.name := (name_of_methodNamed B.named B.method).1
    have cx : zCx D t0 base p s m c (zNm y).1.cls (zNm y).2.1 (zNm y).2.2.1 := ⟨B.exec, B.bytes, hml, findClass_of_methodNamed B.named, hTb, hK, hZ, hrep.base⟩
    have hloc := zLoc.entry (ad := zad t0 b0 base) (as := as) (n := (zNm y).2.2.1) (by rw [← hmx]; exact Nat.ble_eq.mp hble)
    rw [lg_entry_eq]
    rw [hmx] at hn
    refine zsim_run (R := zRoom (d + 1) M M') (ini := q.2.2.1) (own := (zNm y).1.cls) (cc := (zNm y).2.1) cx (zmet_all l d) (zE_ok zT d) (zEs_all d) (Nat.le_refl (d + 1)) (Nat.le_refl (64 * (d + 1))) (CF := zN M' - zN M) (SF := zsz M' - zsz M) (Nat.le_refl _) (Nat.le_refl _) ?_ ?_ ?_ n 0 _ [] M _ s.heap [] 0 0 hn hloc hrep va_S.rf ⟨hle, by omega, by omega⟩
    · intro hi
      rw [hi] at hii
      rw [hnm, hN]
      exact of_decide_eq_true (by simpa using hii)
    · intro pc q2 hq2
      rw [hT] at hq2
      rw [hN]
      exact zck_of (f := fun e w => zck q.2.1.1.cls q.2.2.1 q.2.1.2.1 e w) hok hq2
    · intro i pc' ls' H' locs' cells' slots' hdg hri hrep' hS' hc hs
      refine W.widen hc hs ?_
      have hq : ∀ t : State, t.heap = H' → s.WarmedH t.vm → zQc D t0 b0 base rv M' ((as.map (zv (zad t0 b0 base))).toArray) s (.returned (rv.map (zv (zad t0 b0 base)))) t := by
        intro t ht hW
        refine ⟨rfl, by rw [ht]; exact hrep'.moved hW.alike, by rw [ht]; exact hS'.1, fun q hq => ?_⟩
        rw [ht]
        exact hS'.2.1 q (Nat.lt_of_lt_of_le hq hrep.base) (Nat.not_le.mpr hq)
      have hf : ∀ q ∈ locs', base ≤ q.base := hS'.2.2
      rcases hri with ⟨rfl, x, rfl, hx⟩ | ⟨rfl, h3, x, rfl⟩ | ⟨rfl, h4, a, rfl⟩ | ⟨rfl, h0, rfl⟩
      · rcases hx with h1 | ⟨h2, hx⟩
        · have hr : (zNm y).2.2.2 = some .int := zrtc_1 (by rw [h1] at hrt; exact hrt)
          exact W.iret (v := x) B.exec B.bytes (by rw [B.returns]; exact hr) hq hf hdg hlocks
        · have hr : (zNm y).2.2.2 = some .boolean := zrtc_2 (by rw [h2] at hrt; exact hrt)
          exact W.zret (v := x) (ty := .boolean) B.exec B.bytes (by rw [B.returns]; exact hr) (by rcases hx with rfl | rfl <;> rfl) hq hf hdg hlocks
      · have hr : (zNm y).2.2.2 = some .long := zrtc_3 (by rw [h3] at hrt; exact hrt)
        exact W.lret (v := x) B.exec B.bytes (by rw [B.returns]; exact hr) hq hf hdg hlocks
      · have hr : ∃ C, (zNm y).2.2.2 = some (.object C) := zrtc_4 (by rw [h4] at hrt; exact hrt)
        obtain ⟨C, hr⟩ := hr
        exact W.aret (v := .ref (zad t0 b0 base a)) (rt := .object C) B.exec B.bytes (by rw [B.returns]; exact hr) (Or.inl ⟨C, rfl⟩) (Or.inr ⟨_, rfl⟩) hq hf hdg hlocks
      · have hr : (zNm y).2.2.2 = none := zrtc_0 (by rw [h0] at hrt; exact hrt)
        exact W.vret B.exec B.bytes (by rw [B.returns]; exact hr) hq hf hdg hlocks


def A_init : zY := (yX0_init, cX0_init, 1, none, 0)
def A_hasBody : zY := (yX0_hasBody, cX0_hasBody, 2, some .boolean, 0)
def A_addBody : zY := (yX0_addBody, cX0_addBody, 2, some .int, 0)
def A_kept : zY := (yX0_kept, cX0_kept, 1, some .int, 0)
def A_isUnder : zY := (yX0_isUnder, cX0_isUnder, 5, some .boolean, 0)
def A_start : zY := (yX0_start, cX0_start, 4, some .int, 0)
def A_own : zY := (yX0_own, cX0_own, 4, some .int, 0)
def A_from : zY := (yX0_from, cX0_from, 7, some .int, 0)
def A_run : zY := (yX0_run, cX0_run, 5, some .int, 0)
def C_init : zY := (yX1_init, cX1_init, 2, none, 1)
def C_castInto : zY := (yX1_castInto, cX1_castInto, 10, some .int, 1)
def C_meltDown : zY := (yX1_meltDown, cX1_meltDown, 11, some .int, 1)
def C_moveAll : zY := (yX1_moveAll, cX1_moveAll, 7, some .int, 1)
def C_offAfter : zY := (yX1_offAfter, cX1_offAfter, 8, some .int, 1)
def C_bellIn : zY := (yX1_bellIn, cX1_bellIn, 8, some .int, 1)
def C_otherBell : zY := (yX1_otherBell, cX1_otherBell, 2, some .int, 1)
def C_bestExchange : zY := (yX1_bestExchange, cX1_bestExchange, 8, some .int, 1)
def C_move : zY := (yX1_move, cX1_move, 7, none, 1)
def C_drawYears : zY := (yX1_drawYears, cX1_drawYears, 12, some .int, 1)
def C_drawnOff : zY := (yX1_drawnOff, cX1_drawnOff, 5, some .int, 1)
def C_drawnBroken : zY := (yX1_drawnBroken, cX1_drawnBroken, 3, some .int, 1)
def H_init : zY := (yX2_init, cX2_init, 1, none, 2)
def H_add : zY := (yX2_add, cX2_add, 5, none, 2)
def H_forgetFirst : zY := (yX2_forgetFirst, cX2_forgetFirst, 1, none, 2)
def H_stepBack : zY := (yX2_stepBack, cX2_stepBack, 2, none, 2)
def H_stepOn : zY := (yX2_stepOn, cX2_stepOn, 2, none, 2)
def D_init : zY := (yX3_init, cX3_init, 2, none, 3)
def D_breakVow : zY := (yX3_breakVow, cX3_breakVow, 2, some .int, 3)
def D_keepAgain : zY := (yX3_keepAgain, cX3_keepAgain, 2, some .int, 3)
def D_ringBell : zY := (yX3_ringBell, cX3_ringBell, 4, some .int, 3)
def D_keepImage : zY := (yX3_keepImage, cX3_keepImage, 1, none, 3)
def D_layBack : zY := (yX3_layBack, cX3_layBack, 2, none, 3)
def F_init : zY := (yX4_init, cX4_init, 1, none, 4)
def F_hasBell : zY := (yX4_hasBell, cX4_hasBell, 2, some .boolean, 4)
def F_hasVow : zY := (yX4_hasVow, cX4_hasVow, 2, some .boolean, 4)
def F_isVow : zY := (yX4_isVow, cX4_isVow, 4, some .boolean, 4)
def F_addBell : zY := (yX4_addBell, cX4_addBell, 2, some .int, 4)
def F_addVow : zY := (yX4_addVow, cX4_addVow, 4, some .int, 4)
def F_hasNumber : zY := (yX4_hasNumber, cX4_hasNumber, 3, some .boolean, 4)
def F_allows : zY := (yX4_allows, cX4_allows, 3, some .boolean, 4)
def F_numberOf : zY := (yX4_numberOf, cX4_numberOf, 3, some .int, 4)
def F_setNumber : zY := (yX4_setNumber, cX4_setNumber, 4, none, 4)
def F_rowOf : zY := (yX4_rowOf, cX4_rowOf, 2, some (.array .int), 4)
def F_isKept : zY := (yX4_isKept, cX4_isKept, 3, some .boolean, 4)
def F_daysBroken : zY := (yX4_daysBroken, cX4_daysBroken, 3, some .int, 4)
def F_offIf : zY := (yX4_offIf, cX4_offIf, 6, some .int, 4)
def F_offByVow : zY := (yX4_offByVow, cX4_offByVow, 4, some .int, 4)
def F_offOf : zY := (yX4_offOf, cX4_offOf, 6, some .int, 4)
def F_fillOffs : zY := (yX4_fillOffs, cX4_fillOffs, 6, none, 4)
def F_vowsIn : zY := (yX4_vowsIn, cX4_vowsIn, 4, some .int, 4)
def L_init : zY := (yX5_init, cX5_init, 2, none, 5)
def L_moreBy : zY := (yX5_moreBy, cX5_moreBy, 4, some .int, 5)
def L_nextSet : zY := (yX5_nextSet, cX5_nextSet, 2, some .int, 5)
def L_winBack : zY := (yX5_winBack, cX5_winBack, 6, some .int, 5)
def L_winBackIn : zY := (yX5_winBackIn, cX5_winBackIn, 11, some .int, 5)
def L_unheard : zY := (yX5_unheard, cX5_unheard, 6, some .int, 5)
def L_hear : zY := (yX5_hear, cX5_hear, 11, none, 5)
def L_note : zY := (yX5_note, cX5_note, 4, none, 5)
def L_toldOf : zY := (yX5_toldOf, cX5_toldOf, 3, some .int, 5)
def L_nextToStrike : zY := (yX5_nextToStrike, cX5_nextToStrike, 10, some .int, 5)
def L_firstNotSo : zY := (yX5_firstNotSo, cX5_firstNotSo, 6, some .int, 5)
def L_sinceWhen : zY := (yX5_sinceWhen, cX5_sinceWhen, 11, some .int, 5)
def L_fillLeft : zY := (yX5_fillLeft, cX5_fillLeft, 6, none, 5)
def L_fillDue : zY := (yX5_fillDue, cX5_fillDue, 6, none, 5)
def L_fillAfter : zY := (yX5_fillAfter, cX5_fillAfter, 5, none, 5)
def L_leadKept : zY := (yX5_leadKept, cX5_leadKept, 4, some .int, 5)
def L_isSince : zY := (yX5_isSince, cX5_isSince, 7, some .boolean, 5)
def P_init : zY := (yX6_init, cX6_init, 1, none, 6)
def P_add : zY := (yX6_add, cX6_add, 3, none, 6)
def P_tell : zY := (yX6_tell, cX6_tell, 7, none, 6)
def P_value : zY := (yX6_value, cX6_value, 7, some .int, 6)
def P_toldAs : zY := (yX6_toldAs, cX6_toldAs, 2, some .int, 6)
def P_joined : zY := (yX6_joined, cX6_joined, 3, some .int, 6)
def R_init : zY := (yX7_init, cX7_init, 1, none, 7)
def R_add : zY := (yX7_add, cX7_add, 2, some .boolean, 7)
def R_exchanged : zY := (yX7_exchanged, cX7_exchanged, 3, some (.object "CastWithVows$Program"), 7)
def R_isText : zY := (yX7_isText, cX7_isText, 2, some .boolean, 7)
def R_next : zY := (yX7_next, cX7_next, 1, some .int, 7)
def R_take : zY := (yX7_take, cX7_take, 2, some .boolean, 7)
def R_line : zY := (yX7_line, cX7_line, 3, some .boolean, 7)
def R_either : zY := (yX7_either, cX7_either, 3, some .boolean, 7)
def R_both : zY := (yX7_both, cX7_both, 3, some .boolean, 7)
def R_compared : zY := (yX7_compared, cX7_compared, 3, some .boolean, 7)
def R_sum : zY := (yX7_sum, cX7_sum, 4, some .boolean, 7)
def R_product : zY := (yX7_product, cX7_product, 4, some .boolean, 7)
def R_one : zY := (yX7_one, cX7_one, 4, some .boolean, 7)
def R_opened : zY := (yX7_opened, cX7_opened, 3, some .boolean, 7)
def R_number : zY := (yX7_number, cX7_number, 3, none, 7)
def S_init : zY := (yX8_init, cX8_init, 1, none, 8)
def S_isEmpty : zY := (yX8_isEmpty, cX8_isEmpty, 1, some .boolean, 8)
def S_isRow : zY := (yX8_isRow, cX8_isRow, 1, some .boolean, 8)
def S_isRowOf : zY := (yX8_isRowOf, cX8_isRowOf, 2, some .boolean, 8)
def S_hasPlaces : zY := (yX8_hasPlaces, cX8_hasPlaces, 3, some .boolean, 8)
def S_refusalFor : zY := (yX8_refusalFor, cX8_refusalFor, 2, some .int, 8)
def S_refusalAt : zY := (yX8_refusalAt, cX8_refusalAt, 2, some .int, 8)
def S_clear : zY := (yX8_clear, cX8_clear, 1, none, 8)
def S_hold : zY := (yX8_hold, cX8_hold, 2, none, 8)
def S_lay : zY := (yX8_lay, cX8_lay, 3, none, 8)
def S_narrowed : zY := (yX8_narrowed, cX8_narrowed, 3, some .long, 8)
def O_init : zY := (yX9_init, cX9_init, 2, none, 9)
def O_bellsOff : zY := (yX9_bellsOff, cX9_bellsOff, 3, some .int, 9)
def O_firstOff : zY := (yX9_firstOff, cX9_firstOff, 4, some .int, 9)
def O_vowsBroken : zY := (yX9_vowsBroken, cX9_vowsBroken, 4, some .int, 9)
def O_worstVow : zY := (yX9_worstVow, cX9_worstVow, 7, some .int, 9)
def O_strikeAll : zY := (yX9_strikeAll, cX9_strikeAll, 4, none, 9)
def O_beatsOf : zY := (yX9_beatsOf, cX9_beatsOf, 5, some .int, 9)
def O_purePairs : zY := (yX9_purePairs, cX9_purePairs, 5, some .int, 9)
def O_harshestPair : zY := (yX9_harshestPair, cX9_harshestPair, 6, some .int, 9)
def O_isPairOf : zY := (yX9_isPairOf, cX9_isPairOf, 3, some .boolean, 9)
def O_firstPureDay : zY := (yX9_firstPureDay, cX9_firstPureDay, 5, some .int, 9)
def O_daysOff : zY := (yX9_daysOff, cX9_daysOff, 8, some .int, 9)
def O_faultOf : zY := (yX9_faultOf, cX9_faultOf, 7, some .int, 9)
def O_mostAtFault : zY := (yX9_mostAtFault, cX9_mostAtFault, 7, some .int, 9)
def O_countOff : zY := (yX9_countOff, cX9_countOff, 3, some .int, 9)
def X_init : zY := (yX10_init, cX10_init, 2, none, 10)
def X_bell : zY := (yX10_bell, cX10_bell, 2, some .int, 10)
def X_vow : zY := (yX10_vow, cX10_vow, 3, some .int, 10)
def X_vows : zY := (yX10_vows, cX10_vows, 5, some .int, 10)
def X_mend : zY := (yX10_mend, cX10_mend, 5, some .int, 10)
def X_of : zY := (yX10_of, cX10_of, 3, some .int, 10)
def X_feed : zY := (yX10_feed, cX10_feed, 2, some .int, 10)
def X_law : zY := (yX10_law, cX10_law, 2, some .int, 10)
def X_puts : zY := (yX10_puts, cX10_puts, 3, some .int, 10)
def X_pitch : zY := (yX10_pitch, cX10_pitch, 5, some .int, 10)
def X_town : zY := (yX10_town, cX10_town, 5, some .int, 10)
def X_beats : zY := (yX10_beats, cX10_beats, 5, some .int, 10)
def X_chime : zY := (yX10_chime, cX10_chime, 4, some .int, 10)
def X_days : zY := (yX10_days, cX10_days, 6, some .int, 10)
def X_fault : zY := (yX10_fault, cX10_fault, 5, some .int, 10)
def X_win : zY := (yX10_win, cX10_win, 4, some .int, 10)
def X_silent : zY := (yX10_silent, cX10_silent, 3, some .int, 10)
def X_heard : zY := (yX10_heard, cX10_heard, 5, some .int, 10)
def X_strike : zY := (yX10_strike, cX10_strike, 6, some .int, 10)
def X_judge : zY := (yX10_judge, cX10_judge, 6, some .int, 10)
def X_broke : zY := (yX10_broke, cX10_broke, 7, some .int, 10)
def X_cast : zY := (yX10_cast, cX10_cast, 4, some .int, 10)
def X_melt : zY := (yX10_melt, cX10_melt, 4, some .int, 10)
def X_pairs : zY := (yX10_pairs, cX10_pairs, 2, some .int, 10)
def X_drawn : zY := (yX10_drawn, cX10_drawn, 7, some .int, 10)
def X_breaks : zY := (yX10_breaks, cX10_breaks, 2, some .int, 10)
def X_keeps : zY := (yX10_keeps, cX10_keeps, 2, some .int, 10)
def X_pass : zY := (yX10_pass, cX10_pass, 2, some .int, 10)
def X_ring : zY := (yX10_ring, cX10_ring, 3, some .int, 10)
def X_led : zY := (yX10_led, cX10_led, 2, some .int, 10)
def X_image : zY := (yX10_image, cX10_image, 1, some .int, 10)
def X_back : zY := (yX10_back, cX10_back, 1, some .int, 10)
def X_undo : zY := (yX10_undo, cX10_undo, 1, some .int, 10)
def X_redo : zY := (yX10_redo, cX10_redo, 1, some .int, 10)
def X_body : zY := (yX10_body, cX10_body, 2, some .int, 10)
def X_act : zY := (yX10_act, cX10_act, 4, some .int, 10)
def X_trace : zY := (yX10_trace, cX10_trace, 2, some .int, 10)
def X_keep : zY := (yX10_keep, cX10_keep, 4, some .int, 10)
def X_row : zY := (yX10_row, cX10_row, 5, some .int, 10)
def X_put : zY := (yX10_put, cX10_put, 7, some .int, 10)
def X_element : zY := (yX10_element, cX10_element, 4, some .long, 10)
def X_shift : zY := (yX10_shift, cX10_shift, 8, some .int, 10)
def X_taken : zY := (yX10_taken, cX10_taken, 4, some .int, 10)
def X_count : zY := (yX10_count, cX10_count, 2, some .int, 10)
def X_isWithin : zY := (yX10_isWithin, cX10_isWithin, 2, some .boolean, 10)
def X_isDayHour : zY := (yX10_isDayHour, cX10_isDayHour, 1, some .boolean, 10)
def X_isHourDays : zY := (yX10_isHourDays, cX10_isHourDays, 1, some .boolean, 10)
def X_bit : zY := (yX10_bit, cX10_bit, 1, some .int, 10)
def X_shelfAt : zY := (yX10_shelfAt, cX10_shelfAt, 2, some (.object "CastWithVows$Shelf"), 10)
def X_vowsFrom : zY := (yX10_vowsFrom, cX10_vowsFrom, 12, some .int, 10)
def M_init : zY := (yX11_init, cX11_init, 1, none, 11)
def M_isIn : zY := (yX11_isIn, cX11_isIn, 4, some .boolean, 11)
def M_isBell : zY := (yX11_isBell, cX11_isBell, 2, some .boolean, 11)
def M_isVow : zY := (yX11_isVow, cX11_isVow, 2, some .boolean, 11)
def M_has : zY := (yX11_has, cX11_has, 3, some .boolean, 11)
def M_abs : zY := (yX11_abs, cX11_abs, 2, some .int, 11)
def M_ones : zY := (yX11_ones, cX11_ones, 4, some .int, 11)
def M_bell : zY := (yX11_bell, cX11_bell, 2, some .int, 11)
def M_adds : zY := (yX11_adds, cX11_adds, 4, some .int, 11)
def M_vow : zY := (yX11_vow, cX11_vow, 3, some .int, 11)
def M_vows : zY := (yX11_vows, cX11_vows, 9, some .int, 11)
def M_least : zY := (yX11_least, cX11_least, 2, some .int, 11)
def M_most : zY := (yX11_most, cX11_most, 2, some .int, 11)
def M_isNumber : zY := (yX11_isNumber, cX11_isNumber, 3, some .boolean, 11)
def M_read : zY := (yX11_read, cX11_read, 3, some .int, 11)
def M_write : zY := (yX11_write, cX11_write, 4, none, 11)
def M_drops : zY := (yX11_drops, cX11_drops, 2, none, 11)
def M_mend : zY := (yX11_mend, cX11_mend, 5, some .int, 11)
def M_undo : zY := (yX11_undo, cX11_undo, 1, some .int, 11)
def M_redo : zY := (yX11_redo, cX11_redo, 1, some .int, 11)
def M_of : zY := (yX11_of, cX11_of, 3, some .int, 11)
def M_feed : zY := (yX11_feed, cX11_feed, 2, some .int, 11)
def M_next : zY := (yX11_next, cX11_next, 1, some .int, 11)
def M_isNext : zY := (yX11_isNext, cX11_isNext, 2, some .boolean, 11)
def M_isDigit : zY := (yX11_isDigit, cX11_isDigit, 2, some .boolean, 11)
def M_isName : zY := (yX11_isName, cX11_isName, 2, some .boolean, 11)
def M_readsO : zY := (yX11_readsO, cX11_readsO, 3, none, 11)
def M_readsP : zY := (yX11_readsP, cX11_readsP, 1, none, 11)
def M_readsS : zY := (yX11_readsS, cX11_readsS, 1, none, 11)
def M_readsB : zY := (yX11_readsB, cX11_readsB, 1, none, 11)
def M_readsA : zY := (yX11_readsA, cX11_readsA, 1, none, 11)
def M_readsE : zY := (yX11_readsE, cX11_readsE, 1, none, 11)
def M_readsLine : zY := (yX11_readsLine, cX11_readsLine, 1, none, 11)
def M_law : zY := (yX11_law, cX11_law, 4, some .int, 11)
def M_seen : zY := (yX11_seen, cX11_seen, 1, some .int, 11)
def M_isSeen : zY := (yX11_isSeen, cX11_isSeen, 2, some .boolean, 11)
def M_one : zY := (yX11_one, cX11_one, 2, some .int, 11)
def M_takesO : zY := (yX11_takesO, cX11_takesO, 3, some .int, 11)
def M_takesP : zY := (yX11_takesP, cX11_takesP, 3, some .int, 11)
def M_takesS : zY := (yX11_takesS, cX11_takesS, 2, some .int, 11)
def M_takesB : zY := (yX11_takesB, cX11_takesB, 2, some .int, 11)
def M_takesA : zY := (yX11_takesA, cX11_takesA, 3, some .int, 11)
def M_takesE : zY := (yX11_takesE, cX11_takesE, 3, some .int, 11)
def M_given : zY := (yX11_given, cX11_given, 3, some .int, 11)
def M_isKept : zY := (yX11_isKept, cX11_isKept, 3, some .boolean, 11)
def M_gives : zY := (yX11_gives, cX11_gives, 7, some .int, 11)
def M_putsOn : zY := (yX11_putsOn, cX11_putsOn, 6, some .int, 11)
def M_isTime : zY := (yX11_isTime, cX11_isTime, 2, some .boolean, 11)
def M_puts : zY := (yX11_puts, cX11_puts, 3, some .int, 11)
def M_offOf : zY := (yX11_offOf, cX11_offOf, 6, some .int, 11)
def M_pitch : zY := (yX11_pitch, cX11_pitch, 4, some .int, 11)
def M_manyOff : zY := (yX11_manyOff, cX11_manyOff, 5, some .int, 11)
def M_firstOff : zY := (yX11_firstOff, cX11_firstOff, 4, some .int, 11)
def M_manyBroken : zY := (yX11_manyBroken, cX11_manyBroken, 4, some .int, 11)
def M_putsMost : zY := (yX11_putsMost, cX11_putsMost, 4, some .int, 11)
def M_town : zY := (yX11_town, cX11_town, 3, some .int, 11)
def M_beat : zY := (yX11_beat, cX11_beat, 6, some .int, 11)
def M_beats : zY := (yX11_beats, cX11_beats, 3, some .int, 11)
def M_chime : zY := (yX11_chime, cX11_chime, 10, some .int, 11)
def M_days : zY := (yX11_days, cX11_days, 7, some .int, 11)
def M_faultOf : zY := (yX11_faultOf, cX11_faultOf, 7, some .int, 11)
def M_fault : zY := (yX11_fault, cX11_fault, 5, some .int, 11)
def M_isPure : zY := (yX11_isPure, cX11_isPure, 7, some .boolean, 11)
def M_win : zY := (yX11_win, cX11_win, 7, some .int, 11)
def M_silent : zY := (yX11_silent, cX11_silent, 5, some .int, 11)
def M_isHeardTime : zY := (yX11_isHeardTime, cX11_isHeardTime, 2, some .boolean, 11)
def M_ofBell : zY := (yX11_ofBell, cX11_ofBell, 4, some .int, 11)
def M_givesAll : zY := (yX11_givesAll, cX11_givesAll, 3, none, 11)
def M_pitchBy : zY := (yX11_pitchBy, cX11_pitchBy, 5, some .int, 11)
def M_heard : zY := (yX11_heard, cX11_heard, 11, some .int, 11)
def M_barsOf : zY := (yX11_barsOf, cX11_barsOf, 2, some .int, 11)
def M_isLeft : zY := (yX11_isLeft, cX11_isLeft, 4, some .boolean, 11)
def M_unlike : zY := (yX11_unlike, cX11_unlike, 6, some .int, 11)
def M_strike : zY := (yX11_strike, cX11_strike, 9, some .int, 11)
def M_judged : zY := (yX11_judged, cX11_judged, 6, some .int, 11)
def M_judge : zY := (yX11_judge, cX11_judge, 4, some .int, 11)
def M_tellsBeside : zY := (yX11_tellsBeside, cX11_tellsBeside, 7, none, 11)
def M_isSoWith : zY := (yX11_isSoWith, cX11_isSoWith, 7, some .boolean, 11)
def M_broke : zY := (yX11_broke, cX11_broke, 11, some .int, 11)
def M_cast : zY := (yX11_cast, cX11_cast, 10, some .int, 11)
def M_melts : zY := (yX11_melts, cX11_melts, 8, none, 11)
def M_melt : zY := (yX11_melt, cX11_melt, 4, some .int, 11)
def M_pairs : zY := (yX11_pairs, cX11_pairs, 9, some .int, 11)
def M_drawn : zY := (yX11_drawn, cX11_drawn, 14, some .int, 11)
def M_breaks : zY := (yX11_breaks, cX11_breaks, 2, some .int, 11)
def M_keeps : zY := (yX11_keeps, cX11_keeps, 2, some .int, 11)
def M_pass : zY := (yX11_pass, cX11_pass, 2, some .int, 11)
def M_ring : zY := (yX11_ring, cX11_ring, 4, some .int, 11)
def M_led : zY := (yX11_led, cX11_led, 2, some .int, 11)
def M_image : zY := (yX11_image, cX11_image, 2, some .int, 11)
def M_back : zY := (yX11_back, cX11_back, 2, some .int, 11)
def M_body : zY := (yX11_body, cX11_body, 2, some .int, 11)
def M_runs : zY := (yX11_runs, cX11_runs, 2, none, 11)
def M_above : zY := (yX11_above, cX11_above, 2, some .int, 11)
def M_rings : zY := (yX11_rings, cX11_rings, 4, some .int, 11)
def M_hears : zY := (yX11_hears, cX11_hears, 5, some .int, 11)
def M_doing : zY := (yX11_doing, cX11_doing, 5, some .int, 11)
def M_tells : zY := (yX11_tells, cX11_tells, 5, some .int, 11)
def M_act : zY := (yX11_act, cX11_act, 5, some .int, 11)
def M_trace : zY := (yX11_trace, cX11_trace, 2, some .int, 11)
def M_isShelf : zY := (yX11_isShelf, cX11_isShelf, 2, some .boolean, 11)
def M_intAt : zY := (yX11_intAt, cX11_intAt, 3, some .int, 11)
def M_keep : zY := (yX11_keep, cX11_keep, 3, some .int, 11)
def M_row : zY := (yX11_row, cX11_row, 5, some .int, 11)
def M_barsOfRow : zY := (yX11_barsOfRow, cX11_barsOfRow, 2, some .int, 11)
def M_isElement : zY := (yX11_isElement, cX11_isElement, 3, some .boolean, 11)
def M_put : zY := (yX11_put, cX11_put, 6, some .int, 11)
def M_element : zY := (yX11_element, cX11_element, 3, some .long, 11)
def M_shift : zY := (yX11_shift, cX11_shift, 7, some .int, 11)
def M_taken : zY := (yX11_taken, cX11_taken, 5, some .int, 11)
def M_count : zY := (yX11_count, cX11_count, 2, some .int, 11)
def J_bitCountI : zY := (yJ6_bitCount_0f7a4, cJ6_bitCount_0f7a4, 1, some .int, 15)
def J_absH : zY := (yJ9_abs_0f7a4, cJ9_abs_0f7a4, 1, some .int, 16)
def J_maxH : zY := (yJ9_max_7cf53, cJ9_max_7cf53, 2, some .int, 16)
def J_minH : zY := (yJ9_min_7cf53, cJ9_min_7cf53, 2, some .int, 16)
def J_lengthS : zY := (yJ0_length_8abf5, cJ0_length_8abf5, 1, some .int, 13)
def J_indexOfS : zY := (yJ0_indexOf_0f7a4, cJ0_indexOf_0f7a4, 2, some .int, 13)
def J_indexOfS2 : zY := (yJ0_indexOf_7cf53, cJ0_indexOf_7cf53, 3, some .int, 13)
def J_coderS : zY := (yJ0_coder_7d493, cJ0_coder_7d493, 1, some .byte, 13)
def J_isLatin1S : zY := (yJ0_isLatin1_aae02, cJ0_isLatin1_aae02, 1, some .boolean, 13)
def J_checkBoundsBeginEndS : zY := (yJ0_checkBoundsBeginEnd_23922, cJ0_checkBoundsBeginEnd_23922, 3, none, 13)
def J_canEncodeL : zY := (yJ1_canEncode_9a6ad, cJ1_canEncode_9a6ad, 1, some .boolean, 14)
def J_indexOfL : zY := (yJ1_indexOf_4cfef, cJ1_indexOf_4cfef, 4, some .int, 14)
def J_indexOfCharL : zY := (yJ1_indexOfChar_4cfef, cJ1_indexOfChar_4cfef, 6, some .int, 14)
def J_fillAJ : zY := (yJ7_fill_d0a16, cJ7_fill_d0a16, 5, none, 17)
def J_fillAI : zY := (yJ7_fill_53178, cJ7_fill_53178, 4, none, 17)
def W_law : zY := (yL_law, cL_law, 4, some .boolean, 12)
theorem k0_25 : zlk0 0 25 Lib.Math.min.name 1170 = true := by decide +kernel
theorem k0_31 : zlkV 0 31 A_hasBody 1 1142 1143 1144 110 1145 = true := by decide +kernel
theorem k0_41 : zlkV 0 41 A_own 3 1146 1148 30 110 1149 = true := by decide +kernel
theorem k0_45 : zlkV 0 45 A_from 4 1150 1152 31 110 1153 = true := by decide +kernel
theorem k0_52 : zlkV 0 52 A_run 4 1158 1160 32 110 1161 = true := by decide +kernel
theorem k1_34 : zlkS 1 34 J_fillAI 2 996 793 120 794 = true := by decide +kernel
theorem k1_40 : zlkV 1 40 F_fillOffs 4 997 789 790 102 791 = true := by decide +kernel
theorem k1_46 : zlkS 1 46 O_countOff 1 998 796 105 797 = true := by decide +kernel
theorem k1_52 : zlkV 1 52 F_daysBroken 2 999 744 745 102 746 = true := by decide +kernel
theorem k1_60 : zlkV 1 60 F_offIf 4 1000 749 750 102 751 = true := by decide +kernel
theorem k1_64 : zlkN 1 64 X_bit 1 573 101 574 = true := by decide +kernel
theorem k1_68 : zlkV 1 68 C_moveAll 3 1011 1013 24 107 1014 = true := by decide +kernel
theorem k1_72 : zlkV 1 72 F_vowsIn 1 1015 923 924 102 925 = true := by decide +kernel
theorem k1_76 : zlkV 1 76 C_offAfter 3 1016 1018 25 107 1019 = true := by decide +kernel
theorem k1_79 : zlkV 1 79 C_bellIn 4 1024 1026 26 107 1027 = true := by decide +kernel
theorem k1_88 : zlk0 1 88 arraycopyName 1020 = true := by decide +kernel
theorem k1_94 : zlkS 1 94 C_otherBell 2 1021 1022 107 1023 = true := by decide +kernel
theorem k1_97 : zlkV 1 97 C_move 4 1036 1038 27 107 1039 = true := by decide +kernel
theorem k1_105 : zlkV 1 105 C_drawnOff 1 1049 1051 28 107 1052 = true := by decide +kernel
theorem k1_108 : zlkV 1 108 C_drawnBroken 0 1053 1055 29 107 1056 = true := by decide +kernel
theorem k2_26 : zlkV 2 26 H_forgetFirst 0 556 558 3 109 559 = true := by decide +kernel
theorem k2_32 : zlk0 2 32 arraycopyName 560 = true := by decide +kernel
theorem k2_38 : zlkV 2 38 F_setNumber 3 1117 549 550 102 551 = true := by decide +kernel
theorem k3_32 : zlkV 3 32 F_isKept 2 1065 569 570 102 571 = true := by decide +kernel
theorem k3_44 : zlkV 3 44 F_offOf 3 1086 777 778 102 779 = true := by decide +kernel
theorem k3_48 : zlkN 3 48 X_bit 1 573 101 574 = true := by decide +kernel
theorem k3_68 : zlk0 3 68 arraycopyName 1100 = true := by decide +kernel
theorem k4_50 : zlkV 4 50 F_hasBell 1 486 487 488 102 489 = true := by decide +kernel
theorem k4_54 : zlkN 4 54 X_isWithin 2 491 101 492 = true := by decide +kernel
theorem k4_58 : zlkV 4 58 F_hasVow 1 531 532 533 102 534 = true := by decide +kernel
theorem k4_61 : zlkV 4 61 F_hasNumber 2 543 528 529 102 530 = true := by decide +kernel
theorem k4_64 : zlkV 4 64 F_rowOf 1 544 546 2 102 547 = true := by decide +kernel
theorem k4_68 : zlkV 4 68 F_isKept 2 747 569 570 102 571 = true := by decide +kernel
theorem k4_74 : zlkN 4 74 X_bit 1 573 101 574 = true := by decide +kernel
theorem k4_78 : zlk0 4 78 Lib.Math.max.name 753 = true := by decide +kernel
theorem k4_84 : zlkV 4 84 P_tell 6 754 755 756 103 757 = true := by decide +kernel
theorem k4_88 : zlkV 4 88 P_value 0 758 759 760 103 761 = true := by decide +kernel
theorem k4_92 : zlk0 4 92 Lib.Math.min.name 770 = true := by decide +kernel
theorem k4_95 : zlkV 4 95 F_daysBroken 2 743 744 745 102 746 = true := by decide +kernel
theorem k4_98 : zlkV 4 98 F_offIf 4 748 749 750 102 751 = true := by decide +kernel
theorem k4_102 : zlkS 4 102 J_fillAI 2 792 793 120 794 = true := by decide +kernel
theorem k5_39 : zlkV 5 39 L_winBackIn 3 881 883 16 106 884 = true := by decide +kernel
theorem k5_49 : zlkV 5 49 F_isKept 2 885 569 570 102 571 = true := by decide +kernel
theorem k5_53 : zlkV 5 53 F_offIf 4 886 749 750 102 751 = true := by decide +kernel
theorem k5_57 : zlkV 5 57 F_offByVow 3 887 740 741 102 742 = true := by decide +kernel
theorem k5_60 : zlkV 5 60 F_offOf 3 888 777 778 102 779 = true := by decide +kernel
theorem k5_63 : zlkS 5 63 J_bitCountI 1 889 890 121 891 = true := by decide +kernel
theorem k5_69 : zlkV 5 69 L_moreBy 1 895 897 17 106 898 = true := by decide +kernel
theorem k5_72 : zlkS 5 72 L_nextSet 2 899 900 106 901 = true := by decide +kernel
theorem k5_76 : zlkV 5 76 F_vowsIn 1 922 923 924 102 925 = true := by decide +kernel
theorem k5_79 : zlkS 5 79 J_fillAI 2 926 793 120 794 = true := by decide +kernel
theorem k5_100 : zlkV 5 100 L_note 2 927 929 18 106 930 = true := by decide +kernel
theorem k5_114 : zlkV 5 114 L_hear 5 949 919 920 106 921 = true := by decide +kernel
theorem k5_118 : zlkV 5 118 L_fillLeft 4 966 968 19 106 969 = true := by decide +kernel
theorem k5_122 : zlkV 5 122 L_fillDue 4 970 972 20 106 973 = true := by decide +kernel
theorem k5_126 : zlkV 5 126 L_fillAfter 3 974 976 21 106 977 = true := by decide +kernel
theorem k5_130 : zlkV 5 130 L_leadKept 2 978 980 22 106 981 = true := by decide +kernel
theorem k5_133 : zlkV 5 133 L_isSince 4 982 984 23 106 985 = true := by decide +kernel
theorem k5_137 : zlk0 5 137 Lib.Math.max.name 986 = true := by decide +kernel
theorem k5_142 : zlk0 5 142 Lib.Math.min.name 987 = true := by decide +kernel
theorem k6_28 : zlkV 6 28 P_toldAs 1 762 764 15 103 765 = true := by decide +kernel
theorem k6_32 : zlkN 6 32 X_bit 1 573 101 574 = true := by decide +kernel
theorem k6_38 : zlkS 6 38 P_joined 3 767 768 103 769 = true := by decide +kernel
theorem k7_30 : zlkV 7 30 R_line 0 591 593 4 104 594 = true := by decide +kernel
theorem k7_34 : zlkV 7 34 R_take 1 627 629 13 104 630 = true := by decide +kernel
theorem k7_38 : zlkV 7 38 R_next 0 619 621 11 104 622 = true := by decide +kernel
theorem k7_42 : zlkV 7 42 R_either 1 595 597 5 104 598 = true := by decide +kernel
theorem k7_45 : zlkV 7 45 P_add 2 631 632 633 103 634 = true := by decide +kernel
theorem k7_52 : zlkV 7 52 R_both 1 599 601 6 104 602 = true := by decide +kernel
theorem k7_55 : zlkV 7 55 R_compared 1 603 605 7 104 606 = true := by decide +kernel
theorem k7_58 : zlkV 7 58 R_sum 1 607 609 8 104 610 = true := by decide +kernel
theorem k7_61 : zlkV 7 61 R_product 1 611 613 9 104 614 = true := by decide +kernel
theorem k7_64 : zlkV 7 64 R_one 1 615 617 10 104 618 = true := by decide +kernel
theorem k7_67 : zlkV 7 67 R_opened 2 623 625 12 104 626 = true := by decide +kernel
theorem k7_71 : zlkV 7 71 R_number 0 635 637 14 104 638 = true := by decide +kernel
theorem k8_22 : zlkV 8 22 S_isRow 0 514 515 516 111 517 = true := by decide +kernel
theorem k8_29 : zlkV 8 29 S_isEmpty 0 943 507 508 111 509 = true := by decide +kernel
theorem k8_32 : zlkV 8 32 S_isRowOf 1 944 511 512 111 513 = true := by decide +kernel
theorem k8_36 : zlkV 8 36 S_hasPlaces 2 1204 1205 1206 111 1207 = true := by decide +kernel
theorem k8_40 : zlkV 8 40 S_clear 0 1184 1177 1178 111 1179 = true := by decide +kernel
theorem k8_43 : zlkS 8 43 J_fillAJ 2 1193 1194 120 1195 = true := by decide +kernel
theorem k8_49 : zlkN 8 49 X_bit 1 573 101 574 = true := by decide +kernel
theorem k9_22 : zlkV 9 22 F_fillOffs 4 788 789 790 102 791 = true := by decide +kernel
theorem k9_28 : zlkS 9 28 O_countOff 1 795 796 105 797 = true := by decide +kernel
theorem k9_36 : zlkV 9 36 F_isKept 2 807 569 570 102 571 = true := by decide +kernel
theorem k9_40 : zlkN 9 40 X_bit 1 573 101 574 = true := by decide +kernel
theorem k9_44 : zlkV 9 44 F_offByVow 3 812 740 741 102 742 = true := by decide +kernel
theorem k9_48 : zlk0 9 48 Lib.Math.abs.name 813 = true := by decide +kernel
theorem k9_60 : zlk0 9 60 Lib.Math.min.name 830 = true := by decide +kernel
theorem k9_67 : zlkS 9 67 O_isPairOf 3 839 840 105 841 = true := by decide +kernel
theorem k9_71 : zlkV 9 71 O_beatsOf 2 842 827 828 105 829 = true := by decide +kernel
theorem k9_74 : zlkV 9 74 F_offOf 3 855 777 778 102 779 = true := by decide +kernel
theorem k9_80 : zlkV 9 80 O_faultOf 3 868 869 870 105 871 = true := by decide +kernel
theorem k10_78 : zlkV 10 78 F_addBell 1 474 475 476 102 477 = true := by decide +kernel
theorem k10_82 : zlkV 10 82 F_isVow 3 482 483 484 102 485 = true := by decide +kernel
theorem k10_89 : zlkV 10 89 F_addVow 3 493 494 495 102 496 = true := by decide +kernel
theorem k10_93 : zlkV 10 93 X_shelfAt 1 501 503 0 101 504 = true := by decide +kernel
theorem k10_97 : zlkV 10 97 S_isEmpty 0 506 507 508 111 509 = true := by decide +kernel
theorem k10_101 : zlkV 10 101 S_isRowOf 1 510 511 512 111 513 = true := by decide +kernel
theorem k10_105 : zlkV 10 105 X_vowsFrom 3 518 520 1 101 521 = true := by decide +kernel
theorem k10_109 : zlkV 10 109 F_hasNumber 2 527 528 529 102 530 = true := by decide +kernel
theorem k10_113 : zlkV 10 113 F_allows 2 535 536 537 102 538 = true := by decide +kernel
theorem k10_116 : zlkV 10 116 F_numberOf 2 539 540 541 102 542 = true := by decide +kernel
theorem k10_120 : zlkV 10 120 F_setNumber 3 548 549 550 102 551 = true := by decide +kernel
theorem k10_124 : zlkV 10 124 H_add 4 552 553 554 109 555 = true := by decide +kernel
theorem k10_128 : zlkV 10 128 F_hasVow 1 567 532 533 102 534 = true := by decide +kernel
theorem k10_134 : zlkV 10 134 F_isKept 2 568 569 570 102 571 = true := by decide +kernel
theorem k10_137 : zlkS 10 137 X_bit 1 572 573 101 574 = true := by decide +kernel
theorem k10_141 : zlkV 10 141 R_add 1 579 580 581 104 582 = true := by decide +kernel
theorem k10_146 : zlkV 10 146 R_isText 0 587 588 589 104 590 = true := by decide +kernel
theorem k10_156 : zlkV 10 156 R_exchanged 1 726 727 728 104 729 = true := by decide +kernel
theorem k10_160 : zlkS 10 160 X_isDayHour 1 735 736 101 737 = true := by decide +kernel
theorem k10_164 : zlkV 10 164 F_offByVow 3 739 740 741 102 742 = true := by decide +kernel
theorem k10_167 : zlkV 10 167 F_hasBell 1 775 487 488 102 489 = true := by decide +kernel
theorem k10_170 : zlkS 10 170 X_isWithin 2 505 491 101 492 = true := by decide +kernel
theorem k10_173 : zlkV 10 173 F_offOf 3 776 777 778 102 779 = true := by decide +kernel
theorem k10_180 : zlkV 10 180 O_bellsOff 2 784 785 786 105 787 = true := by decide +kernel
theorem k10_183 : zlkV 10 183 O_firstOff 2 799 800 801 105 802 = true := by decide +kernel
theorem k10_186 : zlkV 10 186 O_vowsBroken 1 803 804 805 105 806 = true := by decide +kernel
theorem k10_189 : zlkV 10 189 O_worstVow 2 808 809 810 105 811 = true := by decide +kernel
theorem k10_192 : zlkV 10 192 O_strikeAll 2 820 821 822 105 823 = true := by decide +kernel
theorem k10_196 : zlk0 10 196 Lib.Math.min.name 824 = true := by decide +kernel
theorem k10_201 : zlk0 10 201 Lib.Math.max.name 825 = true := by decide +kernel
theorem k10_204 : zlkV 10 204 O_beatsOf 2 826 827 828 105 829 = true := by decide +kernel
theorem k10_207 : zlkV 10 207 O_purePairs 1 835 836 837 105 838 = true := by decide +kernel
theorem k10_210 : zlkV 10 210 O_harshestPair 1 843 844 845 105 846 = true := by decide +kernel
theorem k10_213 : zlkV 10 213 O_firstPureDay 3 851 852 853 105 854 = true := by decide +kernel
theorem k10_216 : zlkV 10 216 O_daysOff 4 856 857 858 105 859 = true := by decide +kernel
theorem k10_220 : zlkV 10 220 O_mostAtFault 2 864 865 866 105 867 = true := by decide +kernel
theorem k10_223 : zlkV 10 223 O_faultOf 3 872 869 870 105 871 = true := by decide +kernel
theorem k10_226 : zlkV 10 226 L_winBack 2 877 878 879 106 880 = true := by decide +kernel
theorem k10_229 : zlkS 10 229 J_bitCountI 1 902 890 121 891 = true := by decide +kernel
theorem k10_234 : zlkV 10 234 L_unheard 2 907 908 909 106 910 = true := by decide +kernel
theorem k10_237 : zlkS 10 237 X_isHourDays 1 915 916 101 917 = true := by decide +kernel
theorem k10_240 : zlkV 10 240 L_hear 5 918 919 920 106 921 = true := by decide +kernel
theorem k10_244 : zlkV 10 244 L_toldOf 2 931 932 933 106 934 = true := by decide +kernel
theorem k10_247 : zlkV 10 247 S_refusalFor 1 939 940 941 111 942 = true := by decide +kernel
theorem k10_250 : zlkV 10 250 L_nextToStrike 4 945 946 947 106 948 = true := by decide +kernel
theorem k10_254 : zlkV 10 254 L_firstNotSo 4 954 955 956 106 957 = true := by decide +kernel
theorem k10_257 : zlkV 10 257 L_sinceWhen 5 962 963 964 106 965 = true := by decide +kernel
theorem k10_261 : zlkV 10 261 C_castInto 4 992 993 994 107 995 = true := by decide +kernel
theorem k10_264 : zlkV 10 264 F_vowsIn 1 1006 923 924 102 925 = true := by decide +kernel
theorem k10_270 : zlkV 10 270 C_meltDown 4 1007 1008 1009 107 1010 = true := by decide +kernel
theorem k10_273 : zlkV 10 273 C_bestExchange 2 1032 1033 1034 107 1035 = true := by decide +kernel
theorem k10_276 : zlkV 10 276 C_drawYears 5 1044 1045 1046 107 1047 = true := by decide +kernel
theorem k10_280 : zlkV 10 280 D_breakVow 1 1061 1062 1063 108 1064 = true := by decide +kernel
theorem k10_283 : zlkV 10 283 D_keepAgain 1 1070 1071 1072 108 1073 = true := by decide +kernel
theorem k10_286 : zlkV 10 286 D_ringBell 2 1082 1083 1084 108 1085 = true := by decide +kernel
theorem k10_292 : zlkV 10 292 D_keepImage 0 1096 1097 1098 108 1099 = true := by decide +kernel
theorem k10_299 : zlkV 10 299 D_layBack 0 1105 1106 1107 108 1108 = true := by decide +kernel
theorem k10_304 : zlkV 10 304 H_stepBack 1 1113 1114 1115 109 1116 = true := by decide +kernel
theorem k10_310 : zlkV 10 310 H_stepOn 1 1122 1123 1124 109 1125 = true := by decide +kernel
theorem k10_316 : zlkV 10 316 A_addBody 1 1130 1131 1132 110 1133 = true := by decide +kernel
theorem k10_319 : zlkV 10 319 A_start 3 1138 1139 1140 110 1141 = true := by decide +kernel
theorem k10_322 : zlkV 10 322 A_kept 0 1166 1167 1168 110 1169 = true := by decide +kernel
theorem k10_329 : zlkV 10 329 A_hasBody 1 1175 1143 1144 110 1145 = true := by decide +kernel
theorem k10_332 : zlkV 10 332 S_clear 0 1176 1177 1178 111 1179 = true := by decide +kernel
theorem k10_335 : zlkV 10 335 S_hold 1 1180 1181 1182 111 1183 = true := by decide +kernel
theorem k10_339 : zlkV 10 339 S_lay 2 1189 1190 1191 111 1192 = true := by decide +kernel
theorem k10_342 : zlkV 10 342 S_refusalAt 1 1200 1201 1202 111 1203 = true := by decide +kernel
theorem k10_349 : zlkV 10 349 S_narrowed 1 1208 1209 1210 111 1211 = true := by decide +kernel
theorem k10_357 : zlkV 10 357 S_isRow 0 1222 515 516 111 517 = true := by decide +kernel
theorem k10_363 : zlkV 10 363 S_hasPlaces 2 1223 1205 1206 111 1207 = true := by decide +kernel
theorem k10_366 : zlk0 10 366 arraycopyName 1224 = true := by decide +kernel
theorem k10_375 : zlkV 10 375 A_isUnder 2 1229 1230 1231 110 1232 = true := by decide +kernel
theorem k11_112 : zlkV 11 112 M_isIn 3 1396 1398 33 112 1399 = true := by decide +kernel
theorem k11_116 : zlkV 11 116 M_isBell 1 1404 1406 34 112 1407 = true := by decide +kernel
theorem k11_120 : zlkV 11 120 M_adds 3 1408 1410 35 112 1411 = true := by decide +kernel
theorem k11_124 : zlkV 11 124 M_isShelf 1 1416 1418 36 112 1419 = true := by decide +kernel
theorem k11_127 : zlkV 11 127 M_intAt 2 1420 1422 37 112 1423 = true := by decide +kernel
theorem k11_131 : zlkV 11 131 M_isVow 1 1432 1434 39 112 1435 = true := by decide +kernel
theorem k11_137 : zlkV 11 137 M_isNumber 2 1428 1430 38 112 1431 = true := by decide +kernel
theorem k11_141 : zlkV 11 141 M_least 1 1436 1438 40 112 1439 = true := by decide +kernel
theorem k11_145 : zlkV 11 145 M_most 1 1440 1442 41 112 1443 = true := by decide +kernel
theorem k11_148 : zlkV 11 148 M_read 2 1444 1446 42 112 1447 = true := by decide +kernel
theorem k11_151 : zlkV 11 151 M_drops 0 1448 1450 43 112 1451 = true := by decide +kernel
theorem k11_157 : zlkV 11 157 M_write 3 1452 1454 44 112 1455 = true := by decide +kernel
theorem k11_164 : zlkV 11 164 M_isKept 2 1468 1470 45 112 1471 = true := by decide +kernel
theorem k11_167 : zlkV 11 167 M_one 1 1472 1474 46 112 1475 = true := by decide +kernel
theorem k11_181 : zlkV 11 181 M_next 0 1512 1514 54 112 1515 = true := by decide +kernel
theorem k11_185 : zlkV 11 185 M_isDigit 1 1516 1518 55 112 1519 = true := by decide +kernel
theorem k11_188 : zlkV 11 188 M_isName 1 1520 1522 56 112 1523 = true := by decide +kernel
theorem k11_194 : zlkV 11 194 M_readsE 0 1488 1490 48 112 1491 = true := by decide +kernel
theorem k11_197 : zlkV 11 197 M_isNext 1 1524 1526 57 112 1527 = true := by decide +kernel
theorem k11_201 : zlkV 11 201 M_readsO 0 1508 1510 53 112 1511 = true := by decide +kernel
theorem k11_204 : zlkV 11 204 M_readsP 0 1504 1506 52 112 1507 = true := by decide +kernel
theorem k11_207 : zlkV 11 207 M_readsS 0 1500 1502 51 112 1503 = true := by decide +kernel
theorem k11_210 : zlkV 11 210 M_readsB 0 1496 1498 50 112 1499 = true := by decide +kernel
theorem k11_213 : zlkV 11 213 M_readsA 0 1492 1494 49 112 1495 = true := by decide +kernel
theorem k11_216 : zlkV 11 216 M_readsLine 0 1484 1486 47 112 1487 = true := by decide +kernel
theorem k11_225 : zlkV 11 225 M_seen 0 1572 1574 68 112 1575 = true := by decide +kernel
theorem k11_228 : zlkV 11 228 M_takesO 0 1568 1570 67 112 1571 = true := by decide +kernel
theorem k11_231 : zlkV 11 231 M_takesE 0 1548 1550 62 112 1551 = true := by decide +kernel
theorem k11_234 : zlkV 11 234 M_isSeen 1 1576 1578 69 112 1579 = true := by decide +kernel
theorem k11_237 : zlkV 11 237 M_takesP 0 1564 1566 66 112 1567 = true := by decide +kernel
theorem k11_240 : zlkV 11 240 M_takesS 0 1560 1562 65 112 1563 = true := by decide +kernel
theorem k11_243 : zlkV 11 243 M_takesB 0 1556 1558 64 112 1559 = true := by decide +kernel
theorem k11_246 : zlkV 11 246 M_takesA 0 1552 1554 63 112 1555 = true := by decide +kernel
theorem k11_249 : zlkV 11 249 M_given 0 1544 1546 61 112 1547 = true := by decide +kernel
theorem k11_252 : zlkV 11 252 M_gives 5 1540 1542 60 112 1543 = true := by decide +kernel
theorem k11_256 : zlkV 11 256 M_isTime 1 1532 1534 58 112 1535 = true := by decide +kernel
theorem k11_259 : zlkV 11 259 M_putsOn 4 1536 1538 59 112 1539 = true := by decide +kernel
theorem k11_264 : zlkV 11 264 M_offOf 3 1585 1587 70 112 1588 = true := by decide +kernel
theorem k11_267 : zlkV 11 267 M_puts 2 1609 1529 1530 112 1531 = true := by decide +kernel
theorem k11_270 : zlkV 11 270 M_abs 1 1610 1612 75 112 1613 = true := by decide +kernel
theorem k11_273 : zlkV 11 273 M_manyOff 2 1593 1595 71 112 1596 = true := by decide +kernel
theorem k11_276 : zlkV 11 276 M_firstOff 2 1597 1599 72 112 1600 = true := by decide +kernel
theorem k11_279 : zlkV 11 279 M_manyBroken 1 1601 1603 73 112 1604 = true := by decide +kernel
theorem k11_282 : zlkV 11 282 M_putsMost 1 1605 1607 74 112 1608 = true := by decide +kernel
theorem k11_285 : zlkV 11 285 M_pitch 3 1622 1582 1583 112 1584 = true := by decide +kernel
theorem k11_288 : zlkV 11 288 M_beat 3 1618 1620 76 112 1621 = true := by decide +kernel
theorem k11_291 : zlkV 11 291 M_has 2 1627 1629 77 112 1630 = true := by decide +kernel
theorem k11_294 : zlkV 11 294 M_faultOf 2 1639 1641 78 112 1642 = true := by decide +kernel
theorem k11_297 : zlkV 11 297 M_ones 1 1647 1649 79 112 1650 = true := by decide +kernel
theorem k11_300 : zlkV 11 300 M_isPure 3 1651 1653 80 112 1654 = true := by decide +kernel
theorem k11_303 : zlkV 11 303 M_isHeardTime 1 1663 1665 81 112 1666 = true := by decide +kernel
theorem k11_306 : zlkV 11 306 M_givesAll 1 1667 1669 82 112 1670 = true := by decide +kernel
theorem k11_310 : zlkV 11 310 M_ofBell 1 1671 1673 83 112 1674 = true := by decide +kernel
theorem k11_313 : zlkV 11 313 M_pitchBy 2 1675 1677 84 112 1678 = true := by decide +kernel
theorem k11_316 : zlkV 11 316 M_isLeft 2 1687 1689 86 112 1690 = true := by decide +kernel
theorem k11_319 : zlkV 11 319 M_barsOf 1 1683 1685 85 112 1686 = true := by decide +kernel
theorem k11_322 : zlkV 11 322 M_unlike 2 1691 1693 87 112 1694 = true := by decide +kernel
theorem k11_325 : zlkV 11 325 M_judged 3 1699 1701 88 112 1702 = true := by decide +kernel
theorem k11_328 : zlkV 11 328 M_tellsBeside 4 1707 1709 89 112 1710 = true := by decide +kernel
theorem k11_332 : zlkV 11 332 M_isSoWith 4 1711 1713 90 112 1714 = true := by decide +kernel
theorem k11_339 : zlkV 11 339 M_melts 4 1723 1725 91 112 1726 = true := by decide +kernel
theorem k11_361 : zlkV 11 361 M_runs 1 1776 1778 93 112 1779 = true := by decide +kernel
theorem k11_364 : zlkV 11 364 M_above 1 1780 1782 94 112 1783 = true := by decide +kernel
theorem k11_367 : zlkV 11 367 M_rings 3 1772 1774 92 112 1775 = true := by decide +kernel
theorem k11_370 : zlkV 11 370 M_hears 3 1784 1786 95 112 1787 = true := by decide +kernel
theorem k11_373 : zlkV 11 373 M_doing 3 1788 1790 96 112 1791 = true := by decide +kernel
theorem k11_376 : zlkV 11 376 M_tells 3 1792 1794 97 112 1795 = true := by decide +kernel
theorem k11_379 : zlkV 11 379 M_barsOfRow 1 1812 1814 98 112 1815 = true := by decide +kernel
theorem k11_382 : zlkV 11 382 M_isElement 2 1816 1818 99 112 1819 = true := by decide +kernel
theorem k12_13 : zlkV 12 13 X_bell 1 470 471 472 101 473 = true := by decide +kernel
theorem k12_17 : zlkV 12 17 M_bell 1 1392 1393 1394 112 1395 = true := by decide +kernel
theorem k12_18 : zlkV 12 18 X_vow 2 478 479 480 101 481 = true := by decide +kernel
theorem k12_22 : zlkV 12 22 M_vow 2 1400 1401 1402 112 1403 = true := by decide +kernel
theorem k12_23 : zlkV 12 23 X_vows 3 497 498 499 101 500 = true := by decide +kernel
theorem k12_27 : zlkV 12 27 M_vows 3 1412 1413 1414 112 1415 = true := by decide +kernel
theorem k12_28 : zlkV 12 28 X_mend 3 523 524 525 101 526 = true := by decide +kernel
theorem k12_31 : zlkV 12 31 M_mend 3 1424 1425 1426 112 1427 = true := by decide +kernel
theorem k12_32 : zlkV 12 32 X_of 2 563 564 565 101 566 = true := by decide +kernel
theorem k12_35 : zlkV 12 35 M_of 2 1464 1465 1466 112 1467 = true := by decide +kernel
theorem k12_36 : zlkV 12 36 X_feed 1 575 576 577 101 578 = true := by decide +kernel
theorem k12_39 : zlkV 12 39 M_feed 1 1476 1477 1478 112 1479 = true := by decide +kernel
theorem k12_40 : zlkV 12 40 X_law 0 583 584 585 101 586 = true := by decide +kernel
theorem k12_44 : zlkV 12 44 M_law 0 1480 1481 1482 112 1483 = true := by decide +kernel
theorem k12_45 : zlkV 12 45 X_puts 2 731 732 733 101 734 = true := by decide +kernel
theorem k12_48 : zlkV 12 48 M_puts 2 1528 1529 1530 112 1531 = true := by decide +kernel
theorem k12_49 : zlkV 12 49 X_pitch 3 771 772 773 101 774 = true := by decide +kernel
theorem k12_52 : zlkV 12 52 M_pitch 3 1581 1582 1583 112 1584 = true := by decide +kernel
theorem k12_53 : zlkV 12 53 X_town 2 780 781 782 101 783 = true := by decide +kernel
theorem k12_56 : zlkV 12 56 M_town 2 1589 1590 1591 112 1592 = true := by decide +kernel
theorem k12_57 : zlkV 12 57 X_beats 2 816 817 818 101 819 = true := by decide +kernel
theorem k12_60 : zlkV 12 60 M_beats 2 1614 1615 1616 112 1617 = true := by decide +kernel
theorem k12_61 : zlkV 12 61 X_chime 3 831 832 833 101 834 = true := by decide +kernel
theorem k12_64 : zlkV 12 64 M_chime 3 1623 1624 1625 112 1626 = true := by decide +kernel
theorem k12_65 : zlkV 12 65 X_days 3 847 848 849 101 850 = true := by decide +kernel
theorem k12_68 : zlkV 12 68 M_days 3 1631 1632 1633 112 1634 = true := by decide +kernel
theorem k12_69 : zlkV 12 69 X_fault 2 860 861 862 101 863 = true := by decide +kernel
theorem k12_72 : zlkV 12 72 M_fault 2 1635 1636 1637 112 1638 = true := by decide +kernel
theorem k12_73 : zlkV 12 73 X_win 2 873 874 875 101 876 = true := by decide +kernel
theorem k12_76 : zlkV 12 76 M_win 2 1643 1644 1645 112 1646 = true := by decide +kernel
theorem k12_77 : zlkV 12 77 X_silent 2 903 904 905 101 906 = true := by decide +kernel
theorem k12_80 : zlkV 12 80 M_silent 2 1655 1656 1657 112 1658 = true := by decide +kernel
theorem k12_81 : zlkV 12 81 X_heard 4 911 912 913 101 914 = true := by decide +kernel
theorem k12_85 : zlkV 12 85 M_heard 4 1659 1660 1661 112 1662 = true := by decide +kernel
theorem k12_86 : zlkV 12 86 X_strike 3 935 936 937 101 938 = true := by decide +kernel
theorem k12_89 : zlkV 12 89 M_strike 3 1679 1680 1681 112 1682 = true := by decide +kernel
theorem k12_90 : zlkV 12 90 X_judge 3 950 951 952 101 953 = true := by decide +kernel
theorem k12_93 : zlkV 12 93 M_judge 3 1695 1696 1697 112 1698 = true := by decide +kernel
theorem k12_94 : zlkV 12 94 X_broke 4 958 959 960 101 961 = true := by decide +kernel
theorem k12_97 : zlkV 12 97 M_broke 4 1703 1704 1705 112 1706 = true := by decide +kernel
theorem k12_98 : zlkV 12 98 X_cast 3 988 989 990 101 991 = true := by decide +kernel
theorem k12_101 : zlkV 12 101 M_cast 3 1715 1716 1717 112 1718 = true := by decide +kernel
theorem k12_102 : zlkV 12 102 X_melt 3 1002 1003 1004 101 1005 = true := by decide +kernel
theorem k12_105 : zlkV 12 105 M_melt 3 1719 1720 1721 112 1722 = true := by decide +kernel
theorem k12_106 : zlkV 12 106 X_pairs 1 1028 1029 1030 101 1031 = true := by decide +kernel
theorem k12_109 : zlkV 12 109 M_pairs 1 1727 1728 1729 112 1730 = true := by decide +kernel
theorem k12_110 : zlkV 12 110 X_drawn 4 1040 1041 1042 101 1043 = true := by decide +kernel
theorem k12_113 : zlkV 12 113 M_drawn 4 1731 1732 1733 112 1734 = true := by decide +kernel
theorem k12_114 : zlkV 12 114 X_breaks 1 1057 1058 1059 101 1060 = true := by decide +kernel
theorem k12_117 : zlkV 12 117 M_breaks 1 1736 1737 1738 112 1739 = true := by decide +kernel
theorem k12_118 : zlkV 12 118 X_keeps 1 1066 1067 1068 101 1069 = true := by decide +kernel
theorem k12_121 : zlkV 12 121 M_keeps 1 1740 1741 1742 112 1743 = true := by decide +kernel
theorem k12_122 : zlkV 12 122 X_pass 1 1074 1075 1076 101 1077 = true := by decide +kernel
theorem k12_125 : zlkV 12 125 M_pass 1 1744 1745 1746 112 1747 = true := by decide +kernel
theorem k12_126 : zlkV 12 126 X_ring 2 1078 1079 1080 101 1081 = true := by decide +kernel
theorem k12_129 : zlkV 12 129 M_ring 2 1748 1749 1750 112 1751 = true := by decide +kernel
theorem k12_130 : zlkV 12 130 X_led 1 1088 1089 1090 101 1091 = true := by decide +kernel
theorem k12_133 : zlkV 12 133 M_led 1 1752 1753 1754 112 1755 = true := by decide +kernel
theorem k12_134 : zlkV 12 134 X_image 0 1092 1093 1094 101 1095 = true := by decide +kernel
theorem k12_137 : zlkV 12 137 M_image 0 1756 1757 1758 112 1759 = true := by decide +kernel
theorem k12_138 : zlkV 12 138 X_back 0 1101 1102 1103 101 1104 = true := by decide +kernel
theorem k12_141 : zlkV 12 141 M_back 0 1760 1761 1762 112 1763 = true := by decide +kernel
theorem k12_142 : zlkV 12 142 X_undo 0 1109 1110 1111 101 1112 = true := by decide +kernel
theorem k12_145 : zlkV 12 145 M_undo 0 1456 1457 1458 112 1459 = true := by decide +kernel
theorem k12_146 : zlkV 12 146 X_redo 0 1118 1119 1120 101 1121 = true := by decide +kernel
theorem k12_149 : zlkV 12 149 M_redo 0 1460 1461 1462 112 1463 = true := by decide +kernel
theorem k12_150 : zlkV 12 150 X_body 1 1126 1127 1128 101 1129 = true := by decide +kernel
theorem k12_153 : zlkV 12 153 M_body 1 1764 1765 1766 112 1767 = true := by decide +kernel
theorem k12_154 : zlkV 12 154 X_act 3 1134 1135 1136 101 1137 = true := by decide +kernel
theorem k12_157 : zlkV 12 157 M_act 3 1768 1769 1770 112 1771 = true := by decide +kernel
theorem k12_158 : zlkV 12 158 X_trace 1 1162 1163 1164 101 1165 = true := by decide +kernel
theorem k12_161 : zlkV 12 161 M_trace 1 1796 1797 1798 112 1799 = true := by decide +kernel
theorem k12_162 : zlkV 12 162 X_keep 2 1171 1172 1173 101 1174 = true := by decide +kernel
theorem k12_165 : zlkV 12 165 M_keep 2 1800 1801 1802 112 1803 = true := by decide +kernel
theorem k12_166 : zlkV 12 166 X_row 3 1185 1186 1187 101 1188 = true := by decide +kernel
theorem k12_169 : zlkV 12 169 M_row 3 1804 1805 1806 112 1807 = true := by decide +kernel
theorem k12_172 : zlkV 12 172 X_put 3 1196 1197 1198 101 1199 = true := by decide +kernel
theorem k12_176 : zlkV 12 176 M_put 3 1808 1809 1810 112 1811 = true := by decide +kernel
theorem k12_177 : zlkV 12 177 X_element 2 1213 1214 1215 101 1216 = true := by decide +kernel
theorem k12_181 : zlkV 12 181 M_element 2 1820 1821 1822 112 1823 = true := by decide +kernel
theorem k12_182 : zlkV 12 182 X_shift 5 1218 1219 1220 101 1221 = true := by decide +kernel
theorem k12_186 : zlkV 12 186 M_shift 5 1825 1826 1827 112 1828 = true := by decide +kernel
theorem k12_187 : zlkV 12 187 X_taken 2 1225 1226 1227 101 1228 = true := by decide +kernel
theorem k12_190 : zlkV 12 190 M_taken 2 1829 1830 1831 112 1832 = true := by decide +kernel
theorem k12_191 : zlkV 12 191 X_count 1 1233 1234 1235 101 1236 = true := by decide +kernel
theorem k12_194 : zlkV 12 194 M_count 1 1833 1834 1835 112 1836 = true := by decide +kernel
theorem k13_637 : zlkS 13 637 J_indexOfL 4 662 663 115 664 = true := by decide +kernel
theorem k14_38 : zlk0 14 38 Lib.Math.min.name 671 = true := by decide +kernel
theorem k14_88 : zlkS 14 88 J_canEncodeL 1 665 666 115 667 = true := by decide +kernel
theorem k14_92 : zlk0 14 92 Lib.Math.max.name 668 = true := by decide +kernel
theorem k14_95 : zlkS 14 95 J_indexOfCharL 4 674 675 115 676 = true := by decide +kernel

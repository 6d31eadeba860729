/-! ===== the methods, the classes, the links ===== -/
def mX0_init : am_Y := (yX0_init, cX0_init, 1, none)
def mX0_hasRoom : am_Y := (yX0_hasRoom, cX0_hasRoom, 2, (some .boolean))
def mX0_fallingAt : am_Y := (yX0_fallingAt, cX0_fallingAt, 5, (some .int))
def mX0_hoursToRain : am_Y := (yX0_hoursToRain, cX0_hoursToRain, 4, (some .int))
def mX1_init : am_Y := (yX1_init, cX1_init, 2, none)
def mX1_begin : am_Y := (yX1_begin, cX1_begin, 1, none)
def mX1_bring : am_Y := (yX1_bring, cX1_bring, 2, none)
def mX1_refill : am_Y := (yX1_refill, cX1_refill, 2, none)
def mX1_isFlat : am_Y := (yX1_isFlat, cX1_isFlat, 2, (some .boolean))
def mX1_plugIn : am_Y := (yX1_plugIn, cX1_plugIn, 3, none)
def mX1_isReady : am_Y := (yX1_isReady, cX1_isReady, 2, (some .boolean))
def mX1_hasPower : am_Y := (yX1_hasPower, cX1_hasPower, 2, (some .boolean))
def mX1_isHome : am_Y := (yX1_isHome, cX1_isHome, 2, (some .boolean))
def mX1_readyOnes : am_Y := (yX1_readyOnes, cX1_readyOnes, 3, (some .int))
def mX1_freeOneStuck : am_Y := (yX1_freeOneStuck, cX1_freeOneStuck, 4, none)
def mX1_hearOf : am_Y := (yX1_hearOf, cX1_hearOf, 4, none)
def mX1_cartsStuck : am_Y := (yX1_cartsStuck, cX1_cartsStuck, 3, (some .int))
def mX1_factOfCart : am_Y := (yX1_factOfCart, cX1_factOfCart, 3, (some .int))
def mX1_isPlace : am_Y := (yX1_isPlace, cX1_isPlace, 1, (some .boolean))
def mX2_init : am_Y := (yX2_init, cX2_init, 1, none)
def mX2_begin : am_Y := (yX2_begin, cX2_begin, 1, none)
def mX2_shape : am_Y := (yX2_shape, cX2_shape, 4, none)
def mX2_rainOn : am_Y := (yX2_rainOn, cX2_rainOn, 3, none)
def mX2_flow : am_Y := (yX2_flow, cX2_flow, 4, none)
def mX2_dry : am_Y := (yX2_dry, cX2_dry, 2, none)
def mX2_allWet : am_Y := (yX2_allWet, cX2_allWet, 4, (some .long))
def mX2_heavy : am_Y := (yX2_heavy, cX2_heavy, 3, (some .int))
def mX2_lowestBeside : am_Y := (yX2_lowestBeside, cX2_lowestBeside, 5, (some .int))
def mX3_init : am_Y := (yX3_init, cX3_init, 1, none)
def mX3_takeOver : am_Y := (yX3_takeOver, cX3_takeOver, 4, none)
def mX3_decide : am_Y := (yX3_decide, cX3_decide, 5, (some .boolean))
def mX3_apply : am_Y := (yX3_apply, cX3_apply, 6, none)
def mX3_joined : am_Y := (yX3_joined, cX3_joined, 5, (some .int))
def mX3_held : am_Y := (yX3_held, cX3_held, 2, (some .int))
def mX3_push : am_Y := (yX3_push, cX3_push, 2, none)
def mX3_pop : am_Y := (yX3_pop, cX3_pop, 1, (some .int))
def mX4_spotOf : am_Y := (yX4_spotOf, cX4_spotOf, 8, (some .int))
def mX4_pullOf : am_Y := (yX4_pullOf, cX4_pullOf, 14, (some .int))
def mX4_cellsReached : am_Y := (yX4_cellsReached, cX4_cellsReached, 12, (some .int))
def mX4_cellNumbered : am_Y := (yX4_cellNumbered, cX4_cellNumbered, 5, (some .int))
def mX4_reached : am_Y := (yX4_reached, cX4_reached, 10, (some .long))
def mX4_stepped : am_Y := (yX4_stepped, cX4_stepped, 6, (some .long))
def mX5_init : am_Y := (yX5_init, cX5_init, 1, none)
def mX5_search : am_Y := (yX5_search, cX5_search, 11, none)
def mX5_takeNearest : am_Y := (yX5_takeNearest, cX5_takeNearest, 4, (some .int))
def mX5_goOnFrom : am_Y := (yX5_goOnFrom, cX5_goOnFrom, 8, none)
def mX5_hasWay : am_Y := (yX5_hasWay, cX5_hasWay, 3, (some .boolean))
def mX5_costTo : am_Y := (yX5_costTo, cX5_costTo, 3, (some .int))
def mX5_stepsTo : am_Y := (yX5_stepsTo, cX5_stepsTo, 3, (some .int))
def mX5_firstTo : am_Y := (yX5_firstTo, cX5_firstTo, 3, (some .int))
def mX5_nearestBeside : am_Y := (yX5_nearestBeside, cX5_nearestBeside, 6, (some .int))
def mX5_isNearer : am_Y := (yX5_isNearer, cX5_isNearer, 4, (some .boolean))
def mX6_init : am_Y := (yX6_init, cX6_init, 2, none)
def mX6_begin : am_Y := (yX6_begin, cX6_begin, 1, none)
def mX6_standsOn : am_Y := (yX6_standsOn, cX6_standsOn, 2, (some .boolean))
def mX6_isIll : am_Y := (yX6_isIll, cX6_isIll, 2, (some .boolean))
def mX6_sow : am_Y := (yX6_sow, cX6_sow, 8, none)
def mX6_expose : am_Y := (yX6_expose, cX6_expose, 3, none)
def mX6_marksOn : am_Y := (yX6_marksOn, cX6_marksOn, 2, (some .int))
def mX6_see : am_Y := (yX6_see, cX6_see, 6, none)
def mX6_weigh : am_Y := (yX6_weigh, cX6_weigh, 10, (some .long))
def mX6_shareOf : am_Y := (yX6_shareOf, cX6_shareOf, 3, (some .int))
def mX6_weedHundredths : am_Y := (yX6_weedHundredths, cX6_weedHundredths, 5, (some .int))
def mX6_sicken : am_Y := (yX6_sicken, cX6_sicken, 3, none)
def mX6_nourish : am_Y := (yX6_nourish, cX6_nourish, 3, none)
def mX6_remove : am_Y := (yX6_remove, cX6_remove, 3, none)
def mX6_drown : am_Y := (yX6_drown, cX6_drown, 3, none)
def mX6_spread : am_Y := (yX6_spread, cX6_spread, 8, none)
def mX6_drawLot : am_Y := (yX6_drawLot, cX6_drawLot, 3, (some .int))
def mX6_grow : am_Y := (yX6_grow, cX6_grow, 3, none)
def mX6_allGot : am_Y := (yX6_allGot, cX6_allGot, 3, (some .int))
def mX7_init : am_Y := (yX7_init, cX7_init, 1, none)
def mX7_hasRoomForFive : am_Y := (yX7_hasRoomForFive, cX7_hasRoomForFive, 1, (some .boolean))
def mX7_append : am_Y := (yX7_append, cX7_append, 3, none)
def mX7_read : am_Y := (yX7_read, cX7_read, 4, (some .int))
def mX7_split : am_Y := (yX7_split, cX7_split, 5, none)
def mX7_addToken : am_Y := (yX7_addToken, cX7_addToken, 3, none)
def mX7_tokenFrom : am_Y := (yX7_tokenFrom, cX7_tokenFrom, 5, (some .int))
def mX7_wordBetween : am_Y := (yX7_wordBetween, cX7_wordBetween, 7, (some .int))
def mX7_numberBetween : am_Y := (yX7_numberBetween, cX7_numberBetween, 5, (some .int))
def mX7_groupOf : am_Y := (yX7_groupOf, cX7_groupOf, 1, (some .int))
def mX7_readStatement : am_Y := (yX7_readStatement, cX7_readStatement, 2, (some .boolean))
def mX7_readAny : am_Y := (yX7_readAny, cX7_readAny, 6, (some .boolean))
def mX7_readOne : am_Y := (yX7_readOne, cX7_readOne, 5, (some .boolean))
def mX7_readSum : am_Y := (yX7_readSum, cX7_readSum, 7, (some .boolean))
def mX7_readAtom : am_Y := (yX7_readAtom, cX7_readAtom, 3, (some .boolean))
def mX7_isOperator : am_Y := (yX7_isOperator, cX7_isOperator, 1, (some .boolean))
def mX7_here : am_Y := (yX7_here, cX7_here, 1, (some .int))
def mX7_placeHere : am_Y := (yX7_placeHere, cX7_placeHere, 1, (some .int))
def mX7_accept : am_Y := (yX7_accept, cX7_accept, 3, (some .boolean))
def mX7_emit : am_Y := (yX7_emit, cX7_emit, 2, none)
def mX8_init : am_Y := (yX8_init, cX8_init, 1, none)
def mX8_lead : am_Y := (yX8_lead, cX8_lead, 1, (some .int))
def mX8_allWays : am_Y := (yX8_allWays, cX8_allWays, 1, (some .int))
def mX8_waysAsGood : am_Y := (yX8_waysAsGood, cX8_waysAsGood, 1, (some .int))
def mX8_waysWithLead : am_Y := (yX8_waysWithLead, cX8_waysWithLead, 5, (some .int))
def mX8_armsAsDealt : am_Y := (yX8_armsAsDealt, cX8_armsAsDealt, 3, (some .int))
def mX8_leadOf : am_Y := (yX8_leadOf, cX8_leadOf, 6, (some .int))
def mX9_init : am_Y := (yX9_init, cX9_init, 3, none)
def mX9_isFull : am_Y := (yX9_isFull, cX9_isFull, 1, (some .boolean))
def mX9_has : am_Y := (yX9_has, cX9_has, 2, (some .boolean))
def mX9_at : am_Y := (yX9_at, cX9_at, 3, (some .int))
def mX9_add : am_Y := (yX9_add, cX9_add, 7, none)
def mX9_put : am_Y := (yX9_put, cX9_put, 3, none)
def mX10_init : am_Y := (yX10_init, cX10_init, 3, none)
def mX10_begin : am_Y := (yX10_begin, cX10_begin, 3, none)
def mX10_leavesOut : am_Y := (yX10_leavesOut, cX10_leavesOut, 3, (some .boolean))
def mX10_playTo : am_Y := (yX10_playTo, cX10_playTo, 3, none)
def mX10_hearTold : am_Y := (yX10_hearTold, cX10_hearTold, 2, none)
def mX10_hear : am_Y := (yX10_hear, cX10_hear, 4, none)
def mX10_adjust : am_Y := (yX10_adjust, cX10_adjust, 3, none)
def mX10_bringCart : am_Y := (yX10_bringCart, cX10_bringCart, 2, none)
def mX10_openWork : am_Y := (yX10_openWork, cX10_openWork, 2, none)
def mX10_passHour : am_Y := (yX10_passHour, cX10_passHour, 2, none)
def mX10_makeOffers : am_Y := (yX10_makeOffers, cX10_makeOffers, 6, none)
def mX10_ofKind : am_Y := (yX10_ofKind, cX10_ofKind, 4, (some .int))
def mX10_cheapest : am_Y := (yX10_cheapest, cX10_cheapest, 8, (some .int))
def mX10_goalOf : am_Y := (yX10_goalOf, cX10_goalOf, 4, (some .int))
def mX10_takeOn : am_Y := (yX10_takeOn, cX10_takeOn, 3, none)
def mX10_takeTurn : am_Y := (yX10_takeTurn, cX10_takeTurn, 2, none)
def mX10_isAtWork : am_Y := (yX10_isAtWork, cX10_isAtWork, 4, (some .boolean))
def mX10_doWork : am_Y := (yX10_doWork, cX10_doWork, 4, none)
def mX10_move : am_Y := (yX10_move, cX10_move, 5, none)
def mX10_leaveWork : am_Y := (yX10_leaveWork, cX10_leaveWork, 4, none)
def mX10_factOfCell : am_Y := (yX10_factOfCell, cX10_factOfCell, 4, (some .int))
def mX10_gatherFacts : am_Y := (yX10_gatherFacts, cX10_gatherFacts, 3, none)
def mX10_stateOfWork : am_Y := (yX10_stateOfWork, cX10_stateOfWork, 2, (some .int))
def mX10_doerOfWork : am_Y := (yX10_doerOfWork, cX10_doerOfWork, 2, (some .int))
def mX10_worksThatAre : am_Y := (yX10_worksThatAre, cX10_worksThatAre, 4, (some .int))
def mX11_init : am_Y := (yX11_init, cX11_init, 1, none)
def mX11_land : am_Y := (yX11_land, cX11_land, 4, (some .boolean))
def mX11_set : am_Y := (yX11_set, cX11_set, 3, (some .boolean))
def mX11_rain : am_Y := (yX11_rain, cX11_rain, 4, (some .int))
def mX11_cart : am_Y := (yX11_cart, cX11_cart, 6, (some .int))
def mX11_charge : am_Y := (yX11_charge, cX11_charge, 2, (some .boolean))
def mX11_work : am_Y := (yX11_work, cX11_work, 4, (some .int))
def mX11_lot : am_Y := (yX11_lot, cX11_lot, 2, (some .int))
def mX11_kind : am_Y := (yX11_kind, cX11_kind, 7, (some .int))
def mX11_plant : am_Y := (yX11_plant, cX11_plant, 2, (some .boolean))
def mX11_show : am_Y := (yX11_show, cX11_show, 3, (some .boolean))
def mX11_look : am_Y := (yX11_look, cX11_look, 3, (some .boolean))
def mX11_ill : am_Y := (yX11_ill, cX11_ill, 3, (some .boolean))
def mX11_pass : am_Y := (yX11_pass, cX11_pass, 2, (some .int))
def mX11_cell : am_Y := (yX11_cell, cX11_cell, 3, (some .int))
def mX11_share : am_Y := (yX11_share, cX11_share, 3, (some .int))
def mX11_told : am_Y := (yX11_told, cX11_told, 3, (some .int))
def mX11_job : am_Y := (yX11_job, cX11_job, 3, (some .int))
def mX11_way : am_Y := (yX11_way, cX11_way, 4, (some .int))
def mX11_water : am_Y := (yX11_water, cX11_water, 2, (some .long))
def mX11_spot : am_Y := (yX11_spot, cX11_spot, 3, (some .int))
def mX11_pull : am_Y := (yX11_pull, cX11_pull, 4, (some .int))
def mX11_strip : am_Y := (yX11_strip, cX11_strip, 3, (some .int))
def mX11_better : am_Y := (yX11_better, cX11_better, 2, (some .int))
def mX11_feed : am_Y := (yX11_feed, cX11_feed, 6, (some .int))
def mX11_rules : am_Y := (yX11_rules, cX11_rules, 2, (some .int))
def mX11_fault : am_Y := (yX11_fault, cX11_fault, 1, (some .int))
def mX11_act : am_Y := (yX11_act, cX11_act, 3, (some .int))
def mX11_plan : am_Y := (yX11_plan, cX11_plan, 2, (some .int))
def mX11_again : am_Y := (yX11_again, cX11_again, 5, (some .int))
def mX11_count : am_Y := (yX11_count, cX11_count, 2, (some .int))
def mX11_tell : am_Y := (yX11_tell, cX11_tell, 5, (some .boolean))
def mX11_tellNewest : am_Y := (yX11_tellNewest, cX11_tellNewest, 4, (some .int))
def mX11_addWork : am_Y := (yX11_addWork, cX11_addWork, 4, (some .int))
def mX11_findsAct : am_Y := (yX11_findsAct, cX11_findsAct, 2, (some .boolean))
def mX11_canLeaveOut : am_Y := (yX11_canLeaveOut, cX11_canLeaveOut, 3, (some .boolean))
def mX11_within : am_Y := (yX11_within, cX11_within, 3, (some .boolean))
def mX11_isCell : am_Y := (yX11_isCell, cX11_isCell, 1, (some .boolean))
def mX11_isOdds : am_Y := (yX11_isOdds, cX11_isOdds, 1, (some .boolean))
def mX11_areMarks : am_Y := (yX11_areMarks, cX11_areMarks, 1, (some .boolean))
def mX11_isSetting : am_Y := (yX11_isSetting, cX11_isSetting, 2, (some .boolean))
def mX11_beside : am_Y := (yX11_beside, cX11_beside, 2, (some .int))
def mX11_far : am_Y := (yX11_far, cX11_far, 2, (some .int))
def mX11_bit : am_Y := (yX11_bit, cX11_bit, 1, (some .long))
def mX12_init : am_Y := (yX12_init, cX12_init, 1, none)
def mX12_begins : am_Y := (yX12_begins, cX12_begins, 2, none)
def mX12_isIn : am_Y := (yX12_isIn, cX12_isIn, 3, (some .boolean))
def mX12_one : am_Y := (yX12_one, cX12_one, 1, (some .int))
def mX12_isCell : am_Y := (yX12_isCell, cX12_isCell, 1, (some .boolean))
def mX12_far : am_Y := (yX12_far, cX12_far, 2, (some .int))
def mX12_beside : am_Y := (yX12_beside, cX12_beside, 2, (some .int))
def mX12_isBut : am_Y := (yX12_isBut, cX12_isBut, 3, (some .boolean))
def mX12_tells : am_Y := (yX12_tells, cX12_tells, 5, none)
def mX12_does : am_Y := (yX12_does, cX12_does, 4, none)
def mX12_comes : am_Y := (yX12_comes, cX12_comes, 2, none)
def mX12_charged : am_Y := (yX12_charged, cX12_charged, 2, none)
def mX12_land : am_Y := (yX12_land, cX12_land, 4, (some .boolean))
def mX12_isSet : am_Y := (yX12_isSet, cX12_isSet, 2, (some .boolean))
def mX12_set : am_Y := (yX12_set, cX12_set, 3, (some .boolean))
def mX12_rain : am_Y := (yX12_rain, cX12_rain, 4, (some .int))
def mX12_cart : am_Y := (yX12_cart, cX12_cart, 6, (some .int))
def mX12_isCart : am_Y := (yX12_isCart, cX12_isCart, 2, (some .boolean))
def mX12_charge : am_Y := (yX12_charge, cX12_charge, 2, (some .boolean))
def mX12_work : am_Y := (yX12_work, cX12_work, 4, (some .int))
def mX12_lot : am_Y := (yX12_lot, cX12_lot, 2, (some .int))
def mX12_kind : am_Y := (yX12_kind, cX12_kind, 7, (some .int))
def mX12_has : am_Y := (yX12_has, cX12_has, 2, (some .boolean))
def mX12_plant : am_Y := (yX12_plant, cX12_plant, 2, (some .boolean))
def mX12_show : am_Y := (yX12_show, cX12_show, 3, (some .boolean))
def mX12_look : am_Y := (yX12_look, cX12_look, 3, (some .boolean))
def mX12_ill : am_Y := (yX12_ill, cX12_ill, 3, (some .boolean))
def mX12_grows : am_Y := (yX12_grows, cX12_grows, 4, none)
def mX12_seen : am_Y := (yX12_seen, cX12_seen, 7, none)
def mX12_dies : am_Y := (yX12_dies, cX12_dies, 3, none)
def mX12_weeds : am_Y := (yX12_weeds, cX12_weeds, 5, (some .int))
def mX12_heavy : am_Y := (yX12_heavy, cX12_heavy, 3, (some .int))
def mX12_mayEnter : am_Y := (yX12_mayEnter, cX12_mayEnter, 3, (some .boolean))
def mX12_isGoal : am_Y := (yX12_isGoal, cX12_isGoal, 3, (some .boolean))
def mX12_ways : am_Y := (yX12_ways, cX12_ways, 6, none)
def mX12_nextOf : am_Y := (yX12_nextOf, cX12_nextOf, 5, (some .int))
def mX12_way : am_Y := (yX12_way, cX12_way, 6, (some .int))
def mX12_rains : am_Y := (yX12_rains, cX12_rains, 3, none)
def mX12_flows : am_Y := (yX12_flows, cX12_flows, 4, none)
def mX12_dries : am_Y := (yX12_dries, cX12_dries, 2, none)
def mX12_mayTake : am_Y := (yX12_mayTake, cX12_mayTake, 3, (some .boolean))
def mX12_offers : am_Y := (yX12_offers, cX12_offers, 8, none)
def mX12_gives : am_Y := (yX12_gives, cX12_gives, 2, none)
def mX12_drops : am_Y := (yX12_drops, cX12_drops, 3, none)
def mX12_works : am_Y := (yX12_works, cX12_works, 4, none)
def mX12_pulls : am_Y := (yX12_pulls, cX12_pulls, 4, none)
def mX12_moves : am_Y := (yX12_moves, cX12_moves, 7, none)
def mX12_enters : am_Y := (yX12_enters, cX12_enters, 4, none)
def mX12_acts : am_Y := (yX12_acts, cX12_acts, 2, none)
def mX12_ends : am_Y := (yX12_ends, cX12_ends, 3, none)
def mX12_lotIsLow : am_Y := (yX12_lotIsLow, cX12_lotIsLow, 2, (some .boolean))
def mX12_hour : am_Y := (yX12_hour, cX12_hour, 2, none)
def mX12_pass : am_Y := (yX12_pass, cX12_pass, 3, (some .int))
def mX12_cellOf : am_Y := (yX12_cellOf, cX12_cellOf, 4, (some .int))
def mX12_cell : am_Y := (yX12_cell, cX12_cell, 3, (some .int))
def mX12_share : am_Y := (yX12_share, cX12_share, 3, (some .int))
def mX12_told : am_Y := (yX12_told, cX12_told, 5, (some .int))
def mX12_job : am_Y := (yX12_job, cX12_job, 3, (some .int))
def mX12_water : am_Y := (yX12_water, cX12_water, 5, (some .long))
def mX12_spreads : am_Y := (yX12_spreads, cX12_spreads, 6, none)
def mX12_isSpot : am_Y := (yX12_isSpot, cX12_isSpot, 5, (some .boolean))
def mX12_illMany : am_Y := (yX12_illMany, cX12_illMany, 3, (some .int))
def mX12_spot : am_Y := (yX12_spot, cX12_spot, 5, (some .int))
def mX12_finds : am_Y := (yX12_finds, cX12_finds, 4, none)
def mX12_reached : am_Y := (yX12_reached, cX12_reached, 5, (some .int))
def mX12_bits : am_Y := (yX12_bits, cX12_bits, 3, (some .int))
def mX12_pull : am_Y := (yX12_pull, cX12_pull, 8, (some .int))
def mX12_strip : am_Y := (yX12_strip, cX12_strip, 3, (some .int))
def mX12_leadOf : am_Y := (yX12_leadOf, cX12_leadOf, 6, (some .int))
def mX12_better : am_Y := (yX12_better, cX12_better, 6, (some .int))
def mX12_again : am_Y := (yX12_again, cX12_again, 13, (some .int))
def mX12_feed : am_Y := (yX12_feed, cX12_feed, 6, (some .int))
def mX12_four : am_Y := (yX12_four, cX12_four, 3, none)
def mX12_blanks : am_Y := (yX12_blanks, cX12_blanks, 1, none)
def mX12_word : am_Y := (yX12_word, cX12_word, 3, (some .long))
def mX12_takes : am_Y := (yX12_takes, cX12_takes, 3, (some .boolean))
def mX12_takesSign : am_Y := (yX12_takesSign, cX12_takesSign, 2, (some .boolean))
def mX12_takesNumber : am_Y := (yX12_takesNumber, cX12_takesNumber, 2, (some .boolean))
def mX12_asked : am_Y := (yX12_asked, cX12_asked, 2, (some .int))
def mX12_puts : am_Y := (yX12_puts, cX12_puts, 3, none)
def mX12_opens : am_Y := (yX12_opens, cX12_opens, 1, (some .boolean))
def mX12_atom : am_Y := (yX12_atom, cX12_atom, 2, (some .boolean))
def mX12_product : am_Y := (yX12_product, cX12_product, 2, (some .boolean))
def mX12_ex : am_Y := (yX12_ex, cX12_ex, 2, (some .boolean))
def mX12_single : am_Y := (yX12_single, cX12_single, 2, (some .boolean))
def mX12_all : am_Y := (yX12_all, cX12_all, 1, (some .boolean))
def mX12_any : am_Y := (yX12_any, cX12_any, 1, (some .boolean))
def mX12_statement : am_Y := (yX12_statement, cX12_statement, 2, (some .boolean))
def mX12_rules : am_Y := (yX12_rules, cX12_rules, 4, (some .int))
def mX12_fault : am_Y := (yX12_fault, cX12_fault, 1, (some .int))
def mX12_held : am_Y := (yX12_held, cX12_held, 2, (some .long))
def mX12_bit : am_Y := (yX12_bit, cX12_bit, 1, (some .long))
def mX12_both : am_Y := (yX12_both, cX12_both, 5, (some .long))
def mX12_runs : am_Y := (yX12_runs, cX12_runs, 6, (some .long))
def mX12_nextRain : am_Y := (yX12_nextRain, cX12_nextRain, 3, (some .int))
def mX12_toDo : am_Y := (yX12_toDo, cX12_toDo, 4, (some .int))
def mX12_act : am_Y := (yX12_act, cX12_act, 4, (some .int))
def mX12_plan : am_Y := (yX12_plan, cX12_plan, 3, (some .int))
def mX12_manyOf : am_Y := (yX12_manyOf, cX12_manyOf, 5, (some .int))
def mX12_count : am_Y := (yX12_count, cX12_count, 4, (some .int))
def mJ6_bitCount_0f7a4 : am_Y := (yJ6_bitCount_0f7a4, cJ6_bitCount_0f7a4, 1, (some .int))
def mJ13_bitCount_95d88 : am_Y := (yJ13_bitCount_95d88, cJ13_bitCount_95d88, 2, (some .int))
def mJ9_abs_0f7a4 : am_Y := (yJ9_abs_0f7a4, cJ9_abs_0f7a4, 1, (some .int))
def mJ9_max_7cf53 : am_Y := (yJ9_max_7cf53, cJ9_max_7cf53, 2, (some .int))
def mJ9_max_f86c9 : am_Y := (yJ9_max_f86c9, cJ9_max_f86c9, 4, (some .long))
def mJ9_min_7cf53 : am_Y := (yJ9_min_7cf53, cJ9_min_7cf53, 2, (some .int))
def mJ9_min_f86c9 : am_Y := (yJ9_min_f86c9, cJ9_min_f86c9, 4, (some .long))
def mJ7_fill_d0a16 : am_Y := (yJ7_fill_d0a16, cJ7_fill_d0a16, 5, none)
def mJ7_fill_53178 : am_Y := (yJ7_fill_53178, cJ7_fill_53178, 4, none)
set_option maxRecDepth 100000 in
theorem cb0 : am_CB 0 RX0 TX0 6 tyX0 := ⟨rfl, am_mem_all [184, 186, 188, 190, 192, 194] (by decide +kernel) (by decide +kernel), tyX0_ok, nmX0, rfl, by decide +kernel⟩
set_option maxRecDepth 100000 in
theorem cb1 : am_CB 1 RX1 TX1 6 tyX1 := ⟨rfl, am_mem_all [322, 324, 326, 328, 330, 332] (by decide +kernel) (by decide +kernel), tyX1_ok, nmX1, rfl, by decide +kernel⟩
set_option maxRecDepth 100000 in
theorem cb2 : am_CB 2 RX2 TX2 6 tyX2 := ⟨rfl, am_mem_all [244, 246, 248, 250, 252, 254] (by decide +kernel) (by decide +kernel), tyX2_ok, nmX2, rfl, by decide +kernel⟩
set_option maxRecDepth 100000 in
theorem cb3 : am_CB 3 RX3 TX3 8 tyX3 := ⟨rfl, am_mem_all [464, 466, 468, 470, 472, 474, 476, 478] (by decide +kernel) (by decide +kernel), tyX3_ok, nmX3, rfl, by decide +kernel⟩
set_option maxRecDepth 100000 in
theorem cb4 : am_CB 4 RX5 TX5 5 tyX5 := ⟨rfl, am_mem_all [208, 210, 212, 214, 216] (by decide +kernel) (by decide +kernel), tyX5_ok, nmX5, rfl, by decide +kernel⟩
set_option maxRecDepth 100000 in
theorem cb5 : am_CB 5 RX6 TX6 11 tyX6 := ⟨rfl, am_mem_all [280, 282, 284, 286, 288, 290, 292, 294, 296, 298, 300] (by decide +kernel) (by decide +kernel), tyX6_ok, nmX6, rfl, by decide +kernel⟩
set_option maxRecDepth 100000 in
theorem cb6 : am_CB 6 RX7 TX7 9 tyX7 := ⟨rfl, am_mem_all [427, 429, 431, 433, 435, 437, 439, 441, 443] (by decide +kernel) (by decide +kernel), tyX7_ok, nmX7, rfl, by decide +kernel⟩
set_option maxRecDepth 100000 in
theorem cb7 : am_CB 7 RX8 TX8 1 tyX8 := ⟨rfl, am_mem_all [491] (by decide +kernel) (by decide +kernel), tyX8_ok, nmX8, rfl, by decide +kernel⟩
set_option maxRecDepth 100000 in
theorem cb8 : am_CB 8 RX9 TX9 4 tyX9 := ⟨rfl, am_mem_all [156, 158, 160, 162] (by decide +kernel) (by decide +kernel), tyX9_ok, nmX9, rfl, by decide +kernel⟩
set_option maxRecDepth 100000 in
theorem cb9 : am_CB 9 RX10 TX10 14 tyX10 := ⟨rfl, am_mem_all [379, 381, 383, 385, 387, 389, 391, 393, 395, 397, 399, 401, 403, 405] (by decide +kernel) (by decide +kernel), tyX10_ok, nmX10, rfl, by decide +kernel⟩
set_option maxRecDepth 100000 in
theorem cb10 : am_CB 10 RX11 TX11 10 tyX11 := ⟨rfl, am_mem_all [504, 506, 508, 510, 512, 514, 516, 518, 520, 522] (by decide +kernel) (by decide +kernel), tyX11_ok, nmX11, rfl, by decide +kernel⟩
set_option maxRecDepth 100000 in
theorem cb11 : am_CB 11 RX12 TX12 65 tyX12 := ⟨rfl, am_mem_all [1414, 1416, 1418, 1420, 1422, 1424, 1426, 1428, 1430, 1432, 1434, 1436, 1438, 1440, 1442, 1444, 1446, 1448, 1450, 1452, 1454, 1456, 1458, 1460, 1462, 1464, 1466, 1468, 1470, 1472, 1474, 1476, 1478, 1480, 1482, 1484, 1486, 1488, 1490, 1492, 1494, 1496, 1498, 1500, 1502, 1504, 1506, 1508, 1510, 1512, 1514, 1516, 1518, 1520, 1522, 1524, 1526, 1528, 1530, 1532, 1534, 1536, 1538, 1540, 1542] (by decide +kernel) (by decide +kernel), tyX12_ok, nmX12, rfl, by decide +kernel⟩
set_option maxRecDepth 100000 in
theorem fsRX0_14 : am_FS RX0 14 0 0 2 := ⟨RX0, TX0, 6, tyX0, cb0, rfl, by decide, Or.inl (am_in 166 (by decide +kernel) rfl)⟩
set_option maxRecDepth 100000 in
theorem fsRX0_20 : am_FS RX0 20 0 1 2 := ⟨RX0, TX0, 6, tyX0, cb0, rfl, by decide, Or.inl (am_in 169 (by decide +kernel) rfl)⟩
set_option maxRecDepth 100000 in
theorem fsRX0_39 : am_FS RX0 39 8 3 0 := ⟨RX9, TX9, 4, tyX9, cb8, rfl, by decide, Or.inr ⟨"PloughField", am_inN 152 (by decide +kernel) rfl⟩⟩
set_option maxRecDepth 100000 in
theorem fwRX0_39 : am_FW RX0 39 8 3 0 := ⟨RX9, TX9, 4, tyX9, cb8, rfl, by decide, rfl, Or.inl ⟨rfl, by decide +kernel⟩, Or.inr ⟨"PloughField", am_inN 152 (by decide +kernel) rfl⟩⟩
set_option maxRecDepth 100000 in
theorem fsRX1_9 : am_FS RX1 9 1 1 2 := ⟨RX1, TX1, 6, tyX1, cb1, rfl, by decide, Or.inl (am_in 311 (by decide +kernel) rfl)⟩
set_option maxRecDepth 100000 in
theorem fsRX1_15 : am_FS RX1 15 1 2 2 := ⟨RX1, TX1, 6, tyX1, cb1, rfl, by decide, Or.inl (am_in 314 (by decide +kernel) rfl)⟩
set_option maxRecDepth 100000 in
theorem fsRX1_18 : am_FS RX1 18 1 3 2 := ⟨RX1, TX1, 6, tyX1, cb1, rfl, by decide, Or.inl (am_in 316 (by decide +kernel) rfl)⟩
set_option maxRecDepth 100000 in
theorem fsRX1_21 : am_FS RX1 21 1 4 2 := ⟨RX1, TX1, 6, tyX1, cb1, rfl, by decide, Or.inl (am_in 318 (by decide +kernel) rfl)⟩
set_option maxRecDepth 100000 in
theorem fsRX1_24 : am_FS RX1 24 1 5 2 := ⟨RX1, TX1, 6, tyX1, cb1, rfl, by decide, Or.inl (am_in 320 (by decide +kernel) rfl)⟩
set_option maxRecDepth 100000 in
theorem fsRX1_28 : am_FS RX1 28 1 0 2 := ⟨RX1, TX1, 6, tyX1, cb1, rfl, by decide, Or.inl (am_in 310 (by decide +kernel) rfl)⟩
set_option maxRecDepth 100000 in
theorem fsRX1_45 : am_FS RX1 45 0 2 2 := ⟨RX0, TX0, 6, tyX0, cb0, rfl, by decide, Or.inr ⟨"PloughField", am_inN 172 (by decide +kernel) rfl⟩⟩
set_option maxRecDepth 100000 in
theorem fsRX10_9 : am_FS RX10 9 9 5 2 := ⟨RX10, TX10, 14, tyX10, cb9, rfl, by decide, Or.inl (am_in 368 (by decide +kernel) rfl)⟩
set_option maxRecDepth 100000 in
theorem fsRX10_15 : am_FS RX10 15 9 6 2 := ⟨RX10, TX10, 14, tyX10, cb9, rfl, by decide, Or.inl (am_in 369 (by decide +kernel) rfl)⟩
set_option maxRecDepth 100000 in
theorem fsRX10_18 : am_FS RX10 18 9 7 2 := ⟨RX10, TX10, 14, tyX10, cb9, rfl, by decide, Or.inl (am_in 370 (by decide +kernel) rfl)⟩
set_option maxRecDepth 100000 in
theorem fsRX10_21 : am_FS RX10 21 9 0 2 := ⟨RX10, TX10, 14, tyX10, cb9, rfl, by decide, Or.inl (am_in 360 (by decide +kernel) rfl)⟩
set_option maxRecDepth 100000 in
theorem fsRX10_25 : am_FS RX10 25 9 1 2 := ⟨RX10, TX10, 14, tyX10, cb9, rfl, by decide, Or.inl (am_in 361 (by decide +kernel) rfl)⟩
set_option maxRecDepth 100000 in
theorem fsRX10_32 : am_FS RX10 32 9 2 2 := ⟨RX10, TX10, 14, tyX10, cb9, rfl, by decide, Or.inl (am_in 362 (by decide +kernel) rfl)⟩
set_option maxRecDepth 100000 in
theorem fsRX10_41 : am_FS RX10 41 9 3 2 := ⟨RX10, TX10, 14, tyX10, cb9, rfl, by decide, Or.inl (am_in 364 (by decide +kernel) rfl)⟩
set_option maxRecDepth 100000 in
theorem fsRX10_48 : am_FS RX10 48 9 4 2 := ⟨RX10, TX10, 14, tyX10, cb9, rfl, by decide, Or.inl (am_in 366 (by decide +kernel) rfl)⟩
set_option maxRecDepth 100000 in
theorem fsRX10_66 : am_FS RX10 66 9 8 0 := ⟨RX10, TX10, 14, tyX10, cb9, rfl, by decide, Or.inl (am_in 372 (by decide +kernel) rfl)⟩
set_option maxRecDepth 100000 in
theorem fwRX10_66 : am_FW RX10 66 9 8 0 := ⟨RX10, TX10, 14, tyX10, cb9, rfl, by decide, rfl, Or.inl ⟨rfl, by decide +kernel⟩, Or.inl (am_in 372 (by decide +kernel) rfl)⟩
set_option maxRecDepth 100000 in
theorem fsRX10_70 : am_FS RX10 70 9 9 0 := ⟨RX10, TX10, 14, tyX10, cb9, rfl, by decide, Or.inl (am_in 374 (by decide +kernel) rfl)⟩
set_option maxRecDepth 100000 in
theorem fwRX10_70 : am_FW RX10 70 9 9 0 := ⟨RX10, TX10, 14, tyX10, cb9, rfl, by decide, rfl, Or.inl ⟨rfl, by decide +kernel⟩, Or.inl (am_in 374 (by decide +kernel) rfl)⟩
set_option maxRecDepth 100000 in
theorem fsRX10_73 : am_FS RX10 73 9 10 0 := ⟨RX10, TX10, 14, tyX10, cb9, rfl, by decide, Or.inl (am_in 375 (by decide +kernel) rfl)⟩
set_option maxRecDepth 100000 in
theorem fwRX10_73 : am_FW RX10 73 9 10 0 := ⟨RX10, TX10, 14, tyX10, cb9, rfl, by decide, rfl, Or.inl ⟨rfl, by decide +kernel⟩, Or.inl (am_in 375 (by decide +kernel) rfl)⟩
set_option maxRecDepth 100000 in
theorem fsRX10_76 : am_FS RX10 76 9 11 0 := ⟨RX10, TX10, 14, tyX10, cb9, rfl, by decide, Or.inl (am_in 376 (by decide +kernel) rfl)⟩
set_option maxRecDepth 100000 in
theorem fwRX10_76 : am_FW RX10 76 9 11 0 := ⟨RX10, TX10, 14, tyX10, cb9, rfl, by decide, rfl, Or.inl ⟨rfl, by decide +kernel⟩, Or.inl (am_in 376 (by decide +kernel) rfl)⟩
set_option maxRecDepth 100000 in
theorem fsRX10_79 : am_FS RX10 79 9 12 0 := ⟨RX10, TX10, 14, tyX10, cb9, rfl, by decide, Or.inl (am_in 377 (by decide +kernel) rfl)⟩
set_option maxRecDepth 100000 in
theorem fwRX10_79 : am_FW RX10 79 9 12 0 := ⟨RX10, TX10, 14, tyX10, cb9, rfl, by decide, rfl, Or.inl ⟨rfl, by decide +kernel⟩, Or.inl (am_in 377 (by decide +kernel) rfl)⟩
set_option maxRecDepth 100000 in
theorem fsRX10_82 : am_FS RX10 82 9 13 0 := ⟨RX10, TX10, 14, tyX10, cb9, rfl, by decide, Or.inl (am_in 378 (by decide +kernel) rfl)⟩
set_option maxRecDepth 100000 in
theorem fwRX10_82 : am_FW RX10 82 9 13 0 := ⟨RX10, TX10, 14, tyX10, cb9, rfl, by decide, rfl, Or.inl ⟨rfl, by decide +kernel⟩, Or.inl (am_in 378 (by decide +kernel) rfl)⟩
set_option maxRecDepth 100000 in
theorem fsRX10_91 : am_FS RX10 91 0 0 2 := ⟨RX0, TX0, 6, tyX0, cb0, rfl, by decide, Or.inr ⟨"PloughField", am_inN 167 (by decide +kernel) rfl⟩⟩
set_option maxRecDepth 100000 in
theorem fsRX10_97 : am_FS RX10 97 8 3 0 := ⟨RX9, TX9, 4, tyX9, cb8, rfl, by decide, Or.inr ⟨"PloughField", am_inN 153 (by decide +kernel) rfl⟩⟩
set_option maxRecDepth 100000 in
theorem fwRX10_97 : am_FW RX10 97 8 3 0 := ⟨RX9, TX9, 4, tyX9, cb8, rfl, by decide, rfl, Or.inl ⟨rfl, by decide +kernel⟩, Or.inr ⟨"PloughField", am_inN 153 (by decide +kernel) rfl⟩⟩
set_option maxRecDepth 100000 in
theorem fsRX10_182 : am_FS RX10 182 0 3 2 := ⟨RX0, TX0, 6, tyX0, cb0, rfl, by decide, Or.inr ⟨"PloughField", am_inN 176 (by decide +kernel) rfl⟩⟩
set_option maxRecDepth 100000 in
theorem fsRX10_189 : am_FS RX10 189 0 2 2 := ⟨RX0, TX0, 6, tyX0, cb0, rfl, by decide, Or.inr ⟨"PloughField", am_inN 174 (by decide +kernel) rfl⟩⟩
set_option maxRecDepth 100000 in
theorem fsRX10_216 : am_FS RX10 216 1 4 2 := ⟨RX1, TX1, 6, tyX1, cb1, rfl, by decide, Or.inr ⟨"PloughField", am_inN 319 (by decide +kernel) rfl⟩⟩
set_option maxRecDepth 100000 in
theorem fsRX10_219 : am_FS RX10 219 1 3 2 := ⟨RX1, TX1, 6, tyX1, cb1, rfl, by decide, Or.inr ⟨"PloughField", am_inN 317 (by decide +kernel) rfl⟩⟩
set_option maxRecDepth 100000 in
theorem fsRX10_241 : am_FS RX10 241 1 1 2 := ⟨RX1, TX1, 6, tyX1, cb1, rfl, by decide, Or.inr ⟨"PloughField", am_inN 313 (by decide +kernel) rfl⟩⟩
set_option maxRecDepth 100000 in
theorem fsRX10_268 : am_FS RX10 268 1 2 2 := ⟨RX1, TX1, 6, tyX1, cb1, rfl, by decide, Or.inr ⟨"PloughField", am_inN 315 (by decide +kernel) rfl⟩⟩
set_option maxRecDepth 100000 in
theorem fsRX10_271 : am_FS RX10 271 2 2 2 := ⟨RX2, TX2, 6, tyX2, cb2, rfl, by decide, Or.inr ⟨"PloughField", am_inN 238 (by decide +kernel) rfl⟩⟩
set_option maxRecDepth 100000 in
theorem fsRX10_277 : am_FS RX10 277 2 1 2 := ⟨RX2, TX2, 6, tyX2, cb2, rfl, by decide, Or.inr ⟨"PloughField", am_inN 235 (by decide +kernel) rfl⟩⟩
set_option maxRecDepth 100000 in
theorem fsRX10_286 : am_FS RX10 286 2 0 2 := ⟨RX2, TX2, 6, tyX2, cb2, rfl, by decide, Or.inr ⟨"PloughField", am_inN 232 (by decide +kernel) rfl⟩⟩
set_option maxRecDepth 100000 in
theorem fsRX10_289 : am_FS RX10 289 5 1 2 := ⟨RX6, TX6, 11, tyX6, cb5, rfl, by decide, Or.inr ⟨"PloughField", am_inN 265 (by decide +kernel) rfl⟩⟩
set_option maxRecDepth 100000 in
theorem fsRX10_294 : am_FS RX10 294 5 2 2 := ⟨RX6, TX6, 11, tyX6, cb5, rfl, by decide, Or.inr ⟨"PloughField", am_inN 267 (by decide +kernel) rfl⟩⟩
set_option maxRecDepth 100000 in
theorem fsRX10_297 : am_FS RX10 297 5 3 2 := ⟨RX6, TX6, 11, tyX6, cb5, rfl, by decide, Or.inr ⟨"PloughField", am_inN 269 (by decide +kernel) rfl⟩⟩
set_option maxRecDepth 100000 in
theorem fsRX10_303 : am_FS RX10 303 5 5 2 := ⟨RX6, TX6, 11, tyX6, cb5, rfl, by decide, Or.inr ⟨"PloughField", am_inN 272 (by decide +kernel) rfl⟩⟩
set_option maxRecDepth 100000 in
theorem fsRX11_10 : am_FS RX11 10 10 0 2 := ⟨RX11, TX11, 10, tyX11, cb10, rfl, by decide, Or.inl (am_in 494 (by decide +kernel) rfl)⟩
set_option maxRecDepth 100000 in
theorem fsRX11_19 : am_FS RX11 19 10 1 2 := ⟨RX11, TX11, 10, tyX11, cb10, rfl, by decide, Or.inl (am_in 495 (by decide +kernel) rfl)⟩
set_option maxRecDepth 100000 in
theorem fsRX11_28 : am_FS RX11 28 10 2 2 := ⟨RX11, TX11, 10, tyX11, cb10, rfl, by decide, Or.inl (am_in 496 (by decide +kernel) rfl)⟩
set_option maxRecDepth 100000 in
theorem fsRX11_32 : am_FS RX11 32 10 3 2 := ⟨RX11, TX11, 10, tyX11, cb10, rfl, by decide, Or.inl (am_in 497 (by decide +kernel) rfl)⟩
set_option maxRecDepth 100000 in
theorem fsRX11_38 : am_FS RX11 38 10 4 2 := ⟨RX11, TX11, 10, tyX11, cb10, rfl, by decide, Or.inl (am_in 498 (by decide +kernel) rfl)⟩
set_option maxRecDepth 100000 in
theorem fsRX11_45 : am_FS RX11 45 10 5 2 := ⟨RX11, TX11, 10, tyX11, cb10, rfl, by decide, Or.inl (am_in 499 (by decide +kernel) rfl)⟩
set_option maxRecDepth 100000 in
theorem fsRX11_52 : am_FS RX11 52 10 6 2 := ⟨RX11, TX11, 10, tyX11, cb10, rfl, by decide, Or.inl (am_in 500 (by decide +kernel) rfl)⟩
set_option maxRecDepth 100000 in
theorem fsRX11_56 : am_FS RX11 56 10 7 2 := ⟨RX11, TX11, 10, tyX11, cb10, rfl, by decide, Or.inl (am_in 501 (by decide +kernel) rfl)⟩
set_option maxRecDepth 100000 in
theorem fsRX11_60 : am_FS RX11 60 10 8 0 := ⟨RX11, TX11, 10, tyX11, cb10, rfl, by decide, Or.inl (am_in 502 (by decide +kernel) rfl)⟩
set_option maxRecDepth 100000 in
theorem fwRX11_60 : am_FW RX11 60 10 8 0 := ⟨RX11, TX11, 10, tyX11, cb10, rfl, by decide, rfl, Or.inl ⟨rfl, by decide +kernel⟩, Or.inl (am_in 502 (by decide +kernel) rfl)⟩
set_option maxRecDepth 100000 in
theorem fsRX11_64 : am_FS RX11 64 10 9 0 := ⟨RX11, TX11, 10, tyX11, cb10, rfl, by decide, Or.inl (am_in 503 (by decide +kernel) rfl)⟩
set_option maxRecDepth 100000 in
theorem fwRX11_64 : am_FW RX11 64 10 9 0 := ⟨RX11, TX11, 10, tyX11, cb10, rfl, by decide, rfl, Or.inl ⟨rfl, by decide +kernel⟩, Or.inl (am_in 503 (by decide +kernel) rfl)⟩
set_option maxRecDepth 100000 in
theorem fsRX11_83 : am_FS RX11 83 9 8 0 := ⟨RX10, TX10, 14, tyX10, cb9, rfl, by decide, Or.inr ⟨"PloughField", am_inN 373 (by decide +kernel) rfl⟩⟩
set_option maxRecDepth 100000 in
theorem fwRX11_83 : am_FW RX11 83 9 8 0 := ⟨RX10, TX10, 14, tyX10, cb9, rfl, by decide, rfl, Or.inl ⟨rfl, by decide +kernel⟩, Or.inr ⟨"PloughField", am_inN 373 (by decide +kernel) rfl⟩⟩
set_option maxRecDepth 100000 in
theorem fsRX11_86 : am_FS RX11 86 0 1 2 := ⟨RX0, TX0, 6, tyX0, cb0, rfl, by decide, Or.inr ⟨"PloughField", am_inN 170 (by decide +kernel) rfl⟩⟩
set_option maxRecDepth 100000 in
theorem fsRX11_104 : am_FS RX11 104 0 2 2 := ⟨RX0, TX0, 6, tyX0, cb0, rfl, by decide, Or.inr ⟨"PloughField", am_inN 173 (by decide +kernel) rfl⟩⟩
set_option maxRecDepth 100000 in
theorem fsRX11_110 : am_FS RX11 110 9 4 2 := ⟨RX10, TX10, 14, tyX10, cb9, rfl, by decide, Or.inr ⟨"PloughField", am_inN 367 (by decide +kernel) rfl⟩⟩
set_option maxRecDepth 100000 in
theorem fsRX11_123 : am_FS RX11 123 0 5 2 := ⟨RX0, TX0, 6, tyX0, cb0, rfl, by decide, Or.inr ⟨"PloughField", am_inN 182 (by decide +kernel) rfl⟩⟩
set_option maxRecDepth 100000 in
theorem fsRX11_129 : am_FS RX11 129 0 4 2 := ⟨RX0, TX0, 6, tyX0, cb0, rfl, by decide, Or.inr ⟨"PloughField", am_inN 180 (by decide +kernel) rfl⟩⟩
set_option maxRecDepth 100000 in
theorem fsRX11_132 : am_FS RX11 132 9 3 2 := ⟨RX10, TX10, 14, tyX10, cb9, rfl, by decide, Or.inr ⟨"PloughField", am_inN 365 (by decide +kernel) rfl⟩⟩
set_option maxRecDepth 100000 in
theorem fsRX11_141 : am_FS RX11 141 8 3 0 := ⟨RX9, TX9, 4, tyX9, cb8, rfl, by decide, Or.inr ⟨"PloughField", am_inN 155 (by decide +kernel) rfl⟩⟩
set_option maxRecDepth 100000 in
theorem fwRX11_141 : am_FW RX11 141 8 3 0 := ⟨RX9, TX9, 4, tyX9, cb8, rfl, by decide, rfl, Or.inl ⟨rfl, by decide +kernel⟩, Or.inr ⟨"PloughField", am_inN 155 (by decide +kernel) rfl⟩⟩
set_option maxRecDepth 100000 in
theorem fsRX11_164 : am_FS RX11 164 0 3 2 := ⟨RX0, TX0, 6, tyX0, cb0, rfl, by decide, Or.inr ⟨"PloughField", am_inN 177 (by decide +kernel) rfl⟩⟩
set_option maxRecDepth 100000 in
theorem fsRX11_177 : am_FS RX11 177 9 2 2 := ⟨RX10, TX10, 14, tyX10, cb9, rfl, by decide, Or.inr ⟨"PloughField", am_inN 363 (by decide +kernel) rfl⟩⟩
set_option maxRecDepth 100000 in
theorem fsRX11_181 : am_FS RX11 181 9 7 2 := ⟨RX10, TX10, 14, tyX10, cb9, rfl, by decide, Or.inr ⟨"PloughField", am_inN 371 (by decide +kernel) rfl⟩⟩
set_option maxRecDepth 100000 in
theorem fsRX11_206 : am_FS RX11 206 2 4 1 := ⟨RX2, TX2, 6, tyX2, cb2, rfl, by decide, Or.inr ⟨"PloughField", am_inN 241 (by decide +kernel) rfl⟩⟩
set_option maxRecDepth 100000 in
theorem fwRX11_206 : am_FW RX11 206 2 4 1 := ⟨RX2, TX2, 6, tyX2, cb2, rfl, by decide, rfl, Or.inr ⟨rfl, by decide +kernel⟩, Or.inr ⟨"PloughField", am_inN 241 (by decide +kernel) rfl⟩⟩
set_option maxRecDepth 100000 in
theorem fsRX11_210 : am_FS RX11 210 2 5 1 := ⟨RX2, TX2, 6, tyX2, cb2, rfl, by decide, Or.inr ⟨"PloughField", am_inN 243 (by decide +kernel) rfl⟩⟩
set_option maxRecDepth 100000 in
theorem fwRX11_210 : am_FW RX11 210 2 5 1 := ⟨RX2, TX2, 6, tyX2, cb2, rfl, by decide, rfl, Or.inr ⟨rfl, by decide +kernel⟩, Or.inr ⟨"PloughField", am_inN 243 (by decide +kernel) rfl⟩⟩
set_option maxRecDepth 100000 in
theorem fsRX11_215 : am_FS RX11 215 5 8 1 := ⟨RX6, TX6, 11, tyX6, cb5, rfl, by decide, Or.inr ⟨"PloughField", am_inN 276 (by decide +kernel) rfl⟩⟩
set_option maxRecDepth 100000 in
theorem fwRX11_215 : am_FW RX11 215 5 8 1 := ⟨RX6, TX6, 11, tyX6, cb5, rfl, by decide, rfl, Or.inr ⟨rfl, by decide +kernel⟩, Or.inr ⟨"PloughField", am_inN 276 (by decide +kernel) rfl⟩⟩
set_option maxRecDepth 100000 in
theorem fsRX11_218 : am_FS RX11 218 5 9 1 := ⟨RX6, TX6, 11, tyX6, cb5, rfl, by decide, Or.inr ⟨"PloughField", am_inN 278 (by decide +kernel) rfl⟩⟩
set_option maxRecDepth 100000 in
theorem fwRX11_218 : am_FW RX11 218 5 9 1 := ⟨RX6, TX6, 11, tyX6, cb5, rfl, by decide, rfl, Or.inr ⟨rfl, by decide +kernel⟩, Or.inr ⟨"PloughField", am_inN 278 (by decide +kernel) rfl⟩⟩
set_option maxRecDepth 100000 in
theorem fsRX11_231 : am_FS RX11 231 7 0 2 := ⟨RX8, TX8, 1, tyX8, cb7, rfl, by decide, Or.inr ⟨"PloughField", am_inN 490 (by decide +kernel) rfl⟩⟩
set_option maxRecDepth 100000 in
theorem fsRX11_255 : am_FS RX11 255 6 4 0 := ⟨RX7, TX7, 9, tyX7, cb6, rfl, by decide, Or.inr ⟨"PloughField", am_inN 420 (by decide +kernel) rfl⟩⟩
set_option maxRecDepth 100000 in
theorem fwRX11_255 : am_FW RX11 255 6 4 0 := ⟨RX7, TX7, 9, tyX7, cb6, rfl, by decide, rfl, Or.inl ⟨rfl, by decide +kernel⟩, Or.inr ⟨"PloughField", am_inN 420 (by decide +kernel) rfl⟩⟩
set_option maxRecDepth 100000 in
theorem fsRX11_261 : am_FS RX11 261 6 3 2 := ⟨RX7, TX7, 9, tyX7, cb6, rfl, by decide, Or.inr ⟨"PloughField", am_inN 418 (by decide +kernel) rfl⟩⟩
set_option maxRecDepth 100000 in
theorem fsRX11_264 : am_FS RX11 264 6 7 0 := ⟨RX7, TX7, 9, tyX7, cb6, rfl, by decide, Or.inr ⟨"PloughField", am_inN 424 (by decide +kernel) rfl⟩⟩
set_option maxRecDepth 100000 in
theorem fwRX11_264 : am_FW RX11 264 6 7 0 := ⟨RX7, TX7, 9, tyX7, cb6, rfl, by decide, rfl, Or.inl ⟨rfl, by decide +kernel⟩, Or.inr ⟨"PloughField", am_inN 424 (by decide +kernel) rfl⟩⟩
set_option maxRecDepth 100000 in
theorem fsRX11_267 : am_FS RX11 267 6 8 0 := ⟨RX7, TX7, 9, tyX7, cb6, rfl, by decide, Or.inr ⟨"PloughField", am_inN 426 (by decide +kernel) rfl⟩⟩
set_option maxRecDepth 100000 in
theorem fwRX11_267 : am_FW RX11 267 6 8 0 := ⟨RX7, TX7, 9, tyX7, cb6, rfl, by decide, rfl, Or.inl ⟨rfl, by decide +kernel⟩, Or.inr ⟨"PloughField", am_inN 426 (by decide +kernel) rfl⟩⟩
set_option maxRecDepth 100000 in
theorem fsRX11_277 : am_FS RX11 277 3 5 0 := ⟨RX3, TX3, 8, tyX3, cb3, rfl, by decide, Or.inr ⟨"PloughField", am_inN 459 (by decide +kernel) rfl⟩⟩
set_option maxRecDepth 100000 in
theorem fwRX11_277 : am_FW RX11 277 3 5 0 := ⟨RX3, TX3, 8, tyX3, cb3, rfl, by decide, rfl, Or.inl ⟨rfl, by decide +kernel⟩, Or.inr ⟨"PloughField", am_inN 459 (by decide +kernel) rfl⟩⟩
set_option maxRecDepth 100000 in
theorem fsRX11_280 : am_FS RX11 280 3 6 0 := ⟨RX3, TX3, 8, tyX3, cb3, rfl, by decide, Or.inr ⟨"PloughField", am_inN 461 (by decide +kernel) rfl⟩⟩
set_option maxRecDepth 100000 in
theorem fwRX11_280 : am_FW RX11 280 3 6 0 := ⟨RX3, TX3, 8, tyX3, cb3, rfl, by decide, rfl, Or.inl ⟨rfl, by decide +kernel⟩, Or.inr ⟨"PloughField", am_inN 461 (by decide +kernel) rfl⟩⟩
set_option maxRecDepth 100000 in
theorem fsRX11_283 : am_FS RX11 283 3 7 0 := ⟨RX3, TX3, 8, tyX3, cb3, rfl, by decide, Or.inr ⟨"PloughField", am_inN 463 (by decide +kernel) rfl⟩⟩
set_option maxRecDepth 100000 in
theorem fwRX11_283 : am_FW RX11 283 3 7 0 := ⟨RX3, TX3, 8, tyX3, cb3, rfl, by decide, rfl, Or.inl ⟨rfl, by decide +kernel⟩, Or.inr ⟨"PloughField", am_inN 463 (by decide +kernel) rfl⟩⟩
set_option maxRecDepth 100000 in
theorem fsRX11_304 : am_FS RX11 304 0 0 2 := ⟨RX0, TX0, 6, tyX0, cb0, rfl, by decide, Or.inr ⟨"PloughField", am_inN 168 (by decide +kernel) rfl⟩⟩
set_option maxRecDepth 100000 in
theorem fsRX11_316 : am_FS RX11 316 3 3 0 := ⟨RX3, TX3, 8, tyX3, cb3, rfl, by decide, Or.inr ⟨"PloughField", am_inN 456 (by decide +kernel) rfl⟩⟩
set_option maxRecDepth 100000 in
theorem fwRX11_316 : am_FW RX11 316 3 3 0 := ⟨RX3, TX3, 8, tyX3, cb3, rfl, by decide, rfl, Or.inl ⟨rfl, by decide +kernel⟩, Or.inr ⟨"PloughField", am_inN 456 (by decide +kernel) rfl⟩⟩
set_option maxRecDepth 100000 in
theorem fsRX12_7 : am_FS RX12 7 11 0 2 := ⟨RX12, TX12, 65, tyX12, cb11, rfl, by decide, Or.inl (am_in 1349 (by decide +kernel) rfl)⟩
set_option maxRecDepth 100000 in
theorem fsRX12_13 : am_FS RX12 13 11 1 2 := ⟨RX12, TX12, 65, tyX12, cb11, rfl, by decide, Or.inl (am_in 1350 (by decide +kernel) rfl)⟩
set_option maxRecDepth 100000 in
theorem fsRX12_16 : am_FS RX12 16 11 5 2 := ⟨RX12, TX12, 65, tyX12, cb11, rfl, by decide, Or.inl (am_in 1354 (by decide +kernel) rfl)⟩
set_option maxRecDepth 100000 in
theorem fsRX12_19 : am_FS RX12 19 11 6 2 := ⟨RX12, TX12, 65, tyX12, cb11, rfl, by decide, Or.inl (am_in 1355 (by decide +kernel) rfl)⟩
set_option maxRecDepth 100000 in
theorem fsRX12_22 : am_FS RX12 22 11 7 2 := ⟨RX12, TX12, 65, tyX12, cb11, rfl, by decide, Or.inl (am_in 1356 (by decide +kernel) rfl)⟩
set_option maxRecDepth 100000 in
theorem fsRX12_25 : am_FS RX12 25 11 8 2 := ⟨RX12, TX12, 65, tyX12, cb11, rfl, by decide, Or.inl (am_in 1357 (by decide +kernel) rfl)⟩
set_option maxRecDepth 100000 in
theorem fsRX12_28 : am_FS RX12 28 11 9 2 := ⟨RX12, TX12, 65, tyX12, cb11, rfl, by decide, Or.inl (am_in 1358 (by decide +kernel) rfl)⟩
set_option maxRecDepth 100000 in
theorem fsRX12_31 : am_FS RX12 31 11 15 2 := ⟨RX12, TX12, 65, tyX12, cb11, rfl, by decide, Or.inl (am_in 1364 (by decide +kernel) rfl)⟩
set_option maxRecDepth 100000 in
theorem fsRX12_34 : am_FS RX12 34 11 16 2 := ⟨RX12, TX12, 65, tyX12, cb11, rfl, by decide, Or.inl (am_in 1365 (by decide +kernel) rfl)⟩
set_option maxRecDepth 100000 in
theorem fsRX12_37 : am_FS RX12 37 11 17 2 := ⟨RX12, TX12, 65, tyX12, cb11, rfl, by decide, Or.inl (am_in 1366 (by decide +kernel) rfl)⟩
set_option maxRecDepth 100000 in
theorem fsRX12_40 : am_FS RX12 40 11 18 2 := ⟨RX12, TX12, 65, tyX12, cb11, rfl, by decide, Or.inl (am_in 1367 (by decide +kernel) rfl)⟩
set_option maxRecDepth 100000 in
theorem fsRX12_43 : am_FS RX12 43 11 19 2 := ⟨RX12, TX12, 65, tyX12, cb11, rfl, by decide, Or.inl (am_in 1368 (by decide +kernel) rfl)⟩
set_option maxRecDepth 100000 in
theorem fsRX12_46 : am_FS RX12 46 11 20 2 := ⟨RX12, TX12, 65, tyX12, cb11, rfl, by decide, Or.inl (am_in 1369 (by decide +kernel) rfl)⟩
set_option maxRecDepth 100000 in
theorem fsRX12_49 : am_FS RX12 49 11 21 2 := ⟨RX12, TX12, 65, tyX12, cb11, rfl, by decide, Or.inl (am_in 1370 (by decide +kernel) rfl)⟩
set_option maxRecDepth 100000 in
theorem fsRX12_52 : am_FS RX12 52 11 22 2 := ⟨RX12, TX12, 65, tyX12, cb11, rfl, by decide, Or.inl (am_in 1371 (by decide +kernel) rfl)⟩
set_option maxRecDepth 100000 in
theorem fsRX12_55 : am_FS RX12 55 11 23 2 := ⟨RX12, TX12, 65, tyX12, cb11, rfl, by decide, Or.inl (am_in 1372 (by decide +kernel) rfl)⟩
set_option maxRecDepth 100000 in
theorem fsRX12_58 : am_FS RX12 58 11 24 2 := ⟨RX12, TX12, 65, tyX12, cb11, rfl, by decide, Or.inl (am_in 1373 (by decide +kernel) rfl)⟩
set_option maxRecDepth 100000 in
theorem fsRX12_61 : am_FS RX12 61 11 25 2 := ⟨RX12, TX12, 65, tyX12, cb11, rfl, by decide, Or.inl (am_in 1374 (by decide +kernel) rfl)⟩
set_option maxRecDepth 100000 in
theorem fsRX12_64 : am_FS RX12 64 11 26 2 := ⟨RX12, TX12, 65, tyX12, cb11, rfl, by decide, Or.inl (am_in 1375 (by decide +kernel) rfl)⟩
set_option maxRecDepth 100000 in
theorem fsRX12_67 : am_FS RX12 67 11 27 2 := ⟨RX12, TX12, 65, tyX12, cb11, rfl, by decide, Or.inl (am_in 1376 (by decide +kernel) rfl)⟩
set_option maxRecDepth 100000 in
theorem fsRX12_70 : am_FS RX12 70 11 28 2 := ⟨RX12, TX12, 65, tyX12, cb11, rfl, by decide, Or.inl (am_in 1377 (by decide +kernel) rfl)⟩
set_option maxRecDepth 100000 in
theorem fsRX12_73 : am_FS RX12 73 11 29 2 := ⟨RX12, TX12, 65, tyX12, cb11, rfl, by decide, Or.inl (am_in 1378 (by decide +kernel) rfl)⟩
set_option maxRecDepth 100000 in
theorem fsRX12_77 : am_FS RX12 77 11 30 0 := ⟨RX12, TX12, 65, tyX12, cb11, rfl, by decide, Or.inl (am_in 1379 (by decide +kernel) rfl)⟩
set_option maxRecDepth 100000 in
theorem fwRX12_77 : am_FW RX12 77 11 30 0 := ⟨RX12, TX12, 65, tyX12, cb11, rfl, by decide, rfl, Or.inl ⟨rfl, by decide +kernel⟩, Or.inl (am_in 1379 (by decide +kernel) rfl)⟩
set_option maxRecDepth 100000 in
theorem fsRX12_81 : am_FS RX12 81 11 32 2 := ⟨RX12, TX12, 65, tyX12, cb11, rfl, by decide, Or.inl (am_in 1381 (by decide +kernel) rfl)⟩
set_option maxRecDepth 100000 in
theorem fsRX12_85 : am_FS RX12 85 11 33 2 := ⟨RX12, TX12, 65, tyX12, cb11, rfl, by decide, Or.inl (am_in 1382 (by decide +kernel) rfl)⟩
set_option maxRecDepth 100000 in
theorem fsRX12_88 : am_FS RX12 88 11 34 2 := ⟨RX12, TX12, 65, tyX12, cb11, rfl, by decide, Or.inl (am_in 1383 (by decide +kernel) rfl)⟩
set_option maxRecDepth 100000 in
theorem fsRX12_91 : am_FS RX12 91 11 35 2 := ⟨RX12, TX12, 65, tyX12, cb11, rfl, by decide, Or.inl (am_in 1384 (by decide +kernel) rfl)⟩
set_option maxRecDepth 100000 in
theorem fsRX12_94 : am_FS RX12 94 11 36 2 := ⟨RX12, TX12, 65, tyX12, cb11, rfl, by decide, Or.inl (am_in 1385 (by decide +kernel) rfl)⟩
set_option maxRecDepth 100000 in
theorem fsRX12_97 : am_FS RX12 97 11 37 2 := ⟨RX12, TX12, 65, tyX12, cb11, rfl, by decide, Or.inl (am_in 1386 (by decide +kernel) rfl)⟩
set_option maxRecDepth 100000 in
theorem fsRX12_100 : am_FS RX12 100 11 38 2 := ⟨RX12, TX12, 65, tyX12, cb11, rfl, by decide, Or.inl (am_in 1387 (by decide +kernel) rfl)⟩
set_option maxRecDepth 100000 in
theorem fsRX12_103 : am_FS RX12 103 11 39 2 := ⟨RX12, TX12, 65, tyX12, cb11, rfl, by decide, Or.inl (am_in 1388 (by decide +kernel) rfl)⟩
set_option maxRecDepth 100000 in
theorem fsRX12_106 : am_FS RX12 106 11 41 2 := ⟨RX12, TX12, 65, tyX12, cb11, rfl, by decide, Or.inl (am_in 1390 (by decide +kernel) rfl)⟩
set_option maxRecDepth 100000 in
theorem fsRX12_109 : am_FS RX12 109 11 43 2 := ⟨RX12, TX12, 65, tyX12, cb11, rfl, by decide, Or.inl (am_in 1392 (by decide +kernel) rfl)⟩
set_option maxRecDepth 100000 in
theorem fsRX12_112 : am_FS RX12 112 11 44 2 := ⟨RX12, TX12, 65, tyX12, cb11, rfl, by decide, Or.inl (am_in 1393 (by decide +kernel) rfl)⟩
set_option maxRecDepth 100000 in
theorem fsRX12_115 : am_FS RX12 115 11 51 0 := ⟨RX12, TX12, 65, tyX12, cb11, rfl, by decide, Or.inl (am_in 1400 (by decide +kernel) rfl)⟩
set_option maxRecDepth 100000 in
theorem fwRX12_115 : am_FW RX12 115 11 51 0 := ⟨RX12, TX12, 65, tyX12, cb11, rfl, by decide, rfl, Or.inl ⟨rfl, by decide +kernel⟩, Or.inl (am_in 1400 (by decide +kernel) rfl)⟩
set_option maxRecDepth 100000 in
theorem fsRX12_118 : am_FS RX12 118 11 52 2 := ⟨RX12, TX12, 65, tyX12, cb11, rfl, by decide, Or.inl (am_in 1401 (by decide +kernel) rfl)⟩
set_option maxRecDepth 100000 in
theorem fsRX12_121 : am_FS RX12 121 11 53 2 := ⟨RX12, TX12, 65, tyX12, cb11, rfl, by decide, Or.inl (am_in 1402 (by decide +kernel) rfl)⟩
set_option maxRecDepth 100000 in
theorem fsRX12_124 : am_FS RX12 124 11 54 2 := ⟨RX12, TX12, 65, tyX12, cb11, rfl, by decide, Or.inl (am_in 1403 (by decide +kernel) rfl)⟩
set_option maxRecDepth 100000 in
theorem fsRX12_127 : am_FS RX12 127 11 55 2 := ⟨RX12, TX12, 65, tyX12, cb11, rfl, by decide, Or.inl (am_in 1404 (by decide +kernel) rfl)⟩
set_option maxRecDepth 100000 in
theorem fsRX12_130 : am_FS RX12 130 11 56 2 := ⟨RX12, TX12, 65, tyX12, cb11, rfl, by decide, Or.inl (am_in 1405 (by decide +kernel) rfl)⟩
set_option maxRecDepth 100000 in
theorem fsRX12_133 : am_FS RX12 133 11 57 2 := ⟨RX12, TX12, 65, tyX12, cb11, rfl, by decide, Or.inl (am_in 1406 (by decide +kernel) rfl)⟩
set_option maxRecDepth 100000 in
theorem fsRX12_136 : am_FS RX12 136 11 58 2 := ⟨RX12, TX12, 65, tyX12, cb11, rfl, by decide, Or.inl (am_in 1407 (by decide +kernel) rfl)⟩
set_option maxRecDepth 100000 in
theorem fsRX12_139 : am_FS RX12 139 11 59 2 := ⟨RX12, TX12, 65, tyX12, cb11, rfl, by decide, Or.inl (am_in 1408 (by decide +kernel) rfl)⟩
set_option maxRecDepth 100000 in
theorem fsRX12_142 : am_FS RX12 142 11 60 2 := ⟨RX12, TX12, 65, tyX12, cb11, rfl, by decide, Or.inl (am_in 1409 (by decide +kernel) rfl)⟩
set_option maxRecDepth 100000 in
theorem fsRX12_145 : am_FS RX12 145 11 61 2 := ⟨RX12, TX12, 65, tyX12, cb11, rfl, by decide, Or.inl (am_in 1410 (by decide +kernel) rfl)⟩
set_option maxRecDepth 100000 in
theorem fsRX12_149 : am_FS RX12 149 11 62 2 := ⟨RX12, TX12, 65, tyX12, cb11, rfl, by decide, Or.inl (am_in 1411 (by decide +kernel) rfl)⟩
set_option maxRecDepth 100000 in
theorem fsRX12_155 : am_FS RX12 155 11 2 1 := ⟨RX12, TX12, 65, tyX12, cb11, rfl, by decide, Or.inl (am_in 1351 (by decide +kernel) rfl)⟩
set_option maxRecDepth 100000 in
theorem fwRX12_155 : am_FW RX12 155 11 2 1 := ⟨RX12, TX12, 65, tyX12, cb11, rfl, by decide, rfl, Or.inr ⟨rfl, by decide +kernel⟩, Or.inl (am_in 1351 (by decide +kernel) rfl)⟩
set_option maxRecDepth 100000 in
theorem fsRX12_159 : am_FS RX12 159 11 3 1 := ⟨RX12, TX12, 65, tyX12, cb11, rfl, by decide, Or.inl (am_in 1352 (by decide +kernel) rfl)⟩
set_option maxRecDepth 100000 in
theorem fwRX12_159 : am_FW RX12 159 11 3 1 := ⟨RX12, TX12, 65, tyX12, cb11, rfl, by decide, rfl, Or.inr ⟨rfl, by decide +kernel⟩, Or.inl (am_in 1352 (by decide +kernel) rfl)⟩
set_option maxRecDepth 100000 in
theorem fsRX12_172 : am_FS RX12 172 11 31 0 := ⟨RX12, TX12, 65, tyX12, cb11, rfl, by decide, Or.inl (am_in 1380 (by decide +kernel) rfl)⟩
set_option maxRecDepth 100000 in
theorem fwRX12_172 : am_FW RX12 172 11 31 0 := ⟨RX12, TX12, 65, tyX12, cb11, rfl, by decide, rfl, Or.inl ⟨rfl, by decide +kernel⟩, Or.inl (am_in 1380 (by decide +kernel) rfl)⟩
set_option maxRecDepth 100000 in
theorem fsRX12_175 : am_FS RX12 175 11 4 0 := ⟨RX12, TX12, 65, tyX12, cb11, rfl, by decide, Or.inl (am_in 1353 (by decide +kernel) rfl)⟩
set_option maxRecDepth 100000 in
theorem fwRX12_175 : am_FW RX12 175 11 4 0 := ⟨RX12, TX12, 65, tyX12, cb11, rfl, by decide, rfl, Or.inl ⟨rfl, by decide +kernel⟩, Or.inl (am_in 1353 (by decide +kernel) rfl)⟩
set_option maxRecDepth 100000 in
theorem fsRX12_210 : am_FS RX12 210 11 10 0 := ⟨RX12, TX12, 65, tyX12, cb11, rfl, by decide, Or.inl (am_in 1359 (by decide +kernel) rfl)⟩
set_option maxRecDepth 100000 in
theorem fwRX12_210 : am_FW RX12 210 11 10 0 := ⟨RX12, TX12, 65, tyX12, cb11, rfl, by decide, rfl, Or.inl ⟨rfl, by decide +kernel⟩, Or.inl (am_in 1359 (by decide +kernel) rfl)⟩
set_option maxRecDepth 100000 in
theorem fsRX12_213 : am_FS RX12 213 11 11 0 := ⟨RX12, TX12, 65, tyX12, cb11, rfl, by decide, Or.inl (am_in 1360 (by decide +kernel) rfl)⟩
set_option maxRecDepth 100000 in
theorem fwRX12_213 : am_FW RX12 213 11 11 0 := ⟨RX12, TX12, 65, tyX12, cb11, rfl, by decide, rfl, Or.inl ⟨rfl, by decide +kernel⟩, Or.inl (am_in 1360 (by decide +kernel) rfl)⟩
set_option maxRecDepth 100000 in
theorem fsRX12_219 : am_FS RX12 219 11 12 0 := ⟨RX12, TX12, 65, tyX12, cb11, rfl, by decide, Or.inl (am_in 1361 (by decide +kernel) rfl)⟩
set_option maxRecDepth 100000 in
theorem fwRX12_219 : am_FW RX12 219 11 12 0 := ⟨RX12, TX12, 65, tyX12, cb11, rfl, by decide, rfl, Or.inl ⟨rfl, by decide +kernel⟩, Or.inl (am_in 1361 (by decide +kernel) rfl)⟩
set_option maxRecDepth 100000 in
theorem fsRX12_222 : am_FS RX12 222 11 13 0 := ⟨RX12, TX12, 65, tyX12, cb11, rfl, by decide, Or.inl (am_in 1362 (by decide +kernel) rfl)⟩
set_option maxRecDepth 100000 in
theorem fwRX12_222 : am_FW RX12 222 11 13 0 := ⟨RX12, TX12, 65, tyX12, cb11, rfl, by decide, rfl, Or.inl ⟨rfl, by decide +kernel⟩, Or.inl (am_in 1362 (by decide +kernel) rfl)⟩
set_option maxRecDepth 100000 in
theorem fsRX12_225 : am_FS RX12 225 11 14 0 := ⟨RX12, TX12, 65, tyX12, cb11, rfl, by decide, Or.inl (am_in 1363 (by decide +kernel) rfl)⟩
set_option maxRecDepth 100000 in
theorem fwRX12_225 : am_FW RX12 225 11 14 0 := ⟨RX12, TX12, 65, tyX12, cb11, rfl, by decide, rfl, Or.inl ⟨rfl, by decide +kernel⟩, Or.inl (am_in 1363 (by decide +kernel) rfl)⟩
set_option maxRecDepth 100000 in
theorem fsRX12_341 : am_FS RX12 341 11 40 0 := ⟨RX12, TX12, 65, tyX12, cb11, rfl, by decide, Or.inl (am_in 1389 (by decide +kernel) rfl)⟩
set_option maxRecDepth 100000 in
theorem fwRX12_341 : am_FW RX12 341 11 40 0 := ⟨RX12, TX12, 65, tyX12, cb11, rfl, by decide, rfl, Or.inl ⟨rfl, by decide +kernel⟩, Or.inl (am_in 1389 (by decide +kernel) rfl)⟩
set_option maxRecDepth 100000 in
theorem fsRX12_353 : am_FS RX12 353 11 42 0 := ⟨RX12, TX12, 65, tyX12, cb11, rfl, by decide, Or.inl (am_in 1391 (by decide +kernel) rfl)⟩
set_option maxRecDepth 100000 in
theorem fwRX12_353 : am_FW RX12 353 11 42 0 := ⟨RX12, TX12, 65, tyX12, cb11, rfl, by decide, rfl, Or.inl ⟨rfl, by decide +kernel⟩, Or.inl (am_in 1391 (by decide +kernel) rfl)⟩
set_option maxRecDepth 100000 in
theorem fsRX12_360 : am_FS RX12 360 11 47 0 := ⟨RX12, TX12, 65, tyX12, cb11, rfl, by decide, Or.inl (am_in 1396 (by decide +kernel) rfl)⟩
set_option maxRecDepth 100000 in
theorem fwRX12_360 : am_FW RX12 360 11 47 0 := ⟨RX12, TX12, 65, tyX12, cb11, rfl, by decide, rfl, Or.inl ⟨rfl, by decide +kernel⟩, Or.inl (am_in 1396 (by decide +kernel) rfl)⟩
set_option maxRecDepth 100000 in
theorem fsRX12_366 : am_FS RX12 366 11 49 0 := ⟨RX12, TX12, 65, tyX12, cb11, rfl, by decide, Or.inl (am_in 1398 (by decide +kernel) rfl)⟩
set_option maxRecDepth 100000 in
theorem fwRX12_366 : am_FW RX12 366 11 49 0 := ⟨RX12, TX12, 65, tyX12, cb11, rfl, by decide, rfl, Or.inl ⟨rfl, by decide +kernel⟩, Or.inl (am_in 1398 (by decide +kernel) rfl)⟩
set_option maxRecDepth 100000 in
theorem fsRX12_369 : am_FS RX12 369 11 48 0 := ⟨RX12, TX12, 65, tyX12, cb11, rfl, by decide, Or.inl (am_in 1397 (by decide +kernel) rfl)⟩
set_option maxRecDepth 100000 in
theorem fwRX12_369 : am_FW RX12 369 11 48 0 := ⟨RX12, TX12, 65, tyX12, cb11, rfl, by decide, rfl, Or.inl ⟨rfl, by decide +kernel⟩, Or.inl (am_in 1397 (by decide +kernel) rfl)⟩
set_option maxRecDepth 100000 in
theorem fsRX12_375 : am_FS RX12 375 11 63 0 := ⟨RX12, TX12, 65, tyX12, cb11, rfl, by decide, Or.inl (am_in 1412 (by decide +kernel) rfl)⟩
set_option maxRecDepth 100000 in
theorem fwRX12_375 : am_FW RX12 375 11 63 0 := ⟨RX12, TX12, 65, tyX12, cb11, rfl, by decide, rfl, Or.inl ⟨rfl, by decide +kernel⟩, Or.inl (am_in 1412 (by decide +kernel) rfl)⟩
set_option maxRecDepth 100000 in
theorem fsRX12_382 : am_FS RX12 382 11 64 0 := ⟨RX12, TX12, 65, tyX12, cb11, rfl, by decide, Or.inl (am_in 1413 (by decide +kernel) rfl)⟩
set_option maxRecDepth 100000 in
theorem fwRX12_382 : am_FW RX12 382 11 64 0 := ⟨RX12, TX12, 65, tyX12, cb11, rfl, by decide, rfl, Or.inl ⟨rfl, by decide +kernel⟩, Or.inl (am_in 1413 (by decide +kernel) rfl)⟩
set_option maxRecDepth 100000 in
theorem fsRX12_401 : am_FS RX12 401 11 46 0 := ⟨RX12, TX12, 65, tyX12, cb11, rfl, by decide, Or.inl (am_in 1395 (by decide +kernel) rfl)⟩
set_option maxRecDepth 100000 in
theorem fwRX12_401 : am_FW RX12 401 11 46 0 := ⟨RX12, TX12, 65, tyX12, cb11, rfl, by decide, rfl, Or.inl ⟨rfl, by decide +kernel⟩, Or.inl (am_in 1395 (by decide +kernel) rfl)⟩
set_option maxRecDepth 100000 in
theorem fsRX12_404 : am_FS RX12 404 11 50 0 := ⟨RX12, TX12, 65, tyX12, cb11, rfl, by decide, Or.inl (am_in 1399 (by decide +kernel) rfl)⟩
set_option maxRecDepth 100000 in
theorem fwRX12_404 : am_FW RX12 404 11 50 0 := ⟨RX12, TX12, 65, tyX12, cb11, rfl, by decide, rfl, Or.inl ⟨rfl, by decide +kernel⟩, Or.inl (am_in 1399 (by decide +kernel) rfl)⟩
set_option maxRecDepth 100000 in
theorem fsRX12_461 : am_FS RX12 461 11 45 0 := ⟨RX12, TX12, 65, tyX12, cb11, rfl, by decide, Or.inl (am_in 1394 (by decide +kernel) rfl)⟩
set_option maxRecDepth 100000 in
theorem fwRX12_461 : am_FW RX12 461 11 45 0 := ⟨RX12, TX12, 65, tyX12, cb11, rfl, by decide, rfl, Or.inl ⟨rfl, by decide +kernel⟩, Or.inl (am_in 1394 (by decide +kernel) rfl)⟩
set_option maxRecDepth 100000 in
theorem fsRX2_9 : am_FS RX2 9 2 0 2 := ⟨RX2, TX2, 6, tyX2, cb2, rfl, by decide, Or.inl (am_in 231 (by decide +kernel) rfl)⟩
set_option maxRecDepth 100000 in
theorem fsRX2_15 : am_FS RX2 15 2 1 2 := ⟨RX2, TX2, 6, tyX2, cb2, rfl, by decide, Or.inl (am_in 233 (by decide +kernel) rfl)⟩
set_option maxRecDepth 100000 in
theorem fsRX2_18 : am_FS RX2 18 2 2 2 := ⟨RX2, TX2, 6, tyX2, cb2, rfl, by decide, Or.inl (am_in 236 (by decide +kernel) rfl)⟩
set_option maxRecDepth 100000 in
theorem fsRX2_21 : am_FS RX2 21 2 3 2 := ⟨RX2, TX2, 6, tyX2, cb2, rfl, by decide, Or.inl (am_in 239 (by decide +kernel) rfl)⟩
set_option maxRecDepth 100000 in
theorem fsRX2_30 : am_FS RX2 30 2 4 1 := ⟨RX2, TX2, 6, tyX2, cb2, rfl, by decide, Or.inl (am_in 240 (by decide +kernel) rfl)⟩
set_option maxRecDepth 100000 in
theorem fwRX2_30 : am_FW RX2 30 2 4 1 := ⟨RX2, TX2, 6, tyX2, cb2, rfl, by decide, rfl, Or.inr ⟨rfl, by decide +kernel⟩, Or.inl (am_in 240 (by decide +kernel) rfl)⟩
set_option maxRecDepth 100000 in
theorem fsRX2_34 : am_FS RX2 34 2 5 1 := ⟨RX2, TX2, 6, tyX2, cb2, rfl, by decide, Or.inl (am_in 242 (by decide +kernel) rfl)⟩
set_option maxRecDepth 100000 in
theorem fwRX2_34 : am_FW RX2 34 2 5 1 := ⟨RX2, TX2, 6, tyX2, cb2, rfl, by decide, rfl, Or.inr ⟨rfl, by decide +kernel⟩, Or.inl (am_in 242 (by decide +kernel) rfl)⟩
set_option maxRecDepth 100000 in
theorem fsRX3_9 : am_FS RX3 9 3 0 2 := ⟨RX3, TX3, 8, tyX3, cb3, rfl, by decide, Or.inl (am_in 452 (by decide +kernel) rfl)⟩
set_option maxRecDepth 100000 in
theorem fsRX3_15 : am_FS RX3 15 3 1 2 := ⟨RX3, TX3, 8, tyX3, cb3, rfl, by decide, Or.inl (am_in 453 (by decide +kernel) rfl)⟩
set_option maxRecDepth 100000 in
theorem fsRX3_24 : am_FS RX3 24 3 2 0 := ⟨RX3, TX3, 8, tyX3, cb3, rfl, by decide, Or.inl (am_in 454 (by decide +kernel) rfl)⟩
set_option maxRecDepth 100000 in
theorem fwRX3_24 : am_FW RX3 24 3 2 0 := ⟨RX3, TX3, 8, tyX3, cb3, rfl, by decide, rfl, Or.inl ⟨rfl, by decide +kernel⟩, Or.inl (am_in 454 (by decide +kernel) rfl)⟩
set_option maxRecDepth 100000 in
theorem fsRX3_34 : am_FS RX3 34 3 3 0 := ⟨RX3, TX3, 8, tyX3, cb3, rfl, by decide, Or.inl (am_in 455 (by decide +kernel) rfl)⟩
set_option maxRecDepth 100000 in
theorem fwRX3_34 : am_FW RX3 34 3 3 0 := ⟨RX3, TX3, 8, tyX3, cb3, rfl, by decide, rfl, Or.inl ⟨rfl, by decide +kernel⟩, Or.inl (am_in 455 (by decide +kernel) rfl)⟩
set_option maxRecDepth 100000 in
theorem fsRX3_37 : am_FS RX3 37 3 4 0 := ⟨RX3, TX3, 8, tyX3, cb3, rfl, by decide, Or.inl (am_in 457 (by decide +kernel) rfl)⟩
set_option maxRecDepth 100000 in
theorem fwRX3_37 : am_FW RX3 37 3 4 0 := ⟨RX3, TX3, 8, tyX3, cb3, rfl, by decide, rfl, Or.inl ⟨rfl, by decide +kernel⟩, Or.inl (am_in 457 (by decide +kernel) rfl)⟩
set_option maxRecDepth 100000 in
theorem fsRX3_40 : am_FS RX3 40 3 5 0 := ⟨RX3, TX3, 8, tyX3, cb3, rfl, by decide, Or.inl (am_in 458 (by decide +kernel) rfl)⟩
set_option maxRecDepth 100000 in
theorem fwRX3_40 : am_FW RX3 40 3 5 0 := ⟨RX3, TX3, 8, tyX3, cb3, rfl, by decide, rfl, Or.inl ⟨rfl, by decide +kernel⟩, Or.inl (am_in 458 (by decide +kernel) rfl)⟩
set_option maxRecDepth 100000 in
theorem fsRX3_51 : am_FS RX3 51 3 7 0 := ⟨RX3, TX3, 8, tyX3, cb3, rfl, by decide, Or.inl (am_in 462 (by decide +kernel) rfl)⟩
set_option maxRecDepth 100000 in
theorem fwRX3_51 : am_FW RX3 51 3 7 0 := ⟨RX3, TX3, 8, tyX3, cb3, rfl, by decide, rfl, Or.inl ⟨rfl, by decide +kernel⟩, Or.inl (am_in 462 (by decide +kernel) rfl)⟩
set_option maxRecDepth 100000 in
theorem fsRX3_54 : am_FS RX3 54 3 6 0 := ⟨RX3, TX3, 8, tyX3, cb3, rfl, by decide, Or.inl (am_in 460 (by decide +kernel) rfl)⟩
set_option maxRecDepth 100000 in
theorem fwRX3_54 : am_FW RX3 54 3 6 0 := ⟨RX3, TX3, 8, tyX3, cb3, rfl, by decide, rfl, Or.inl ⟨rfl, by decide +kernel⟩, Or.inl (am_in 460 (by decide +kernel) rfl)⟩
set_option maxRecDepth 100000 in
theorem fsRX5_9 : am_FS RX5 9 4 0 2 := ⟨RX5, TX5, 5, tyX5, cb4, rfl, by decide, Or.inl (am_in 203 (by decide +kernel) rfl)⟩
set_option maxRecDepth 100000 in
theorem fsRX5_15 : am_FS RX5 15 4 1 2 := ⟨RX5, TX5, 5, tyX5, cb4, rfl, by decide, Or.inl (am_in 204 (by decide +kernel) rfl)⟩
set_option maxRecDepth 100000 in
theorem fsRX5_18 : am_FS RX5 18 4 2 2 := ⟨RX5, TX5, 5, tyX5, cb4, rfl, by decide, Or.inl (am_in 205 (by decide +kernel) rfl)⟩
set_option maxRecDepth 100000 in
theorem fsRX5_21 : am_FS RX5 21 4 3 2 := ⟨RX5, TX5, 5, tyX5, cb4, rfl, by decide, Or.inl (am_in 206 (by decide +kernel) rfl)⟩
set_option maxRecDepth 100000 in
theorem fsRX5_42 : am_FS RX5 42 1 5 2 := ⟨RX1, TX1, 6, tyX1, cb1, rfl, by decide, Or.inr ⟨"PloughField", am_inN 321 (by decide +kernel) rfl⟩⟩
set_option maxRecDepth 100000 in
theorem fsRX5_52 : am_FS RX5 52 2 2 2 := ⟨RX2, TX2, 6, tyX2, cb2, rfl, by decide, Or.inr ⟨"PloughField", am_inN 237 (by decide +kernel) rfl⟩⟩
set_option maxRecDepth 100000 in
theorem fsRX5_55 : am_FS RX5 55 1 1 2 := ⟨RX1, TX1, 6, tyX1, cb1, rfl, by decide, Or.inr ⟨"PloughField", am_inN 312 (by decide +kernel) rfl⟩⟩
set_option maxRecDepth 100000 in
theorem fsRX5_62 : am_FS RX5 62 4 4 0 := ⟨RX5, TX5, 5, tyX5, cb4, rfl, by decide, Or.inl (am_in 207 (by decide +kernel) rfl)⟩
set_option maxRecDepth 100000 in
theorem fwRX5_62 : am_FW RX5 62 4 4 0 := ⟨RX5, TX5, 5, tyX5, cb4, rfl, by decide, rfl, Or.inl ⟨rfl, by decide +kernel⟩, Or.inl (am_in 207 (by decide +kernel) rfl)⟩
set_option maxRecDepth 100000 in
theorem fsRX6_9 : am_FS RX6 9 5 1 2 := ⟨RX6, TX6, 11, tyX6, cb5, rfl, by decide, Or.inl (am_in 264 (by decide +kernel) rfl)⟩
set_option maxRecDepth 100000 in
theorem fsRX6_15 : am_FS RX6 15 5 2 2 := ⟨RX6, TX6, 11, tyX6, cb5, rfl, by decide, Or.inl (am_in 266 (by decide +kernel) rfl)⟩
set_option maxRecDepth 100000 in
theorem fsRX6_18 : am_FS RX6 18 5 3 2 := ⟨RX6, TX6, 11, tyX6, cb5, rfl, by decide, Or.inl (am_in 268 (by decide +kernel) rfl)⟩
set_option maxRecDepth 100000 in
theorem fsRX6_21 : am_FS RX6 21 5 4 2 := ⟨RX6, TX6, 11, tyX6, cb5, rfl, by decide, Or.inl (am_in 270 (by decide +kernel) rfl)⟩
set_option maxRecDepth 100000 in
theorem fsRX6_24 : am_FS RX6 24 5 5 2 := ⟨RX6, TX6, 11, tyX6, cb5, rfl, by decide, Or.inl (am_in 271 (by decide +kernel) rfl)⟩
set_option maxRecDepth 100000 in
theorem fsRX6_27 : am_FS RX6 27 5 6 2 := ⟨RX6, TX6, 11, tyX6, cb5, rfl, by decide, Or.inl (am_in 273 (by decide +kernel) rfl)⟩
set_option maxRecDepth 100000 in
theorem fsRX6_30 : am_FS RX6 30 5 7 2 := ⟨RX6, TX6, 11, tyX6, cb5, rfl, by decide, Or.inl (am_in 274 (by decide +kernel) rfl)⟩
set_option maxRecDepth 100000 in
theorem fsRX6_34 : am_FS RX6 34 5 0 2 := ⟨RX6, TX6, 11, tyX6, cb5, rfl, by decide, Or.inl (am_in 263 (by decide +kernel) rfl)⟩
set_option maxRecDepth 100000 in
theorem fsRX6_44 : am_FS RX6 44 5 8 1 := ⟨RX6, TX6, 11, tyX6, cb5, rfl, by decide, Or.inl (am_in 275 (by decide +kernel) rfl)⟩
set_option maxRecDepth 100000 in
theorem fwRX6_44 : am_FW RX6 44 5 8 1 := ⟨RX6, TX6, 11, tyX6, cb5, rfl, by decide, rfl, Or.inr ⟨rfl, by decide +kernel⟩, Or.inl (am_in 275 (by decide +kernel) rfl)⟩
set_option maxRecDepth 100000 in
theorem fsRX6_48 : am_FS RX6 48 5 9 1 := ⟨RX6, TX6, 11, tyX6, cb5, rfl, by decide, Or.inl (am_in 277 (by decide +kernel) rfl)⟩
set_option maxRecDepth 100000 in
theorem fwRX6_48 : am_FW RX6 48 5 9 1 := ⟨RX6, TX6, 11, tyX6, cb5, rfl, by decide, rfl, Or.inr ⟨rfl, by decide +kernel⟩, Or.inl (am_in 277 (by decide +kernel) rfl)⟩
set_option maxRecDepth 100000 in
theorem fsRX6_51 : am_FS RX6 51 5 10 0 := ⟨RX6, TX6, 11, tyX6, cb5, rfl, by decide, Or.inl (am_in 279 (by decide +kernel) rfl)⟩
set_option maxRecDepth 100000 in
theorem fwRX6_51 : am_FW RX6 51 5 10 0 := ⟨RX6, TX6, 11, tyX6, cb5, rfl, by decide, rfl, Or.inl ⟨rfl, by decide +kernel⟩, Or.inl (am_in 279 (by decide +kernel) rfl)⟩
set_option maxRecDepth 100000 in
theorem fsRX6_66 : am_FS RX6 66 0 4 2 := ⟨RX0, TX0, 6, tyX0, cb0, rfl, by decide, Or.inr ⟨"PloughField", am_inN 179 (by decide +kernel) rfl⟩⟩
set_option maxRecDepth 100000 in
theorem fsRX6_97 : am_FS RX6 97 2 1 2 := ⟨RX2, TX2, 6, tyX2, cb2, rfl, by decide, Or.inr ⟨"PloughField", am_inN 234 (by decide +kernel) rfl⟩⟩
set_option maxRecDepth 100000 in
theorem fsRX6_113 : am_FS RX6 113 0 5 2 := ⟨RX0, TX0, 6, tyX0, cb0, rfl, by decide, Or.inr ⟨"PloughField", am_inN 183 (by decide +kernel) rfl⟩⟩
set_option maxRecDepth 100000 in
theorem fsRX7_11 : am_FS RX7 11 6 0 2 := ⟨RX7, TX7, 9, tyX7, cb6, rfl, by decide, Or.inl (am_in 414 (by decide +kernel) rfl)⟩
set_option maxRecDepth 100000 in
theorem fsRX7_15 : am_FS RX7 15 6 1 2 := ⟨RX7, TX7, 9, tyX7, cb6, rfl, by decide, Or.inl (am_in 415 (by decide +kernel) rfl)⟩
set_option maxRecDepth 100000 in
theorem fsRX7_18 : am_FS RX7 18 6 2 2 := ⟨RX7, TX7, 9, tyX7, cb6, rfl, by decide, Or.inl (am_in 416 (by decide +kernel) rfl)⟩
set_option maxRecDepth 100000 in
theorem fsRX7_21 : am_FS RX7 21 6 3 2 := ⟨RX7, TX7, 9, tyX7, cb6, rfl, by decide, Or.inl (am_in 417 (by decide +kernel) rfl)⟩
set_option maxRecDepth 100000 in
theorem fsRX7_24 : am_FS RX7 24 6 4 0 := ⟨RX7, TX7, 9, tyX7, cb6, rfl, by decide, Or.inl (am_in 419 (by decide +kernel) rfl)⟩
set_option maxRecDepth 100000 in
theorem fwRX7_24 : am_FW RX7 24 6 4 0 := ⟨RX7, TX7, 9, tyX7, cb6, rfl, by decide, rfl, Or.inl ⟨rfl, by decide +kernel⟩, Or.inl (am_in 419 (by decide +kernel) rfl)⟩
set_option maxRecDepth 100000 in
theorem fsRX7_38 : am_FS RX7 38 6 6 0 := ⟨RX7, TX7, 9, tyX7, cb6, rfl, by decide, Or.inl (am_in 422 (by decide +kernel) rfl)⟩
set_option maxRecDepth 100000 in
theorem fwRX7_38 : am_FW RX7 38 6 6 0 := ⟨RX7, TX7, 9, tyX7, cb6, rfl, by decide, rfl, Or.inl ⟨rfl, by decide +kernel⟩, Or.inl (am_in 422 (by decide +kernel) rfl)⟩
set_option maxRecDepth 100000 in
theorem fsRX7_41 : am_FS RX7 41 6 7 0 := ⟨RX7, TX7, 9, tyX7, cb6, rfl, by decide, Or.inl (am_in 423 (by decide +kernel) rfl)⟩
set_option maxRecDepth 100000 in
theorem fwRX7_41 : am_FW RX7 41 6 7 0 := ⟨RX7, TX7, 9, tyX7, cb6, rfl, by decide, rfl, Or.inl ⟨rfl, by decide +kernel⟩, Or.inl (am_in 423 (by decide +kernel) rfl)⟩
set_option maxRecDepth 100000 in
theorem fsRX7_44 : am_FS RX7 44 6 8 0 := ⟨RX7, TX7, 9, tyX7, cb6, rfl, by decide, Or.inl (am_in 425 (by decide +kernel) rfl)⟩
set_option maxRecDepth 100000 in
theorem fwRX7_44 : am_FW RX7 44 6 8 0 := ⟨RX7, TX7, 9, tyX7, cb6, rfl, by decide, rfl, Or.inl ⟨rfl, by decide +kernel⟩, Or.inl (am_in 425 (by decide +kernel) rfl)⟩
set_option maxRecDepth 100000 in
theorem fsRX7_58 : am_FS RX7 58 6 5 0 := ⟨RX7, TX7, 9, tyX7, cb6, rfl, by decide, Or.inl (am_in 421 (by decide +kernel) rfl)⟩
set_option maxRecDepth 100000 in
theorem fwRX7_58 : am_FW RX7 58 6 5 0 := ⟨RX7, TX7, 9, tyX7, cb6, rfl, by decide, rfl, Or.inl ⟨rfl, by decide +kernel⟩, Or.inl (am_in 421 (by decide +kernel) rfl)⟩
set_option maxRecDepth 100000 in
theorem fsRX8_14 : am_FS RX8 14 7 0 2 := ⟨RX8, TX8, 1, tyX8, cb7, rfl, by decide, Or.inl (am_in 489 (by decide +kernel) rfl)⟩
set_option maxRecDepth 100000 in
theorem fsRX8_38 : am_FS RX8 38 8 3 0 := ⟨RX9, TX9, 4, tyX9, cb8, rfl, by decide, Or.inr ⟨"PloughField", am_inN 154 (by decide +kernel) rfl⟩⟩
set_option maxRecDepth 100000 in
theorem fwRX8_38 : am_FW RX8 38 8 3 0 := ⟨RX9, TX9, 4, tyX9, cb8, rfl, by decide, rfl, Or.inl ⟨rfl, by decide +kernel⟩, Or.inr ⟨"PloughField", am_inN 154 (by decide +kernel) rfl⟩⟩
set_option maxRecDepth 100000 in
theorem fsRX9_7 : am_FS RX9 7 8 2 0 := ⟨RX9, TX9, 4, tyX9, cb8, rfl, by decide, Or.inl (am_in 150 (by decide +kernel) rfl)⟩
set_option maxRecDepth 100000 in
theorem fsRX9_13 : am_FS RX9 13 8 1 0 := ⟨RX9, TX9, 4, tyX9, cb8, rfl, by decide, Or.inl (am_in 149 (by decide +kernel) rfl)⟩
set_option maxRecDepth 100000 in
theorem fsRX9_16 : am_FS RX9 16 8 0 2 := ⟨RX9, TX9, 4, tyX9, cb8, rfl, by decide, Or.inl (am_in 148 (by decide +kernel) rfl)⟩
set_option maxRecDepth 100000 in
theorem fsRX9_20 : am_FS RX9 20 8 3 0 := ⟨RX9, TX9, 4, tyX9, cb8, rfl, by decide, Or.inl (am_in 151 (by decide +kernel) rfl)⟩
set_option maxRecDepth 100000 in
theorem fwRX9_20 : am_FW RX9 20 8 3 0 := ⟨RX9, TX9, 4, tyX9, cb8, rfl, by decide, rfl, Or.inl ⟨rfl, by decide +kernel⟩, Or.inl (am_in 151 (by decide +kernel) rfl)⟩
set_option maxRecDepth 100000 in
theorem mbJ13_bitCount_95d88 : am_MB mJ13_bitCount_95d88 1 := ⟨by decide +kernel, am_in 939 (by decide +kernel) rfl, am_in 119 (by decide +kernel) rfl, ⟨by decide, by decide, by decide +kernel⟩, by decide⟩
set_option maxRecDepth 100000 in
theorem mbJ6_bitCount_0f7a4 : am_MB mJ6_bitCount_0f7a4 1 := ⟨by decide +kernel, am_in 1013 (by decide +kernel) rfl, am_in 121 (by decide +kernel) rfl, ⟨by decide, by decide, by decide +kernel⟩, by decide⟩
set_option maxRecDepth 100000 in
theorem mbJ7_fill_53178 : am_MB mJ7_fill_53178 2 := ⟨by decide +kernel, am_in 345 (by decide +kernel) rfl, am_in 113 (by decide +kernel) rfl, ⟨by decide, by decide, by decide +kernel⟩, by decide⟩
set_option maxRecDepth 100000 in
theorem mbJ7_fill_d0a16 : am_MB mJ7_fill_d0a16 2 := ⟨by decide +kernel, am_in 358 (by decide +kernel) rfl, am_in 113 (by decide +kernel) rfl, ⟨by decide, by decide, by decide +kernel⟩, by decide⟩
set_option maxRecDepth 100000 in
theorem mbJ9_abs_0f7a4 : am_MB mJ9_abs_0f7a4 1 := ⟨by decide +kernel, am_in 841 (by decide +kernel) rfl, am_in 118 (by decide +kernel) rfl, ⟨by decide, by decide, by decide +kernel⟩, by decide⟩
set_option maxRecDepth 100000 in
theorem mbJ9_max_7cf53 : am_MB mJ9_max_7cf53 2 := ⟨by decide +kernel, am_in 1117 (by decide +kernel) rfl, am_in 118 (by decide +kernel) rfl, ⟨by decide, by decide, by decide +kernel⟩, by decide⟩
set_option maxRecDepth 100000 in
theorem mbJ9_max_f86c9 : am_MB mJ9_max_f86c9 2 := ⟨by decide +kernel, am_in 1305 (by decide +kernel) rfl, am_in 118 (by decide +kernel) rfl, ⟨by decide, by decide, by decide +kernel⟩, by decide⟩
set_option maxRecDepth 100000 in
theorem mbJ9_min_7cf53 : am_MB mJ9_min_7cf53 2 := ⟨by decide +kernel, am_in 792 (by decide +kernel) rfl, am_in 118 (by decide +kernel) rfl, ⟨by decide, by decide, by decide +kernel⟩, by decide⟩
set_option maxRecDepth 100000 in
theorem mbJ9_min_f86c9 : am_MB mJ9_min_f86c9 2 := ⟨by decide +kernel, am_in 1302 (by decide +kernel) rfl, am_in 118 (by decide +kernel) rfl, ⟨by decide, by decide, by decide +kernel⟩, by decide⟩
set_option maxRecDepth 100000 in
theorem mbX0_fallingAt : am_MB mX0_fallingAt 2 := ⟨by decide +kernel, am_in 726 (by decide +kernel) rfl, am_in 106 (by decide +kernel) rfl, ⟨by decide, by decide, by decide +kernel⟩, by decide⟩
set_option maxRecDepth 100000 in
theorem mbX0_hasRoom : am_MB mX0_hasRoom 1 := ⟨by decide +kernel, am_in 648 (by decide +kernel) rfl, am_in 106 (by decide +kernel) rfl, ⟨by decide, by decide, by decide +kernel⟩, by decide⟩
set_option maxRecDepth 100000 in
theorem mbX0_hoursToRain : am_MB mX0_hoursToRain 1 := ⟨by decide +kernel, am_in 1273 (by decide +kernel) rfl, am_in 106 (by decide +kernel) rfl, ⟨by decide, by decide, by decide +kernel⟩, by decide⟩
set_option maxRecDepth 100000 in
theorem mbX10_adjust : am_MB mX10_adjust 2 := ⟨by decide +kernel, am_in 572 (by decide +kernel) rfl, am_in 109 (by decide +kernel) rfl, ⟨by decide, by decide, by decide +kernel⟩, by decide⟩
set_option maxRecDepth 100000 in
theorem mbX10_begin : am_MB mX10_begin 2 := ⟨by decide +kernel, am_in 338 (by decide +kernel) rfl, am_in 109 (by decide +kernel) rfl, ⟨by decide, by decide, by decide +kernel⟩, by decide⟩
set_option maxRecDepth 100000 in
theorem mbX10_bringCart : am_MB mX10_bringCart 1 := ⟨by decide +kernel, am_in 577 (by decide +kernel) rfl, am_in 109 (by decide +kernel) rfl, ⟨by decide, by decide, by decide +kernel⟩, by decide⟩
set_option maxRecDepth 100000 in
theorem mbX10_cheapest : am_MB mX10_cheapest 2 := ⟨by decide +kernel, am_in 796 (by decide +kernel) rfl, am_in 109 (by decide +kernel) rfl, ⟨by decide, by decide, by decide +kernel⟩, by decide⟩
set_option maxRecDepth 100000 in
theorem mbX10_doWork : am_MB mX10_doWork 2 := ⟨by decide +kernel, am_in 845 (by decide +kernel) rfl, am_in 109 (by decide +kernel) rfl, ⟨by decide, by decide, by decide +kernel⟩, by decide⟩
set_option maxRecDepth 100000 in
theorem mbX10_doerOfWork : am_MB mX10_doerOfWork 1 := ⟨by decide +kernel, am_in 956 (by decide +kernel) rfl, am_in 109 (by decide +kernel) rfl, ⟨by decide, by decide, by decide +kernel⟩, by decide⟩
set_option maxRecDepth 100000 in
theorem mbX10_factOfCell : am_MB mX10_factOfCell 2 := ⟨by decide +kernel, am_in 912 (by decide +kernel) rfl, am_in 109 (by decide +kernel) rfl, ⟨by decide, by decide, by decide +kernel⟩, by decide⟩
set_option maxRecDepth 100000 in
theorem mbX10_gatherFacts : am_MB mX10_gatherFacts 2 := ⟨by decide +kernel, am_in 1269 (by decide +kernel) rfl, am_in 109 (by decide +kernel) rfl, ⟨by decide, by decide, by decide +kernel⟩, by decide⟩
set_option maxRecDepth 100000 in
theorem mbX10_goalOf : am_MB mX10_goalOf 2 := ⟨by decide +kernel, am_in 800 (by decide +kernel) rfl, am_in 109 (by decide +kernel) rfl, ⟨by decide, by decide, by decide +kernel⟩, by decide⟩
set_option maxRecDepth 100000 in
theorem mbX10_hear : am_MB mX10_hear 1 := ⟨by decide +kernel, am_in 563 (by decide +kernel) rfl, am_in 109 (by decide +kernel) rfl, ⟨by decide, by decide, by decide +kernel⟩, by decide⟩
set_option maxRecDepth 100000 in
theorem mbX10_hearTold : am_MB mX10_hearTold 0 := ⟨by decide +kernel, am_in 555 (by decide +kernel) rfl, am_in 109 (by decide +kernel) rfl, ⟨by decide, by decide, by decide +kernel⟩, by decide⟩
set_option maxRecDepth 100000 in
theorem mbX10_isAtWork : am_MB mX10_isAtWork 2 := ⟨by decide +kernel, am_in 835 (by decide +kernel) rfl, am_in 109 (by decide +kernel) rfl, ⟨by decide, by decide, by decide +kernel⟩, by decide⟩
set_option maxRecDepth 100000 in
theorem mbX10_leaveWork : am_MB mX10_leaveWork 2 := ⟨by decide +kernel, am_in 874 (by decide +kernel) rfl, am_in 109 (by decide +kernel) rfl, ⟨by decide, by decide, by decide +kernel⟩, by decide⟩
set_option maxRecDepth 100000 in
theorem mbX10_leavesOut : am_MB mX10_leavesOut 2 := ⟨by decide +kernel, am_in 581 (by decide +kernel) rfl, am_in 109 (by decide +kernel) rfl, ⟨by decide, by decide, by decide +kernel⟩, by decide⟩
set_option maxRecDepth 100000 in
theorem mbX10_makeOffers : am_MB mX10_makeOffers 0 := ⟨by decide +kernel, am_in 751 (by decide +kernel) rfl, am_in 109 (by decide +kernel) rfl, ⟨by decide, by decide, by decide +kernel⟩, by decide⟩
set_option maxRecDepth 100000 in
theorem mbX10_move : am_MB mX10_move 1 := ⟨by decide +kernel, am_in 865 (by decide +kernel) rfl, am_in 109 (by decide +kernel) rfl, ⟨by decide, by decide, by decide +kernel⟩, by decide⟩
set_option maxRecDepth 100000 in
theorem mbX10_ofKind : am_MB mX10_ofKind 1 := ⟨by decide +kernel, am_in 767 (by decide +kernel) rfl, am_in 109 (by decide +kernel) rfl, ⟨by decide, by decide, by decide +kernel⟩, by decide⟩
set_option maxRecDepth 100000 in
theorem mbX10_openWork : am_MB mX10_openWork 1 := ⟨by decide +kernel, am_in 601 (by decide +kernel) rfl, am_in 109 (by decide +kernel) rfl, ⟨by decide, by decide, by decide +kernel⟩, by decide⟩
set_option maxRecDepth 100000 in
theorem mbX10_passHour : am_MB mX10_passHour 0 := ⟨by decide +kernel, am_in 722 (by decide +kernel) rfl, am_in 109 (by decide +kernel) rfl, ⟨by decide, by decide, by decide +kernel⟩, by decide⟩
set_option maxRecDepth 100000 in
theorem mbX10_playTo : am_MB mX10_playTo 1 := ⟨by decide +kernel, am_in 717 (by decide +kernel) rfl, am_in 109 (by decide +kernel) rfl, ⟨by decide, by decide, by decide +kernel⟩, by decide⟩
set_option maxRecDepth 100000 in
theorem mbX10_stateOfWork : am_MB mX10_stateOfWork 1 := ⟨by decide +kernel, am_in 952 (by decide +kernel) rfl, am_in 109 (by decide +kernel) rfl, ⟨by decide, by decide, by decide +kernel⟩, by decide⟩
set_option maxRecDepth 100000 in
theorem mbX10_takeOn : am_MB mX10_takeOn 2 := ⟨by decide +kernel, am_in 821 (by decide +kernel) rfl, am_in 109 (by decide +kernel) rfl, ⟨by decide, by decide, by decide +kernel⟩, by decide⟩
set_option maxRecDepth 100000 in
theorem mbX10_takeTurn : am_MB mX10_takeTurn 1 := ⟨by decide +kernel, am_in 825 (by decide +kernel) rfl, am_in 109 (by decide +kernel) rfl, ⟨by decide, by decide, by decide +kernel⟩, by decide⟩
set_option maxRecDepth 100000 in
theorem mbX10_worksThatAre : am_MB mX10_worksThatAre 1 := ⟨by decide +kernel, am_in 1329 (by decide +kernel) rfl, am_in 109 (by decide +kernel) rfl, ⟨by decide, by decide, by decide +kernel⟩, by decide⟩
set_option maxRecDepth 100000 in
theorem mbX11_act : am_MB mX11_act 2 := ⟨by decide +kernel, am_in 1261 (by decide +kernel) rfl, am_in 105 (by decide +kernel) rfl, ⟨by decide, by decide, by decide +kernel⟩, by decide⟩
set_option maxRecDepth 100000 in
theorem mbX11_addWork : am_MB mX11_addWork 3 := ⟨by decide +kernel, am_in 674 (by decide +kernel) rfl, am_in 105 (by decide +kernel) rfl, ⟨by decide, by decide, by decide +kernel⟩, by decide⟩
set_option maxRecDepth 100000 in
theorem mbX11_again : am_MB mX11_again 4 := ⟨by decide +kernel, am_in 1315 (by decide +kernel) rfl, am_in 105 (by decide +kernel) rfl, ⟨by decide, by decide, by decide +kernel⟩, by decide⟩
set_option maxRecDepth 100000 in
theorem mbX11_areMarks : am_MB mX11_areMarks 1 := ⟨by decide +kernel, am_in 697 (by decide +kernel) rfl, am_in 105 (by decide +kernel) rfl, ⟨by decide, by decide, by decide +kernel⟩, by decide⟩
set_option maxRecDepth 100000 in
theorem mbX11_beside : am_MB mX11_beside 2 := ⟨by decide +kernel, am_in 743 (by decide +kernel) rfl, am_in 105 (by decide +kernel) rfl, ⟨by decide, by decide, by decide +kernel⟩, by decide⟩
set_option maxRecDepth 100000 in
theorem mbX11_better : am_MB mX11_better 1 := ⟨by decide +kernel, am_in 1024 (by decide +kernel) rfl, am_in 105 (by decide +kernel) rfl, ⟨by decide, by decide, by decide +kernel⟩, by decide⟩
set_option maxRecDepth 100000 in
theorem mbX11_bit : am_MB mX11_bit 1 := ⟨by decide +kernel, am_in 613 (by decide +kernel) rfl, am_in 105 (by decide +kernel) rfl, ⟨by decide, by decide, by decide +kernel⟩, by decide⟩
set_option maxRecDepth 100000 in
theorem mbX11_canLeaveOut : am_MB mX11_canLeaveOut 2 := ⟨by decide +kernel, am_in 1319 (by decide +kernel) rfl, am_in 105 (by decide +kernel) rfl, ⟨by decide, by decide, by decide +kernel⟩, by decide⟩
set_option maxRecDepth 100000 in
theorem mbX11_cart : am_MB mX11_cart 5 := ⟨by decide +kernel, am_in 657 (by decide +kernel) rfl, am_in 105 (by decide +kernel) rfl, ⟨by decide, by decide, by decide +kernel⟩, by decide⟩
set_option maxRecDepth 100000 in
theorem mbX11_cell : am_MB mX11_cell 2 := ⟨by decide +kernel, am_in 908 (by decide +kernel) rfl, am_in 105 (by decide +kernel) rfl, ⟨by decide, by decide, by decide +kernel⟩, by decide⟩
set_option maxRecDepth 100000 in
theorem mbX11_charge : am_MB mX11_charge 1 := ⟨by decide +kernel, am_in 661 (by decide +kernel) rfl, am_in 105 (by decide +kernel) rfl, ⟨by decide, by decide, by decide +kernel⟩, by decide⟩
set_option maxRecDepth 100000 in
theorem mbX11_count : am_MB mX11_count 1 := ⟨by decide +kernel, am_in 1325 (by decide +kernel) rfl, am_in 105 (by decide +kernel) rfl, ⟨by decide, by decide, by decide +kernel⟩, by decide⟩
set_option maxRecDepth 100000 in
theorem mbX11_far : am_MB mX11_far 2 := ⟨by decide +kernel, am_in 838 (by decide +kernel) rfl, am_in 105 (by decide +kernel) rfl, ⟨by decide, by decide, by decide +kernel⟩, by decide⟩
set_option maxRecDepth 100000 in
theorem mbX11_fault : am_MB mX11_fault 0 := ⟨by decide +kernel, am_in 1257 (by decide +kernel) rfl, am_in 105 (by decide +kernel) rfl, ⟨by decide, by decide, by decide +kernel⟩, by decide⟩
set_option maxRecDepth 100000 in
theorem mbX11_feed : am_MB mX11_feed 5 := ⟨by decide +kernel, am_in 1057 (by decide +kernel) rfl, am_in 105 (by decide +kernel) rfl, ⟨by decide, by decide, by decide +kernel⟩, by decide⟩
set_option maxRecDepth 100000 in
theorem mbX11_findsAct : am_MB mX11_findsAct 1 := ⟨by decide +kernel, am_in 1265 (by decide +kernel) rfl, am_in 105 (by decide +kernel) rfl, ⟨by decide, by decide, by decide +kernel⟩, by decide⟩
set_option maxRecDepth 100000 in
theorem mbX11_ill : am_MB mX11_ill 2 := ⟨by decide +kernel, am_in 705 (by decide +kernel) rfl, am_in 105 (by decide +kernel) rfl, ⟨by decide, by decide, by decide +kernel⟩, by decide⟩
set_option maxRecDepth 100000 in
theorem mbX11_isCell : am_MB mX11_isCell 1 := ⟨by decide +kernel, am_in 531 (by decide +kernel) rfl, am_in 105 (by decide +kernel) rfl, ⟨by decide, by decide, by decide +kernel⟩, by decide⟩
set_option maxRecDepth 100000 in
theorem mbX11_isOdds : am_MB mX11_isOdds 1 := ⟨by decide +kernel, am_in 685 (by decide +kernel) rfl, am_in 105 (by decide +kernel) rfl, ⟨by decide, by decide, by decide +kernel⟩, by decide⟩
set_option maxRecDepth 100000 in
theorem mbX11_isSetting : am_MB mX11_isSetting 2 := ⟨by decide +kernel, am_in 640 (by decide +kernel) rfl, am_in 105 (by decide +kernel) rfl, ⟨by decide, by decide, by decide +kernel⟩, by decide⟩
set_option maxRecDepth 100000 in
theorem mbX11_job : am_MB mX11_job 2 := ⟨by decide +kernel, am_in 947 (by decide +kernel) rfl, am_in 105 (by decide +kernel) rfl, ⟨by decide, by decide, by decide +kernel⟩, by decide⟩
set_option maxRecDepth 100000 in
theorem mbX11_kind : am_MB mX11_kind 6 := ⟨by decide +kernel, am_in 682 (by decide +kernel) rfl, am_in 105 (by decide +kernel) rfl, ⟨by decide, by decide, by decide +kernel⟩, by decide⟩
set_option maxRecDepth 100000 in
theorem mbX11_land : am_MB mX11_land 3 := ⟨by decide +kernel, am_in 528 (by decide +kernel) rfl, am_in 105 (by decide +kernel) rfl, ⟨by decide, by decide, by decide +kernel⟩, by decide⟩
set_option maxRecDepth 100000 in
theorem mbX11_look : am_MB mX11_look 2 := ⟨by decide +kernel, am_in 701 (by decide +kernel) rfl, am_in 105 (by decide +kernel) rfl, ⟨by decide, by decide, by decide +kernel⟩, by decide⟩
set_option maxRecDepth 100000 in
theorem mbX11_lot : am_MB mX11_lot 1 := ⟨by decide +kernel, am_in 678 (by decide +kernel) rfl, am_in 105 (by decide +kernel) rfl, ⟨by decide, by decide, by decide +kernel⟩, by decide⟩
set_option maxRecDepth 100000 in
theorem mbX11_pass : am_MB mX11_pass 1 := ⟨by decide +kernel, am_in 713 (by decide +kernel) rfl, am_in 105 (by decide +kernel) rfl, ⟨by decide, by decide, by decide +kernel⟩, by decide⟩
set_option maxRecDepth 100000 in
theorem mbX11_plan : am_MB mX11_plan 1 := ⟨by decide +kernel, am_in 1309 (by decide +kernel) rfl, am_in 105 (by decide +kernel) rfl, ⟨by decide, by decide, by decide +kernel⟩, by decide⟩
set_option maxRecDepth 100000 in
theorem mbX11_plant : am_MB mX11_plant 1 := ⟨by decide +kernel, am_in 689 (by decide +kernel) rfl, am_in 105 (by decide +kernel) rfl, ⟨by decide, by decide, by decide +kernel⟩, by decide⟩
set_option maxRecDepth 100000 in
theorem mbX11_pull : am_MB mX11_pull 3 := ⟨by decide +kernel, am_in 998 (by decide +kernel) rfl, am_in 105 (by decide +kernel) rfl, ⟨by decide, by decide, by decide +kernel⟩, by decide⟩
set_option maxRecDepth 100000 in
theorem mbX11_rain : am_MB mX11_rain 3 := ⟨by decide +kernel, am_in 644 (by decide +kernel) rfl, am_in 105 (by decide +kernel) rfl, ⟨by decide, by decide, by decide +kernel⟩, by decide⟩
set_option maxRecDepth 100000 in
theorem mbX11_rules : am_MB mX11_rules 1 := ⟨by decide +kernel, am_in 1069 (by decide +kernel) rfl, am_in 105 (by decide +kernel) rfl, ⟨by decide, by decide, by decide +kernel⟩, by decide⟩
set_option maxRecDepth 100000 in
theorem mbX11_set : am_MB mX11_set 2 := ⟨by decide +kernel, am_in 637 (by decide +kernel) rfl, am_in 105 (by decide +kernel) rfl, ⟨by decide, by decide, by decide +kernel⟩, by decide⟩
set_option maxRecDepth 100000 in
theorem mbX11_share : am_MB mX11_share 2 := ⟨by decide +kernel, am_in 927 (by decide +kernel) rfl, am_in 105 (by decide +kernel) rfl, ⟨by decide, by decide, by decide +kernel⟩, by decide⟩
set_option maxRecDepth 100000 in
theorem mbX11_show : am_MB mX11_show 2 := ⟨by decide +kernel, am_in 694 (by decide +kernel) rfl, am_in 105 (by decide +kernel) rfl, ⟨by decide, by decide, by decide +kernel⟩, by decide⟩
set_option maxRecDepth 100000 in
theorem mbX11_spot : am_MB mX11_spot 2 := ⟨by decide +kernel, am_in 981 (by decide +kernel) rfl, am_in 105 (by decide +kernel) rfl, ⟨by decide, by decide, by decide +kernel⟩, by decide⟩
set_option maxRecDepth 100000 in
theorem mbX11_strip : am_MB mX11_strip 2 := ⟨by decide +kernel, am_in 1020 (by decide +kernel) rfl, am_in 105 (by decide +kernel) rfl, ⟨by decide, by decide, by decide +kernel⟩, by decide⟩
set_option maxRecDepth 100000 in
theorem mbX11_tell : am_MB mX11_tell 4 := ⟨by decide +kernel, am_in 538 (by decide +kernel) rfl, am_in 105 (by decide +kernel) rfl, ⟨by decide, by decide, by decide +kernel⟩, by decide⟩
set_option maxRecDepth 100000 in
theorem mbX11_tellNewest : am_MB mX11_tellNewest 2 := ⟨by decide +kernel, am_in 653 (by decide +kernel) rfl, am_in 105 (by decide +kernel) rfl, ⟨by decide, by decide, by decide +kernel⟩, by decide⟩
set_option maxRecDepth 100000 in
theorem mbX11_told : am_MB mX11_told 2 := ⟨by decide +kernel, am_in 932 (by decide +kernel) rfl, am_in 105 (by decide +kernel) rfl, ⟨by decide, by decide, by decide +kernel⟩, by decide⟩
set_option maxRecDepth 100000 in
theorem mbX11_water : am_MB mX11_water 1 := ⟨by decide +kernel, am_in 972 (by decide +kernel) rfl, am_in 105 (by decide +kernel) rfl, ⟨by decide, by decide, by decide +kernel⟩, by decide⟩
set_option maxRecDepth 100000 in
theorem mbX11_way : am_MB mX11_way 3 := ⟨by decide +kernel, am_in 960 (by decide +kernel) rfl, am_in 105 (by decide +kernel) rfl, ⟨by decide, by decide, by decide +kernel⟩, by decide⟩
set_option maxRecDepth 100000 in
theorem mbX11_within : am_MB mX11_within 3 := ⟨by decide +kernel, am_in 534 (by decide +kernel) rfl, am_in 105 (by decide +kernel) rfl, ⟨by decide, by decide, by decide +kernel⟩, by decide⟩
set_option maxRecDepth 100000 in
theorem mbX11_work : am_MB mX11_work 3 := ⟨by decide +kernel, am_in 670 (by decide +kernel) rfl, am_in 105 (by decide +kernel) rfl, ⟨by decide, by decide, by decide +kernel⟩, by decide⟩
set_option maxRecDepth 100000 in
theorem mbX12_act : am_MB mX12_act 2 := ⟨by decide +kernel, am_in 1918 (by decide +kernel) rfl, am_in 117 (by decide +kernel) rfl, ⟨by decide, by decide, by decide +kernel⟩, by decide⟩
set_option maxRecDepth 100000 in
theorem mbX12_acts : am_MB mX12_acts 1 := ⟨by decide +kernel, am_in 1708 (by decide +kernel) rfl, am_in 117 (by decide +kernel) rfl, ⟨by decide, by decide, by decide +kernel⟩, by decide⟩
set_option maxRecDepth 100000 in
theorem mbX12_again : am_MB mX12_again 4 := ⟨by decide +kernel, am_in 1823 (by decide +kernel) rfl, am_in 117 (by decide +kernel) rfl, ⟨by decide, by decide, by decide +kernel⟩, by decide⟩
set_option maxRecDepth 100000 in
theorem mbX12_all : am_MB mX12_all 0 := ⟨by decide +kernel, am_in 1903 (by decide +kernel) rfl, am_in 117 (by decide +kernel) rfl, ⟨by decide, by decide, by decide +kernel⟩, by decide⟩
set_option maxRecDepth 100000 in
theorem mbX12_any : am_MB mX12_any 0 := ⟨by decide +kernel, am_in 1899 (by decide +kernel) rfl, am_in 117 (by decide +kernel) rfl, ⟨by decide, by decide, by decide +kernel⟩, by decide⟩
set_option maxRecDepth 100000 in
theorem mbX12_asked : am_MB mX12_asked 1 := ⟨by decide +kernel, am_in 1886 (by decide +kernel) rfl, am_in 117 (by decide +kernel) rfl, ⟨by decide, by decide, by decide +kernel⟩, by decide⟩
set_option maxRecDepth 100000 in
theorem mbX12_atom : am_MB mX12_atom 0 := ⟨by decide +kernel, am_in 1867 (by decide +kernel) rfl, am_in 117 (by decide +kernel) rfl, ⟨by decide, by decide, by decide +kernel⟩, by decide⟩
set_option maxRecDepth 100000 in
theorem mbX12_begins : am_MB mX12_begins 0 := ⟨by decide +kernel, am_in 1348 (by decide +kernel) rfl, am_in 117 (by decide +kernel) rfl, ⟨by decide, by decide, by decide +kernel⟩, by decide⟩
set_option maxRecDepth 100000 in
theorem mbX12_beside : am_MB mX12_beside 2 := ⟨by decide +kernel, am_in 1670 (by decide +kernel) rfl, am_in 117 (by decide +kernel) rfl, ⟨by decide, by decide, by decide +kernel⟩, by decide⟩
set_option maxRecDepth 100000 in
theorem mbX12_better : am_MB mX12_better 1 := ⟨by decide +kernel, am_in 1814 (by decide +kernel) rfl, am_in 117 (by decide +kernel) rfl, ⟨by decide, by decide, by decide +kernel⟩, by decide⟩
set_option maxRecDepth 100000 in
theorem mbX12_bit : am_MB mX12_bit 1 := ⟨by decide +kernel, am_in 1942 (by decide +kernel) rfl, am_in 117 (by decide +kernel) rfl, ⟨by decide, by decide, by decide +kernel⟩, by decide⟩
set_option maxRecDepth 100000 in
theorem mbX12_bits : am_MB mX12_bits 1 := ⟨by decide +kernel, am_in 1806 (by decide +kernel) rfl, am_in 117 (by decide +kernel) rfl, ⟨by decide, by decide, by decide +kernel⟩, by decide⟩
set_option maxRecDepth 100000 in
theorem mbX12_blanks : am_MB mX12_blanks 0 := ⟨by decide +kernel, am_in 1839 (by decide +kernel) rfl, am_in 117 (by decide +kernel) rfl, ⟨by decide, by decide, by decide +kernel⟩, by decide⟩
set_option maxRecDepth 100000 in
theorem mbX12_both : am_MB mX12_both 3 := ⟨by decide +kernel, am_in 1934 (by decide +kernel) rfl, am_in 117 (by decide +kernel) rfl, ⟨by decide, by decide, by decide +kernel⟩, by decide⟩
set_option maxRecDepth 100000 in
theorem mbX12_cart : am_MB mX12_cart 5 := ⟨by decide +kernel, am_in 1600 (by decide +kernel) rfl, am_in 117 (by decide +kernel) rfl, ⟨by decide, by decide, by decide +kernel⟩, by decide⟩
set_option maxRecDepth 100000 in
theorem mbX12_cell : am_MB mX12_cell 2 := ⟨by decide +kernel, am_in 1749 (by decide +kernel) rfl, am_in 117 (by decide +kernel) rfl, ⟨by decide, by decide, by decide +kernel⟩, by decide⟩
set_option maxRecDepth 100000 in
theorem mbX12_cellOf : am_MB mX12_cellOf 2 := ⟨by decide +kernel, am_in 1753 (by decide +kernel) rfl, am_in 117 (by decide +kernel) rfl, ⟨by decide, by decide, by decide +kernel⟩, by decide⟩
set_option maxRecDepth 100000 in
theorem mbX12_charge : am_MB mX12_charge 1 := ⟨by decide +kernel, am_in 1604 (by decide +kernel) rfl, am_in 117 (by decide +kernel) rfl, ⟨by decide, by decide, by decide +kernel⟩, by decide⟩
set_option maxRecDepth 100000 in
theorem mbX12_charged : am_MB mX12_charged 1 := ⟨by decide +kernel, am_in 1571 (by decide +kernel) rfl, am_in 117 (by decide +kernel) rfl, ⟨by decide, by decide, by decide +kernel⟩, by decide⟩
set_option maxRecDepth 100000 in
theorem mbX12_comes : am_MB mX12_comes 1 := ⟨by decide +kernel, am_in 1567 (by decide +kernel) rfl, am_in 117 (by decide +kernel) rfl, ⟨by decide, by decide, by decide +kernel⟩, by decide⟩
set_option maxRecDepth 100000 in
theorem mbX12_count : am_MB mX12_count 1 := ⟨by decide +kernel, am_in 1953 (by decide +kernel) rfl, am_in 117 (by decide +kernel) rfl, ⟨by decide, by decide, by decide +kernel⟩, by decide⟩
set_option maxRecDepth 100000 in
theorem mbX12_dies : am_MB mX12_dies 2 := ⟨by decide +kernel, am_in 1725 (by decide +kernel) rfl, am_in 117 (by decide +kernel) rfl, ⟨by decide, by decide, by decide +kernel⟩, by decide⟩
set_option maxRecDepth 100000 in
theorem mbX12_does : am_MB mX12_does 1 := ⟨by decide +kernel, am_in 1563 (by decide +kernel) rfl, am_in 117 (by decide +kernel) rfl, ⟨by decide, by decide, by decide +kernel⟩, by decide⟩
set_option maxRecDepth 100000 in
theorem mbX12_dries : am_MB mX12_dries 0 := ⟨by decide +kernel, am_in 1696 (by decide +kernel) rfl, am_in 117 (by decide +kernel) rfl, ⟨by decide, by decide, by decide +kernel⟩, by decide⟩
set_option maxRecDepth 100000 in
theorem mbX12_drops : am_MB mX12_drops 1 := ⟨by decide +kernel, am_in 1733 (by decide +kernel) rfl, am_in 117 (by decide +kernel) rfl, ⟨by decide, by decide, by decide +kernel⟩, by decide⟩
set_option maxRecDepth 100000 in
theorem mbX12_ends : am_MB mX12_ends 0 := ⟨by decide +kernel, am_in 1741 (by decide +kernel) rfl, am_in 117 (by decide +kernel) rfl, ⟨by decide, by decide, by decide +kernel⟩, by decide⟩
set_option maxRecDepth 100000 in
theorem mbX12_enters : am_MB mX12_enters 2 := ⟨by decide +kernel, am_in 1737 (by decide +kernel) rfl, am_in 117 (by decide +kernel) rfl, ⟨by decide, by decide, by decide +kernel⟩, by decide⟩
set_option maxRecDepth 100000 in
theorem mbX12_ex : am_MB mX12_ex 0 := ⟨by decide +kernel, am_in 1859 (by decide +kernel) rfl, am_in 117 (by decide +kernel) rfl, ⟨by decide, by decide, by decide +kernel⟩, by decide⟩
set_option maxRecDepth 100000 in
theorem mbX12_far : am_MB mX12_far 2 := ⟨by decide +kernel, am_in 1657 (by decide +kernel) rfl, am_in 117 (by decide +kernel) rfl, ⟨by decide, by decide, by decide +kernel⟩, by decide⟩
set_option maxRecDepth 100000 in
theorem mbX12_fault : am_MB mX12_fault 0 := ⟨by decide +kernel, am_in 1914 (by decide +kernel) rfl, am_in 117 (by decide +kernel) rfl, ⟨by decide, by decide, by decide +kernel⟩, by decide⟩
set_option maxRecDepth 100000 in
theorem mbX12_feed : am_MB mX12_feed 5 := ⟨by decide +kernel, am_in 1827 (by decide +kernel) rfl, am_in 117 (by decide +kernel) rfl, ⟨by decide, by decide, by decide +kernel⟩, by decide⟩
set_option maxRecDepth 100000 in
theorem mbX12_finds : am_MB mX12_finds 0 := ⟨by decide +kernel, am_in 1799 (by decide +kernel) rfl, am_in 117 (by decide +kernel) rfl, ⟨by decide, by decide, by decide +kernel⟩, by decide⟩
set_option maxRecDepth 100000 in
theorem mbX12_flows : am_MB mX12_flows 0 := ⟨by decide +kernel, am_in 1692 (by decide +kernel) rfl, am_in 117 (by decide +kernel) rfl, ⟨by decide, by decide, by decide +kernel⟩, by decide⟩
set_option maxRecDepth 100000 in
theorem mbX12_four : am_MB mX12_four 1 := ⟨by decide +kernel, am_in 1831 (by decide +kernel) rfl, am_in 117 (by decide +kernel) rfl, ⟨by decide, by decide, by decide +kernel⟩, by decide⟩
set_option maxRecDepth 100000 in
theorem mbX12_gives : am_MB mX12_gives 1 := ⟨by decide +kernel, am_in 1712 (by decide +kernel) rfl, am_in 117 (by decide +kernel) rfl, ⟨by decide, by decide, by decide +kernel⟩, by decide⟩
set_option maxRecDepth 100000 in
theorem mbX12_grows : am_MB mX12_grows 1 := ⟨by decide +kernel, am_in 1579 (by decide +kernel) rfl, am_in 117 (by decide +kernel) rfl, ⟨by decide, by decide, by decide +kernel⟩, by decide⟩
set_option maxRecDepth 100000 in
theorem mbX12_has : am_MB mX12_has 1 := ⟨by decide +kernel, am_in 1628 (by decide +kernel) rfl, am_in 117 (by decide +kernel) rfl, ⟨by decide, by decide, by decide +kernel⟩, by decide⟩
set_option maxRecDepth 100000 in
theorem mbX12_heavy : am_MB mX12_heavy 2 := ⟨by decide +kernel, am_in 1667 (by decide +kernel) rfl, am_in 117 (by decide +kernel) rfl, ⟨by decide, by decide, by decide +kernel⟩, by decide⟩
set_option maxRecDepth 100000 in
theorem mbX12_held : am_MB mX12_held 1 := ⟨by decide +kernel, am_in 1937 (by decide +kernel) rfl, am_in 117 (by decide +kernel) rfl, ⟨by decide, by decide, by decide +kernel⟩, by decide⟩
set_option maxRecDepth 100000 in
theorem mbX12_hour : am_MB mX12_hour 0 := ⟨by decide +kernel, am_in 1684 (by decide +kernel) rfl, am_in 117 (by decide +kernel) rfl, ⟨by decide, by decide, by decide +kernel⟩, by decide⟩
set_option maxRecDepth 100000 in
theorem mbX12_ill : am_MB mX12_ill 2 := ⟨by decide +kernel, am_in 1640 (by decide +kernel) rfl, am_in 117 (by decide +kernel) rfl, ⟨by decide, by decide, by decide +kernel⟩, by decide⟩
set_option maxRecDepth 100000 in
theorem mbX12_illMany : am_MB mX12_illMany 0 := ⟨by decide +kernel, am_in 1783 (by decide +kernel) rfl, am_in 117 (by decide +kernel) rfl, ⟨by decide, by decide, by decide +kernel⟩, by decide⟩
set_option maxRecDepth 100000 in
theorem mbX12_isBut : am_MB mX12_isBut 2 := ⟨by decide +kernel, am_in 1575 (by decide +kernel) rfl, am_in 117 (by decide +kernel) rfl, ⟨by decide, by decide, by decide +kernel⟩, by decide⟩
set_option maxRecDepth 100000 in
theorem mbX12_isCart : am_MB mX12_isCart 1 := ⟨by decide +kernel, am_in 1608 (by decide +kernel) rfl, am_in 117 (by decide +kernel) rfl, ⟨by decide, by decide, by decide +kernel⟩, by decide⟩
set_option maxRecDepth 100000 in
theorem mbX12_isCell : am_MB mX12_isCell 1 := ⟨by decide +kernel, am_in 1552 (by decide +kernel) rfl, am_in 117 (by decide +kernel) rfl, ⟨by decide, by decide, by decide +kernel⟩, by decide⟩
set_option maxRecDepth 100000 in
theorem mbX12_isGoal : am_MB mX12_isGoal 3 := ⟨by decide +kernel, am_in 1654 (by decide +kernel) rfl, am_in 117 (by decide +kernel) rfl, ⟨by decide, by decide, by decide +kernel⟩, by decide⟩
set_option maxRecDepth 100000 in
theorem mbX12_isIn : am_MB mX12_isIn 3 := ⟨by decide +kernel, am_in 1555 (by decide +kernel) rfl, am_in 117 (by decide +kernel) rfl, ⟨by decide, by decide, by decide +kernel⟩, by decide⟩
set_option maxRecDepth 100000 in
theorem mbX12_isSet : am_MB mX12_isSet 2 := ⟨by decide +kernel, am_in 1592 (by decide +kernel) rfl, am_in 117 (by decide +kernel) rfl, ⟨by decide, by decide, by decide +kernel⟩, by decide⟩
set_option maxRecDepth 100000 in
theorem mbX12_isSpot : am_MB mX12_isSpot 2 := ⟨by decide +kernel, am_in 1787 (by decide +kernel) rfl, am_in 117 (by decide +kernel) rfl, ⟨by decide, by decide, by decide +kernel⟩, by decide⟩
set_option maxRecDepth 100000 in
theorem mbX12_job : am_MB mX12_job 2 := ⟨by decide +kernel, am_in 1770 (by decide +kernel) rfl, am_in 117 (by decide +kernel) rfl, ⟨by decide, by decide, by decide +kernel⟩, by decide⟩
set_option maxRecDepth 100000 in
theorem mbX12_kind : am_MB mX12_kind 6 := ⟨by decide +kernel, am_in 1620 (by decide +kernel) rfl, am_in 117 (by decide +kernel) rfl, ⟨by decide, by decide, by decide +kernel⟩, by decide⟩
set_option maxRecDepth 100000 in
theorem mbX12_land : am_MB mX12_land 3 := ⟨by decide +kernel, am_in 1549 (by decide +kernel) rfl, am_in 117 (by decide +kernel) rfl, ⟨by decide, by decide, by decide +kernel⟩, by decide⟩
set_option maxRecDepth 100000 in
theorem mbX12_leadOf : am_MB mX12_leadOf 1 := ⟨by decide +kernel, am_in 1818 (by decide +kernel) rfl, am_in 117 (by decide +kernel) rfl, ⟨by decide, by decide, by decide +kernel⟩, by decide⟩
set_option maxRecDepth 100000 in
theorem mbX12_look : am_MB mX12_look 2 := ⟨by decide +kernel, am_in 1636 (by decide +kernel) rfl, am_in 117 (by decide +kernel) rfl, ⟨by decide, by decide, by decide +kernel⟩, by decide⟩
set_option maxRecDepth 100000 in
theorem mbX12_lot : am_MB mX12_lot 1 := ⟨by decide +kernel, am_in 1616 (by decide +kernel) rfl, am_in 117 (by decide +kernel) rfl, ⟨by decide, by decide, by decide +kernel⟩, by decide⟩
set_option maxRecDepth 100000 in
theorem mbX12_lotIsLow : am_MB mX12_lotIsLow 0 := ⟨by decide +kernel, am_in 1745 (by decide +kernel) rfl, am_in 117 (by decide +kernel) rfl, ⟨by decide, by decide, by decide +kernel⟩, by decide⟩
set_option maxRecDepth 100000 in
theorem mbX12_manyOf : am_MB mX12_manyOf 2 := ⟨by decide +kernel, am_in 1957 (by decide +kernel) rfl, am_in 117 (by decide +kernel) rfl, ⟨by decide, by decide, by decide +kernel⟩, by decide⟩
set_option maxRecDepth 100000 in
theorem mbX12_mayEnter : am_MB mX12_mayEnter 2 := ⟨by decide +kernel, am_in 1663 (by decide +kernel) rfl, am_in 117 (by decide +kernel) rfl, ⟨by decide, by decide, by decide +kernel⟩, by decide⟩
set_option maxRecDepth 100000 in
theorem mbX12_mayTake : am_MB mX12_mayTake 2 := ⟨by decide +kernel, am_in 1704 (by decide +kernel) rfl, am_in 117 (by decide +kernel) rfl, ⟨by decide, by decide, by decide +kernel⟩, by decide⟩
set_option maxRecDepth 100000 in
theorem mbX12_moves : am_MB mX12_moves 1 := ⟨by decide +kernel, am_in 1717 (by decide +kernel) rfl, am_in 117 (by decide +kernel) rfl, ⟨by decide, by decide, by decide +kernel⟩, by decide⟩
set_option maxRecDepth 100000 in
theorem mbX12_nextOf : am_MB mX12_nextOf 2 := ⟨by decide +kernel, am_in 1676 (by decide +kernel) rfl, am_in 117 (by decide +kernel) rfl, ⟨by decide, by decide, by decide +kernel⟩, by decide⟩
set_option maxRecDepth 100000 in
theorem mbX12_nextRain : am_MB mX12_nextRain 0 := ⟨by decide +kernel, am_in 1926 (by decide +kernel) rfl, am_in 117 (by decide +kernel) rfl, ⟨by decide, by decide, by decide +kernel⟩, by decide⟩
set_option maxRecDepth 100000 in
theorem mbX12_offers : am_MB mX12_offers 0 := ⟨by decide +kernel, am_in 1700 (by decide +kernel) rfl, am_in 117 (by decide +kernel) rfl, ⟨by decide, by decide, by decide +kernel⟩, by decide⟩
set_option maxRecDepth 100000 in
theorem mbX12_one : am_MB mX12_one 1 := ⟨by decide +kernel, am_in 1643 (by decide +kernel) rfl, am_in 117 (by decide +kernel) rfl, ⟨by decide, by decide, by decide +kernel⟩, by decide⟩
set_option maxRecDepth 100000 in
theorem mbX12_opens : am_MB mX12_opens 0 := ⟨by decide +kernel, am_in 1879 (by decide +kernel) rfl, am_in 117 (by decide +kernel) rfl, ⟨by decide, by decide, by decide +kernel⟩, by decide⟩
set_option maxRecDepth 100000 in
theorem mbX12_pass : am_MB mX12_pass 1 := ⟨by decide +kernel, am_in 1680 (by decide +kernel) rfl, am_in 117 (by decide +kernel) rfl, ⟨by decide, by decide, by decide +kernel⟩, by decide⟩
set_option maxRecDepth 100000 in
theorem mbX12_plan : am_MB mX12_plan 1 := ⟨by decide +kernel, am_in 1947 (by decide +kernel) rfl, am_in 117 (by decide +kernel) rfl, ⟨by decide, by decide, by decide +kernel⟩, by decide⟩
set_option maxRecDepth 100000 in
theorem mbX12_plant : am_MB mX12_plant 1 := ⟨by decide +kernel, am_in 1624 (by decide +kernel) rfl, am_in 117 (by decide +kernel) rfl, ⟨by decide, by decide, by decide +kernel⟩, by decide⟩
set_option maxRecDepth 100000 in
theorem mbX12_product : am_MB mX12_product 0 := ⟨by decide +kernel, am_in 1863 (by decide +kernel) rfl, am_in 117 (by decide +kernel) rfl, ⟨by decide, by decide, by decide +kernel⟩, by decide⟩
set_option maxRecDepth 100000 in
theorem mbX12_pull : am_MB mX12_pull 3 := ⟨by decide +kernel, am_in 1795 (by decide +kernel) rfl, am_in 117 (by decide +kernel) rfl, ⟨by decide, by decide, by decide +kernel⟩, by decide⟩
set_option maxRecDepth 100000 in
theorem mbX12_pulls : am_MB mX12_pulls 2 := ⟨by decide +kernel, am_in 1729 (by decide +kernel) rfl, am_in 117 (by decide +kernel) rfl, ⟨by decide, by decide, by decide +kernel⟩, by decide⟩
set_option maxRecDepth 100000 in
theorem mbX12_puts : am_MB mX12_puts 2 := ⟨by decide +kernel, am_in 1875 (by decide +kernel) rfl, am_in 117 (by decide +kernel) rfl, ⟨by decide, by decide, by decide +kernel⟩, by decide⟩
set_option maxRecDepth 100000 in
theorem mbX12_rain : am_MB mX12_rain 3 := ⟨by decide +kernel, am_in 1596 (by decide +kernel) rfl, am_in 117 (by decide +kernel) rfl, ⟨by decide, by decide, by decide +kernel⟩, by decide⟩
set_option maxRecDepth 100000 in
theorem mbX12_rains : am_MB mX12_rains 0 := ⟨by decide +kernel, am_in 1688 (by decide +kernel) rfl, am_in 117 (by decide +kernel) rfl, ⟨by decide, by decide, by decide +kernel⟩, by decide⟩
set_option maxRecDepth 100000 in
theorem mbX12_reached : am_MB mX12_reached 2 := ⟨by decide +kernel, am_in 1803 (by decide +kernel) rfl, am_in 117 (by decide +kernel) rfl, ⟨by decide, by decide, by decide +kernel⟩, by decide⟩
set_option maxRecDepth 100000 in
theorem mbX12_rules : am_MB mX12_rules 1 := ⟨by decide +kernel, am_in 1835 (by decide +kernel) rfl, am_in 117 (by decide +kernel) rfl, ⟨by decide, by decide, by decide +kernel⟩, by decide⟩
set_option maxRecDepth 100000 in
theorem mbX12_runs : am_MB mX12_runs 2 := ⟨by decide +kernel, am_in 1931 (by decide +kernel) rfl, am_in 117 (by decide +kernel) rfl, ⟨by decide, by decide, by decide +kernel⟩, by decide⟩
set_option maxRecDepth 100000 in
theorem mbX12_seen : am_MB mX12_seen 2 := ⟨by decide +kernel, am_in 1584 (by decide +kernel) rfl, am_in 117 (by decide +kernel) rfl, ⟨by decide, by decide, by decide +kernel⟩, by decide⟩
set_option maxRecDepth 100000 in
theorem mbX12_set : am_MB mX12_set 2 := ⟨by decide +kernel, am_in 1589 (by decide +kernel) rfl, am_in 117 (by decide +kernel) rfl, ⟨by decide, by decide, by decide +kernel⟩, by decide⟩
set_option maxRecDepth 100000 in
theorem mbX12_share : am_MB mX12_share 2 := ⟨by decide +kernel, am_in 1762 (by decide +kernel) rfl, am_in 117 (by decide +kernel) rfl, ⟨by decide, by decide, by decide +kernel⟩, by decide⟩
set_option maxRecDepth 100000 in
theorem mbX12_show : am_MB mX12_show 2 := ⟨by decide +kernel, am_in 1632 (by decide +kernel) rfl, am_in 117 (by decide +kernel) rfl, ⟨by decide, by decide, by decide +kernel⟩, by decide⟩
set_option maxRecDepth 100000 in
theorem mbX12_single : am_MB mX12_single 0 := ⟨by decide +kernel, am_in 1907 (by decide +kernel) rfl, am_in 117 (by decide +kernel) rfl, ⟨by decide, by decide, by decide +kernel⟩, by decide⟩
set_option maxRecDepth 100000 in
theorem mbX12_spot : am_MB mX12_spot 2 := ⟨by decide +kernel, am_in 1779 (by decide +kernel) rfl, am_in 117 (by decide +kernel) rfl, ⟨by decide, by decide, by decide +kernel⟩, by decide⟩
set_option maxRecDepth 100000 in
theorem mbX12_spreads : am_MB mX12_spreads 2 := ⟨by decide +kernel, am_in 1791 (by decide +kernel) rfl, am_in 117 (by decide +kernel) rfl, ⟨by decide, by decide, by decide +kernel⟩, by decide⟩
set_option maxRecDepth 100000 in
theorem mbX12_statement : am_MB mX12_statement 1 := ⟨by decide +kernel, am_in 1843 (by decide +kernel) rfl, am_in 117 (by decide +kernel) rfl, ⟨by decide, by decide, by decide +kernel⟩, by decide⟩
set_option maxRecDepth 100000 in
theorem mbX12_strip : am_MB mX12_strip 2 := ⟨by decide +kernel, am_in 1810 (by decide +kernel) rfl, am_in 117 (by decide +kernel) rfl, ⟨by decide, by decide, by decide +kernel⟩, by decide⟩
set_option maxRecDepth 100000 in
theorem mbX12_takes : am_MB mX12_takes 1 := ⟨by decide +kernel, am_in 1848 (by decide +kernel) rfl, am_in 117 (by decide +kernel) rfl, ⟨by decide, by decide, by decide +kernel⟩, by decide⟩
set_option maxRecDepth 100000 in
theorem mbX12_takesNumber : am_MB mX12_takesNumber 0 := ⟨by decide +kernel, am_in 1871 (by decide +kernel) rfl, am_in 117 (by decide +kernel) rfl, ⟨by decide, by decide, by decide +kernel⟩, by decide⟩
set_option maxRecDepth 100000 in
theorem mbX12_takesSign : am_MB mX12_takesSign 1 := ⟨by decide +kernel, am_in 1883 (by decide +kernel) rfl, am_in 117 (by decide +kernel) rfl, ⟨by decide, by decide, by decide +kernel⟩, by decide⟩
set_option maxRecDepth 100000 in
theorem mbX12_tells : am_MB mX12_tells 4 := ⟨by decide +kernel, am_in 1559 (by decide +kernel) rfl, am_in 117 (by decide +kernel) rfl, ⟨by decide, by decide, by decide +kernel⟩, by decide⟩
set_option maxRecDepth 100000 in
theorem mbX12_toDo : am_MB mX12_toDo 1 := ⟨by decide +kernel, am_in 1922 (by decide +kernel) rfl, am_in 117 (by decide +kernel) rfl, ⟨by decide, by decide, by decide +kernel⟩, by decide⟩
set_option maxRecDepth 100000 in
theorem mbX12_told : am_MB mX12_told 2 := ⟨by decide +kernel, am_in 1766 (by decide +kernel) rfl, am_in 117 (by decide +kernel) rfl, ⟨by decide, by decide, by decide +kernel⟩, by decide⟩
set_option maxRecDepth 100000 in
theorem mbX12_water : am_MB mX12_water 1 := ⟨by decide +kernel, am_in 1774 (by decide +kernel) rfl, am_in 117 (by decide +kernel) rfl, ⟨by decide, by decide, by decide +kernel⟩, by decide⟩
set_option maxRecDepth 100000 in
theorem mbX12_way : am_MB mX12_way 3 := ⟨by decide +kernel, am_in 1647 (by decide +kernel) rfl, am_in 117 (by decide +kernel) rfl, ⟨by decide, by decide, by decide +kernel⟩, by decide⟩
set_option maxRecDepth 100000 in
theorem mbX12_ways : am_MB mX12_ways 3 := ⟨by decide +kernel, am_in 1651 (by decide +kernel) rfl, am_in 117 (by decide +kernel) rfl, ⟨by decide, by decide, by decide +kernel⟩, by decide⟩
set_option maxRecDepth 100000 in
theorem mbX12_weeds : am_MB mX12_weeds 1 := ⟨by decide +kernel, am_in 1757 (by decide +kernel) rfl, am_in 117 (by decide +kernel) rfl, ⟨by decide, by decide, by decide +kernel⟩, by decide⟩
set_option maxRecDepth 100000 in
theorem mbX12_word : am_MB mX12_word 0 := ⟨by decide +kernel, am_in 1852 (by decide +kernel) rfl, am_in 117 (by decide +kernel) rfl, ⟨by decide, by decide, by decide +kernel⟩, by decide⟩
set_option maxRecDepth 100000 in
theorem mbX12_work : am_MB mX12_work 3 := ⟨by decide +kernel, am_in 1612 (by decide +kernel) rfl, am_in 117 (by decide +kernel) rfl, ⟨by decide, by decide, by decide +kernel⟩, by decide⟩
set_option maxRecDepth 100000 in
theorem mbX12_works : am_MB mX12_works 1 := ⟨by decide +kernel, am_in 1721 (by decide +kernel) rfl, am_in 117 (by decide +kernel) rfl, ⟨by decide, by decide, by decide +kernel⟩, by decide⟩
set_option maxRecDepth 100000 in
theorem mbX1_begin : am_MB mX1_begin 0 := ⟨by decide +kernel, am_in 354 (by decide +kernel) rfl, am_in 112 (by decide +kernel) rfl, ⟨by decide, by decide, by decide +kernel⟩, by decide⟩
set_option maxRecDepth 100000 in
theorem mbX1_bring : am_MB mX1_bring 1 := ⟨by decide +kernel, am_in 585 (by decide +kernel) rfl, am_in 112 (by decide +kernel) rfl, ⟨by decide, by decide, by decide +kernel⟩, by decide⟩
set_option maxRecDepth 100000 in
theorem mbX1_cartsStuck : am_MB mX1_cartsStuck 0 := ⟨by decide +kernel, am_in 1334 (by decide +kernel) rfl, am_in 112 (by decide +kernel) rfl, ⟨by decide, by decide, by decide +kernel⟩, by decide⟩
set_option maxRecDepth 100000 in
theorem mbX1_factOfCart : am_MB mX1_factOfCart 2 := ⟨by decide +kernel, am_in 936 (by decide +kernel) rfl, am_in 112 (by decide +kernel) rfl, ⟨by decide, by decide, by decide +kernel⟩, by decide⟩
set_option maxRecDepth 100000 in
theorem mbX1_freeOneStuck : am_MB mX1_freeOneStuck 2 := ⟨by decide +kernel, am_in 861 (by decide +kernel) rfl, am_in 112 (by decide +kernel) rfl, ⟨by decide, by decide, by decide +kernel⟩, by decide⟩
set_option maxRecDepth 100000 in
theorem mbX1_hasPower : am_MB mX1_hasPower 1 := ⟨by decide +kernel, am_in 763 (by decide +kernel) rfl, am_in 112 (by decide +kernel) rfl, ⟨by decide, by decide, by decide +kernel⟩, by decide⟩
set_option maxRecDepth 100000 in
theorem mbX1_hearOf : am_MB mX1_hearOf 2 := ⟨by decide +kernel, am_in 879 (by decide +kernel) rfl, am_in 112 (by decide +kernel) rfl, ⟨by decide, by decide, by decide +kernel⟩, by decide⟩
set_option maxRecDepth 100000 in
theorem mbX1_isFlat : am_MB mX1_isFlat 1 := ⟨by decide +kernel, am_in 597 (by decide +kernel) rfl, am_in 112 (by decide +kernel) rfl, ⟨by decide, by decide, by decide +kernel⟩, by decide⟩
set_option maxRecDepth 100000 in
theorem mbX1_isHome : am_MB mX1_isHome 1 := ⟨by decide +kernel, am_in 885 (by decide +kernel) rfl, am_in 112 (by decide +kernel) rfl, ⟨by decide, by decide, by decide +kernel⟩, by decide⟩
set_option maxRecDepth 100000 in
theorem mbX1_isPlace : am_MB mX1_isPlace 1 := ⟨by decide +kernel, am_in 588 (by decide +kernel) rfl, am_in 112 (by decide +kernel) rfl, ⟨by decide, by decide, by decide +kernel⟩, by decide⟩
set_option maxRecDepth 100000 in
theorem mbX1_isReady : am_MB mX1_isReady 1 := ⟨by decide +kernel, am_in 759 (by decide +kernel) rfl, am_in 112 (by decide +kernel) rfl, ⟨by decide, by decide, by decide +kernel⟩, by decide⟩
set_option maxRecDepth 100000 in
theorem mbX1_plugIn : am_MB mX1_plugIn 1 := ⟨by decide +kernel, am_in 829 (by decide +kernel) rfl, am_in 112 (by decide +kernel) rfl, ⟨by decide, by decide, by decide +kernel⟩, by decide⟩
set_option maxRecDepth 100000 in
theorem mbX1_readyOnes : am_MB mX1_readyOnes 0 := ⟨by decide +kernel, am_in 755 (by decide +kernel) rfl, am_in 112 (by decide +kernel) rfl, ⟨by decide, by decide, by decide +kernel⟩, by decide⟩
set_option maxRecDepth 100000 in
theorem mbX1_refill : am_MB mX1_refill 1 := ⟨by decide +kernel, am_in 593 (by decide +kernel) rfl, am_in 112 (by decide +kernel) rfl, ⟨by decide, by decide, by decide +kernel⟩, by decide⟩
set_option maxRecDepth 100000 in
theorem mbX2_allWet : am_MB mX2_allWet 0 := ⟨by decide +kernel, am_in 976 (by decide +kernel) rfl, am_in 110 (by decide +kernel) rfl, ⟨by decide, by decide, by decide +kernel⟩, by decide⟩
set_option maxRecDepth 100000 in
theorem mbX2_begin : am_MB mX2_begin 0 := ⟨by decide +kernel, am_in 342 (by decide +kernel) rfl, am_in 110 (by decide +kernel) rfl, ⟨by decide, by decide, by decide +kernel⟩, by decide⟩
set_option maxRecDepth 100000 in
theorem mbX2_dry : am_MB mX2_dry 0 := ⟨by decide +kernel, am_in 747 (by decide +kernel) rfl, am_in 110 (by decide +kernel) rfl, ⟨by decide, by decide, by decide +kernel⟩, by decide⟩
set_option maxRecDepth 100000 in
theorem mbX2_flow : am_MB mX2_flow 0 := ⟨by decide +kernel, am_in 736 (by decide +kernel) rfl, am_in 110 (by decide +kernel) rfl, ⟨by decide, by decide, by decide +kernel⟩, by decide⟩
set_option maxRecDepth 100000 in
theorem mbX2_heavy : am_MB mX2_heavy 2 := ⟨by decide +kernel, am_in 778 (by decide +kernel) rfl, am_in 110 (by decide +kernel) rfl, ⟨by decide, by decide, by decide +kernel⟩, by decide⟩
set_option maxRecDepth 100000 in
theorem mbX2_lowestBeside : am_MB mX2_lowestBeside 1 := ⟨by decide +kernel, am_in 740 (by decide +kernel) rfl, am_in 110 (by decide +kernel) rfl, ⟨by decide, by decide, by decide +kernel⟩, by decide⟩
set_option maxRecDepth 100000 in
theorem mbX2_rainOn : am_MB mX2_rainOn 1 := ⟨by decide +kernel, am_in 731 (by decide +kernel) rfl, am_in 110 (by decide +kernel) rfl, ⟨by decide, by decide, by decide +kernel⟩, by decide⟩
set_option maxRecDepth 100000 in
theorem mbX2_shape : am_MB mX2_shape 3 := ⟨by decide +kernel, am_in 567 (by decide +kernel) rfl, am_in 110 (by decide +kernel) rfl, ⟨by decide, by decide, by decide +kernel⟩, by decide⟩
set_option maxRecDepth 100000 in
theorem mbX3_apply : am_MB mX3_apply 2 := ⟨by decide +kernel, am_in 1291 (by decide +kernel) rfl, am_in 115 (by decide +kernel) rfl, ⟨by decide, by decide, by decide +kernel⟩, by decide⟩
set_option maxRecDepth 100000 in
theorem mbX3_decide : am_MB mX3_decide 1 := ⟨by decide +kernel, am_in 1279 (by decide +kernel) rfl, am_in 115 (by decide +kernel) rfl, ⟨by decide, by decide, by decide +kernel⟩, by decide⟩
set_option maxRecDepth 100000 in
theorem mbX3_held : am_MB mX3_held 1 := ⟨by decide +kernel, am_in 1297 (by decide +kernel) rfl, am_in 115 (by decide +kernel) rfl, ⟨by decide, by decide, by decide +kernel⟩, by decide⟩
set_option maxRecDepth 100000 in
theorem mbX3_joined : am_MB mX3_joined 3 := ⟨by decide +kernel, am_in 1294 (by decide +kernel) rfl, am_in 115 (by decide +kernel) rfl, ⟨by decide, by decide, by decide +kernel⟩, by decide⟩
set_option maxRecDepth 100000 in
theorem mbX3_pop : am_MB mX3_pop 0 := ⟨by decide +kernel, am_in 1287 (by decide +kernel) rfl, am_in 115 (by decide +kernel) rfl, ⟨by decide, by decide, by decide +kernel⟩, by decide⟩
set_option maxRecDepth 100000 in
theorem mbX3_push : am_MB mX3_push 1 := ⟨by decide +kernel, am_in 1283 (by decide +kernel) rfl, am_in 115 (by decide +kernel) rfl, ⟨by decide, by decide, by decide +kernel⟩, by decide⟩
set_option maxRecDepth 100000 in
theorem mbX3_takeOver : am_MB mX3_takeOver 3 := ⟨by decide +kernel, am_in 1248 (by decide +kernel) rfl, am_in 115 (by decide +kernel) rfl, ⟨by decide, by decide, by decide +kernel⟩, by decide⟩
set_option maxRecDepth 100000 in
theorem mbX4_cellNumbered : am_MB mX4_cellNumbered 2 := ⟨by decide +kernel, am_in 1007 (by decide +kernel) rfl, am_in 120 (by decide +kernel) rfl, ⟨by decide, by decide, by decide +kernel⟩, by decide⟩
set_option maxRecDepth 100000 in
theorem mbX4_cellsReached : am_MB mX4_cellsReached 5 := ⟨by decide +kernel, am_in 1010 (by decide +kernel) rfl, am_in 120 (by decide +kernel) rfl, ⟨by decide, by decide, by decide +kernel⟩, by decide⟩
set_option maxRecDepth 100000 in
theorem mbX4_pullOf : am_MB mX4_pullOf 5 := ⟨by decide +kernel, am_in 1001 (by decide +kernel) rfl, am_in 120 (by decide +kernel) rfl, ⟨by decide, by decide, by decide +kernel⟩, by decide⟩
set_option maxRecDepth 100000 in
theorem mbX4_reached : am_MB mX4_reached 3 := ⟨by decide +kernel, am_in 988 (by decide +kernel) rfl, am_in 120 (by decide +kernel) rfl, ⟨by decide, by decide, by decide +kernel⟩, by decide⟩
set_option maxRecDepth 100000 in
theorem mbX4_spotOf : am_MB mX4_spotOf 4 := ⟨by decide +kernel, am_in 984 (by decide +kernel) rfl, am_in 120 (by decide +kernel) rfl, ⟨by decide, by decide, by decide +kernel⟩, by decide⟩
set_option maxRecDepth 100000 in
theorem mbX4_stepped : am_MB mX4_stepped 2 := ⟨by decide +kernel, am_in 991 (by decide +kernel) rfl, am_in 120 (by decide +kernel) rfl, ⟨by decide, by decide, by decide +kernel⟩, by decide⟩
set_option maxRecDepth 100000 in
theorem mbX5_costTo : am_MB mX5_costTo 2 := ⟨by decide +kernel, am_in 817 (by decide +kernel) rfl, am_in 108 (by decide +kernel) rfl, ⟨by decide, by decide, by decide +kernel⟩, by decide⟩
set_option maxRecDepth 100000 in
theorem mbX5_firstTo : am_MB mX5_firstTo 2 := ⟨by decide +kernel, am_in 869 (by decide +kernel) rfl, am_in 108 (by decide +kernel) rfl, ⟨by decide, by decide, by decide +kernel⟩, by decide⟩
set_option maxRecDepth 100000 in
theorem mbX5_goOnFrom : am_MB mX5_goOnFrom 3 := ⟨by decide +kernel, am_in 788 (by decide +kernel) rfl, am_in 108 (by decide +kernel) rfl, ⟨by decide, by decide, by decide +kernel⟩, by decide⟩
set_option maxRecDepth 100000 in
theorem mbX5_hasWay : am_MB mX5_hasWay 2 := ⟨by decide +kernel, am_in 808 (by decide +kernel) rfl, am_in 108 (by decide +kernel) rfl, ⟨by decide, by decide, by decide +kernel⟩, by decide⟩
set_option maxRecDepth 100000 in
theorem mbX5_isNearer : am_MB mX5_isNearer 3 := ⟨by decide +kernel, am_in 812 (by decide +kernel) rfl, am_in 108 (by decide +kernel) rfl, ⟨by decide, by decide, by decide +kernel⟩, by decide⟩
set_option maxRecDepth 100000 in
theorem mbX5_nearestBeside : am_MB mX5_nearestBeside 2 := ⟨by decide +kernel, am_in 804 (by decide +kernel) rfl, am_in 108 (by decide +kernel) rfl, ⟨by decide, by decide, by decide +kernel⟩, by decide⟩
set_option maxRecDepth 100000 in
theorem mbX5_search : am_MB mX5_search 5 := ⟨by decide +kernel, am_in 771 (by decide +kernel) rfl, am_in 108 (by decide +kernel) rfl, ⟨by decide, by decide, by decide +kernel⟩, by decide⟩
set_option maxRecDepth 100000 in
theorem mbX5_stepsTo : am_MB mX5_stepsTo 2 := ⟨by decide +kernel, am_in 967 (by decide +kernel) rfl, am_in 108 (by decide +kernel) rfl, ⟨by decide, by decide, by decide +kernel⟩, by decide⟩
set_option maxRecDepth 100000 in
theorem mbX5_takeNearest : am_MB mX5_takeNearest 1 := ⟨by decide +kernel, am_in 784 (by decide +kernel) rfl, am_in 108 (by decide +kernel) rfl, ⟨by decide, by decide, by decide +kernel⟩, by decide⟩
set_option maxRecDepth 100000 in
theorem mbX6_allGot : am_MB mX6_allGot 0 := ⟨by decide +kernel, am_in 1338 (by decide +kernel) rfl, am_in 111 (by decide +kernel) rfl, ⟨by decide, by decide, by decide +kernel⟩, by decide⟩
set_option maxRecDepth 100000 in
theorem mbX6_begin : am_MB mX6_begin 0 := ⟨by decide +kernel, am_in 349 (by decide +kernel) rfl, am_in 111 (by decide +kernel) rfl, ⟨by decide, by decide, by decide +kernel⟩, by decide⟩
set_option maxRecDepth 100000 in
theorem mbX6_drawLot : am_MB mX6_drawLot 1 := ⟨by decide +kernel, am_in 899 (by decide +kernel) rfl, am_in 111 (by decide +kernel) rfl, ⟨by decide, by decide, by decide +kernel⟩, by decide⟩
set_option maxRecDepth 100000 in
theorem mbX6_drown : am_MB mX6_drown 1 := ⟨by decide +kernel, am_in 889 (by decide +kernel) rfl, am_in 111 (by decide +kernel) rfl, ⟨by decide, by decide, by decide +kernel⟩, by decide⟩
set_option maxRecDepth 100000 in
theorem mbX6_expose : am_MB mX6_expose 2 := ⟨by decide +kernel, am_in 619 (by decide +kernel) rfl, am_in 111 (by decide +kernel) rfl, ⟨by decide, by decide, by decide +kernel⟩, by decide⟩
set_option maxRecDepth 100000 in
theorem mbX6_grow : am_MB mX6_grow 1 := ⟨by decide +kernel, am_in 903 (by decide +kernel) rfl, am_in 111 (by decide +kernel) rfl, ⟨by decide, by decide, by decide +kernel⟩, by decide⟩
set_option maxRecDepth 100000 in
theorem mbX6_isIll : am_MB mX6_isIll 1 := ⟨by decide +kernel, am_in 709 (by decide +kernel) rfl, am_in 111 (by decide +kernel) rfl, ⟨by decide, by decide, by decide +kernel⟩, by decide⟩
set_option maxRecDepth 100000 in
theorem mbX6_marksOn : am_MB mX6_marksOn 1 := ⟨by decide +kernel, am_in 849 (by decide +kernel) rfl, am_in 111 (by decide +kernel) rfl, ⟨by decide, by decide, by decide +kernel⟩, by decide⟩
set_option maxRecDepth 100000 in
theorem mbX6_nourish : am_MB mX6_nourish 2 := ⟨by decide +kernel, am_in 857 (by decide +kernel) rfl, am_in 111 (by decide +kernel) rfl, ⟨by decide, by decide, by decide +kernel⟩, by decide⟩
set_option maxRecDepth 100000 in
theorem mbX6_remove : am_MB mX6_remove 2 := ⟨by decide +kernel, am_in 853 (by decide +kernel) rfl, am_in 111 (by decide +kernel) rfl, ⟨by decide, by decide, by decide +kernel⟩, by decide⟩
set_option maxRecDepth 100000 in
theorem mbX6_see : am_MB mX6_see 2 := ⟨by decide +kernel, am_in 623 (by decide +kernel) rfl, am_in 111 (by decide +kernel) rfl, ⟨by decide, by decide, by decide +kernel⟩, by decide⟩
set_option maxRecDepth 100000 in
theorem mbX6_shareOf : am_MB mX6_shareOf 2 := ⟨by decide +kernel, am_in 922 (by decide +kernel) rfl, am_in 111 (by decide +kernel) rfl, ⟨by decide, by decide, by decide +kernel⟩, by decide⟩
set_option maxRecDepth 100000 in
theorem mbX6_sicken : am_MB mX6_sicken 2 := ⟨by decide +kernel, am_in 632 (by decide +kernel) rfl, am_in 111 (by decide +kernel) rfl, ⟨by decide, by decide, by decide +kernel⟩, by decide⟩
set_option maxRecDepth 100000 in
theorem mbX6_sow : am_MB mX6_sow 2 := ⟨by decide +kernel, am_in 605 (by decide +kernel) rfl, am_in 111 (by decide +kernel) rfl, ⟨by decide, by decide, by decide +kernel⟩, by decide⟩
set_option maxRecDepth 100000 in
theorem mbX6_spread : am_MB mX6_spread 2 := ⟨by decide +kernel, am_in 894 (by decide +kernel) rfl, am_in 111 (by decide +kernel) rfl, ⟨by decide, by decide, by decide +kernel⟩, by decide⟩
set_option maxRecDepth 100000 in
theorem mbX6_standsOn : am_MB mX6_standsOn 1 := ⟨by decide +kernel, am_in 610 (by decide +kernel) rfl, am_in 111 (by decide +kernel) rfl, ⟨by decide, by decide, by decide +kernel⟩, by decide⟩
set_option maxRecDepth 100000 in
theorem mbX6_weedHundredths : am_MB mX6_weedHundredths 1 := ⟨by decide +kernel, am_in 918 (by decide +kernel) rfl, am_in 111 (by decide +kernel) rfl, ⟨by decide, by decide, by decide +kernel⟩, by decide⟩
set_option maxRecDepth 100000 in
theorem mbX6_weigh : am_MB mX6_weigh 3 := ⟨by decide +kernel, am_in 627 (by decide +kernel) rfl, am_in 111 (by decide +kernel) rfl, ⟨by decide, by decide, by decide +kernel⟩, by decide⟩
set_option maxRecDepth 100000 in
theorem mbX7_accept : am_MB mX7_accept 1 := ⟨by decide +kernel, am_in 1229 (by decide +kernel) rfl, am_in 114 (by decide +kernel) rfl, ⟨by decide, by decide, by decide +kernel⟩, by decide⟩
set_option maxRecDepth 100000 in
theorem mbX7_addToken : am_MB mX7_addToken 2 := ⟨by decide +kernel, am_in 1204 (by decide +kernel) rfl, am_in 114 (by decide +kernel) rfl, ⟨by decide, by decide, by decide +kernel⟩, by decide⟩
set_option maxRecDepth 100000 in
theorem mbX7_append : am_MB mX7_append 1 := ⟨by decide +kernel, am_in 1065 (by decide +kernel) rfl, am_in 114 (by decide +kernel) rfl, ⟨by decide, by decide, by decide +kernel⟩, by decide⟩
set_option maxRecDepth 100000 in
theorem mbX7_emit : am_MB mX7_emit 1 := ⟨by decide +kernel, am_in 1217 (by decide +kernel) rfl, am_in 114 (by decide +kernel) rfl, ⟨by decide, by decide, by decide +kernel⟩, by decide⟩
set_option maxRecDepth 100000 in
theorem mbX7_groupOf : am_MB mX7_groupOf 1 := ⟨by decide +kernel, am_in 1081 (by decide +kernel) rfl, am_in 114 (by decide +kernel) rfl, ⟨by decide, by decide, by decide +kernel⟩, by decide⟩
set_option maxRecDepth 100000 in
theorem mbX7_hasRoomForFive : am_MB mX7_hasRoomForFive 0 := ⟨by decide +kernel, am_in 1061 (by decide +kernel) rfl, am_in 114 (by decide +kernel) rfl, ⟨by decide, by decide, by decide +kernel⟩, by decide⟩
set_option maxRecDepth 100000 in
theorem mbX7_here : am_MB mX7_here 0 := ⟨by decide +kernel, am_in 1208 (by decide +kernel) rfl, am_in 114 (by decide +kernel) rfl, ⟨by decide, by decide, by decide +kernel⟩, by decide⟩
set_option maxRecDepth 100000 in
theorem mbX7_isOperator : am_MB mX7_isOperator 1 := ⟨by decide +kernel, am_in 1232 (by decide +kernel) rfl, am_in 114 (by decide +kernel) rfl, ⟨by decide, by decide, by decide +kernel⟩, by decide⟩
set_option maxRecDepth 100000 in
theorem mbX7_numberBetween : am_MB mX7_numberBetween 2 := ⟨by decide +kernel, am_in 1200 (by decide +kernel) rfl, am_in 114 (by decide +kernel) rfl, ⟨by decide, by decide, by decide +kernel⟩, by decide⟩
set_option maxRecDepth 100000 in
theorem mbX7_placeHere : am_MB mX7_placeHere 0 := ⟨by decide +kernel, am_in 1244 (by decide +kernel) rfl, am_in 114 (by decide +kernel) rfl, ⟨by decide, by decide, by decide +kernel⟩, by decide⟩
set_option maxRecDepth 100000 in
theorem mbX7_read : am_MB mX7_read 1 := ⟨by decide +kernel, am_in 1073 (by decide +kernel) rfl, am_in 114 (by decide +kernel) rfl, ⟨by decide, by decide, by decide +kernel⟩, by decide⟩
set_option maxRecDepth 100000 in
theorem mbX7_readAny : am_MB mX7_readAny 1 := ⟨by decide +kernel, am_in 1236 (by decide +kernel) rfl, am_in 114 (by decide +kernel) rfl, ⟨by decide, by decide, by decide +kernel⟩, by decide⟩
set_option maxRecDepth 100000 in
theorem mbX7_readAtom : am_MB mX7_readAtom 1 := ⟨by decide +kernel, am_in 1225 (by decide +kernel) rfl, am_in 114 (by decide +kernel) rfl, ⟨by decide, by decide, by decide +kernel⟩, by decide⟩
set_option maxRecDepth 100000 in
theorem mbX7_readOne : am_MB mX7_readOne 1 := ⟨by decide +kernel, am_in 1240 (by decide +kernel) rfl, am_in 114 (by decide +kernel) rfl, ⟨by decide, by decide, by decide +kernel⟩, by decide⟩
set_option maxRecDepth 100000 in
theorem mbX7_readStatement : am_MB mX7_readStatement 0 := ⟨by decide +kernel, am_in 1212 (by decide +kernel) rfl, am_in 114 (by decide +kernel) rfl, ⟨by decide, by decide, by decide +kernel⟩, by decide⟩
set_option maxRecDepth 100000 in
theorem mbX7_readSum : am_MB mX7_readSum 1 := ⟨by decide +kernel, am_in 1221 (by decide +kernel) rfl, am_in 114 (by decide +kernel) rfl, ⟨by decide, by decide, by decide +kernel⟩, by decide⟩
set_option maxRecDepth 100000 in
theorem mbX7_split : am_MB mX7_split 1 := ⟨by decide +kernel, am_in 1078 (by decide +kernel) rfl, am_in 114 (by decide +kernel) rfl, ⟨by decide, by decide, by decide +kernel⟩, by decide⟩
set_option maxRecDepth 100000 in
theorem mbX7_tokenFrom : am_MB mX7_tokenFrom 3 := ⟨by decide +kernel, am_in 1085 (by decide +kernel) rfl, am_in 114 (by decide +kernel) rfl, ⟨by decide, by decide, by decide +kernel⟩, by decide⟩
set_option maxRecDepth 100000 in
theorem mbX7_wordBetween : am_MB mX7_wordBetween 2 := ⟨by decide +kernel, am_in 1174 (by decide +kernel) rfl, am_in 114 (by decide +kernel) rfl, ⟨by decide, by decide, by decide +kernel⟩, by decide⟩
set_option maxRecDepth 100000 in
theorem mbX8_allWays : am_MB mX8_allWays 0 := ⟨by decide +kernel, am_in 1050 (by decide +kernel) rfl, am_in 116 (by decide +kernel) rfl, ⟨by decide, by decide, by decide +kernel⟩, by decide⟩
set_option maxRecDepth 100000 in
theorem mbX8_armsAsDealt : am_MB mX8_armsAsDealt 0 := ⟨by decide +kernel, am_in 1036 (by decide +kernel) rfl, am_in 116 (by decide +kernel) rfl, ⟨by decide, by decide, by decide +kernel⟩, by decide⟩
set_option maxRecDepth 100000 in
theorem mbX8_lead : am_MB mX8_lead 0 := ⟨by decide +kernel, am_in 1032 (by decide +kernel) rfl, am_in 116 (by decide +kernel) rfl, ⟨by decide, by decide, by decide +kernel⟩, by decide⟩
set_option maxRecDepth 100000 in
theorem mbX8_leadOf : am_MB mX8_leadOf 1 := ⟨by decide +kernel, am_in 1041 (by decide +kernel) rfl, am_in 116 (by decide +kernel) rfl, ⟨by decide, by decide, by decide +kernel⟩, by decide⟩
set_option maxRecDepth 100000 in
theorem mbX8_waysAsGood : am_MB mX8_waysAsGood 0 := ⟨by decide +kernel, am_in 1028 (by decide +kernel) rfl, am_in 116 (by decide +kernel) rfl, ⟨by decide, by decide, by decide +kernel⟩, by decide⟩
set_option maxRecDepth 100000 in
theorem mbX8_waysWithLead : am_MB mX8_waysWithLead 1 := ⟨by decide +kernel, am_in 1046 (by decide +kernel) rfl, am_in 116 (by decide +kernel) rfl, ⟨by decide, by decide, by decide +kernel⟩, by decide⟩
set_option maxRecDepth 100000 in
theorem mbX9_add : am_MB mX9_add 6 := ⟨by decide +kernel, am_in 546 (by decide +kernel) rfl, am_in 107 (by decide +kernel) rfl, ⟨by decide, by decide, by decide +kernel⟩, by decide⟩
set_option maxRecDepth 100000 in
theorem mbX9_at : am_MB mX9_at 2 := ⟨by decide +kernel, am_in 559 (by decide +kernel) rfl, am_in 107 (by decide +kernel) rfl, ⟨by decide, by decide, by decide +kernel⟩, by decide⟩
set_option maxRecDepth 100000 in
theorem mbX9_has : am_MB mX9_has 1 := ⟨by decide +kernel, am_in 665 (by decide +kernel) rfl, am_in 107 (by decide +kernel) rfl, ⟨by decide, by decide, by decide +kernel⟩, by decide⟩
set_option maxRecDepth 100000 in
theorem mbX9_isFull : am_MB mX9_isFull 0 := ⟨by decide +kernel, am_in 542 (by decide +kernel) rfl, am_in 107 (by decide +kernel) rfl, ⟨by decide, by decide, by decide +kernel⟩, by decide⟩
set_option maxRecDepth 100000 in
theorem mbX9_put : am_MB mX9_put 2 := ⟨by decide +kernel, am_in 551 (by decide +kernel) rfl, am_in 107 (by decide +kernel) rfl, ⟨by decide, by decide, by decide +kernel⟩, by decide⟩
set_option maxRecDepth 100000 in
theorem msRX0_35 : am_VS RX0 35 mX9_isFull := ⟨Or.inl (am_in 649 (by decide +kernel) rfl), am_in 540 (by decide +kernel) rfl, am_in 541 (by decide +kernel) rfl⟩
set_option maxRecDepth 100000 in
theorem msRX0_43 : am_VS RX0 43 mX9_at := ⟨Or.inl (am_in 727 (by decide +kernel) rfl), am_in 557 (by decide +kernel) rfl, am_in 558 (by decide +kernel) rfl⟩
set_option maxRecDepth 100000 in
theorem msRX0_47 : am_SS RX0 47 mJ9_max_7cf53 := ⟨Or.inl (am_in 1274 (by decide +kernel) rfl), am_in 1116 (by decide +kernel) rfl⟩
set_option maxRecDepth 100000 in
theorem msRX0_52 : am_SS RX0 52 mJ9_min_7cf53 := ⟨Or.inl (am_in 1275 (by decide +kernel) rfl), am_in 791 (by decide +kernel) rfl⟩
set_option maxRecDepth 100000 in
theorem msRX1_32 : am_SS RX1 32 mJ7_fill_53178 := ⟨Or.inl (am_in 355 (by decide +kernel) rfl), am_in 344 (by decide +kernel) rfl⟩
set_option maxRecDepth 100000 in
theorem msRX1_38 : am_SS RX1 38 mJ7_fill_d0a16 := ⟨Or.inl (am_in 356 (by decide +kernel) rfl), am_in 357 (by decide +kernel) rfl⟩
set_option maxRecDepth 100000 in
theorem msRX1_41 : am_SS RX1 41 mX1_isPlace := ⟨Or.inl (am_in 586 (by decide +kernel) rfl), am_in 587 (by decide +kernel) rfl⟩
set_option maxRecDepth 100000 in
theorem msRX1_51 : am_VS RX1 51 mX9_at := ⟨Or.inl (am_in 589 (by decide +kernel) rfl), am_in 557 (by decide +kernel) rfl, am_in 558 (by decide +kernel) rfl⟩
set_option maxRecDepth 100000 in
theorem msRX1_57 : am_VS RX1 57 mX1_isFlat := ⟨Or.inl (am_in 594 (by decide +kernel) rfl), am_in 595 (by decide +kernel) rfl, am_in 596 (by decide +kernel) rfl⟩
set_option maxRecDepth 100000 in
theorem msRX1_60 : am_SS RX1 60 mJ9_min_7cf53 := ⟨Or.inl (am_in 830 (by decide +kernel) rfl), am_in 791 (by decide +kernel) rfl⟩
set_option maxRecDepth 100000 in
theorem msRX1_65 : am_VS RX1 65 mX1_hasPower := ⟨Or.inl (am_in 760 (by decide +kernel) rfl), am_in 761 (by decide +kernel) rfl, am_in 762 (by decide +kernel) rfl⟩
set_option maxRecDepth 100000 in
theorem msRX1_68 : am_VS RX1 68 mX1_isReady := ⟨Or.inl (am_in 756 (by decide +kernel) rfl), am_in 757 (by decide +kernel) rfl, am_in 758 (by decide +kernel) rfl⟩
set_option maxRecDepth 100000 in
theorem msRX1_71 : am_SS RX1 71 mX11_far := ⟨Or.inr ⟨"PloughField", am_inN 880 (by decide +kernel) rfl⟩, am_in 837 (by decide +kernel) rfl⟩
set_option maxRecDepth 100000 in
theorem msRX1_74 : am_SS RX1 74 mX11_bit := ⟨Or.inr ⟨"PloughField", am_inN 881 (by decide +kernel) rfl⟩, am_in 612 (by decide +kernel) rfl⟩
set_option maxRecDepth 100000 in
theorem msRX1_78 : am_SS RX1 78 mJ13_bitCount_95d88 := ⟨Or.inl (am_in 937 (by decide +kernel) rfl), am_in 938 (by decide +kernel) rfl⟩
set_option maxRecDepth 100000 in
theorem msRX1_84 : am_SS RX1 84 mX11_within := ⟨Or.inr ⟨"PloughField", am_inN 943 (by decide +kernel) rfl⟩, am_in 533 (by decide +kernel) rfl⟩
set_option maxRecDepth 100000 in
theorem msRX10_56 : am_VS RX10 56 mX2_begin := ⟨Or.inl (am_in 339 (by decide +kernel) rfl), am_in 340 (by decide +kernel) rfl, am_in 341 (by decide +kernel) rfl⟩
set_option maxRecDepth 100000 in
theorem msRX10_58 : am_VS RX10 58 mX6_begin := ⟨Or.inl (am_in 346 (by decide +kernel) rfl), am_in 347 (by decide +kernel) rfl, am_in 348 (by decide +kernel) rfl⟩
set_option maxRecDepth 100000 in
theorem msRX10_59 : am_VS RX10 59 mX1_begin := ⟨Or.inl (am_in 351 (by decide +kernel) rfl), am_in 352 (by decide +kernel) rfl, am_in 353 (by decide +kernel) rfl⟩
set_option maxRecDepth 100000 in
theorem msRX10_60 : am_SS RX10 60 mJ7_fill_53178 := ⟨Or.inl (am_in 359 (by decide +kernel) rfl), am_in 344 (by decide +kernel) rfl⟩
set_option maxRecDepth 100000 in
theorem msRX10_85 : am_VS RX10 85 mX10_hearTold := ⟨Or.inl (am_in 718 (by decide +kernel) rfl), am_in 553 (by decide +kernel) rfl, am_in 554 (by decide +kernel) rfl⟩
set_option maxRecDepth 100000 in
theorem msRX10_88 : am_VS RX10 88 mX10_passHour := ⟨Or.inl (am_in 719 (by decide +kernel) rfl), am_in 721 (by decide +kernel) rfl, am_in 9 (by decide +kernel) rfl⟩
set_option maxRecDepth 100000 in
theorem msRX10_102 : am_VS RX10 102 mX9_at := ⟨Or.inl (am_in 556 (by decide +kernel) rfl), am_in 557 (by decide +kernel) rfl, am_in 558 (by decide +kernel) rfl⟩
set_option maxRecDepth 100000 in
theorem msRX10_106 : am_VS RX10 106 mX10_hear := ⟨Or.inl (am_in 560 (by decide +kernel) rfl), am_in 562 (by decide +kernel) rfl, am_in 2 (by decide +kernel) rfl⟩
set_option maxRecDepth 100000 in
theorem msRX10_110 : am_VS RX10 110 mX2_shape := ⟨Or.inl (am_in 564 (by decide +kernel) rfl), am_in 565 (by decide +kernel) rfl, am_in 566 (by decide +kernel) rfl⟩
set_option maxRecDepth 100000 in
theorem msRX10_114 : am_VS RX10 114 mX10_adjust := ⟨Or.inl (am_in 569 (by decide +kernel) rfl), am_in 571 (by decide +kernel) rfl, am_in 3 (by decide +kernel) rfl⟩
set_option maxRecDepth 100000 in
theorem msRX10_117 : am_VS RX10 117 mX10_bringCart := ⟨Or.inl (am_in 574 (by decide +kernel) rfl), am_in 576 (by decide +kernel) rfl, am_in 4 (by decide +kernel) rfl⟩
set_option maxRecDepth 100000 in
theorem msRX10_120 : am_VS RX10 120 mX1_refill := ⟨Or.inl (am_in 590 (by decide +kernel) rfl), am_in 591 (by decide +kernel) rfl, am_in 592 (by decide +kernel) rfl⟩
set_option maxRecDepth 100000 in
theorem msRX10_123 : am_VS RX10 123 mX10_openWork := ⟨Or.inl (am_in 598 (by decide +kernel) rfl), am_in 600 (by decide +kernel) rfl, am_in 5 (by decide +kernel) rfl⟩
set_option maxRecDepth 100000 in
theorem msRX10_126 : am_VS RX10 126 mX6_sow := ⟨Or.inl (am_in 602 (by decide +kernel) rfl), am_in 603 (by decide +kernel) rfl, am_in 604 (by decide +kernel) rfl⟩
set_option maxRecDepth 100000 in
theorem msRX10_129 : am_VS RX10 129 mX6_expose := ⟨Or.inl (am_in 616 (by decide +kernel) rfl), am_in 617 (by decide +kernel) rfl, am_in 618 (by decide +kernel) rfl⟩
set_option maxRecDepth 100000 in
theorem msRX10_132 : am_VS RX10 132 mX6_see := ⟨Or.inl (am_in 620 (by decide +kernel) rfl), am_in 621 (by decide +kernel) rfl, am_in 622 (by decide +kernel) rfl⟩
set_option maxRecDepth 100000 in
theorem msRX10_135 : am_VS RX10 135 mX6_sicken := ⟨Or.inl (am_in 629 (by decide +kernel) rfl), am_in 630 (by decide +kernel) rfl, am_in 631 (by decide +kernel) rfl⟩
set_option maxRecDepth 100000 in
theorem msRX10_139 : am_SS RX10 139 mX11_within := ⟨Or.inr ⟨"PloughField", am_inN 573 (by decide +kernel) rfl⟩, am_in 533 (by decide +kernel) rfl⟩
set_option maxRecDepth 100000 in
theorem msRX10_143 : am_VS RX10 143 mX10_leavesOut := ⟨Or.inl (am_in 578 (by decide +kernel) rfl), am_in 579 (by decide +kernel) rfl, am_in 580 (by decide +kernel) rfl⟩
set_option maxRecDepth 100000 in
theorem msRX10_147 : am_VS RX10 147 mX1_bring := ⟨Or.inl (am_in 582 (by decide +kernel) rfl), am_in 583 (by decide +kernel) rfl, am_in 584 (by decide +kernel) rfl⟩
set_option maxRecDepth 100000 in
theorem msRX10_150 : am_VS RX10 150 mX0_fallingAt := ⟨Or.inl (am_in 723 (by decide +kernel) rfl), am_in 724 (by decide +kernel) rfl, am_in 725 (by decide +kernel) rfl⟩
set_option maxRecDepth 100000 in
theorem msRX10_153 : am_VS RX10 153 mX2_rainOn := ⟨Or.inl (am_in 728 (by decide +kernel) rfl), am_in 729 (by decide +kernel) rfl, am_in 730 (by decide +kernel) rfl⟩
set_option maxRecDepth 100000 in
theorem msRX10_156 : am_VS RX10 156 mX2_flow := ⟨Or.inl (am_in 733 (by decide +kernel) rfl), am_in 734 (by decide +kernel) rfl, am_in 735 (by decide +kernel) rfl⟩
set_option maxRecDepth 100000 in
theorem msRX10_159 : am_VS RX10 159 mX2_dry := ⟨Or.inl (am_in 744 (by decide +kernel) rfl), am_in 745 (by decide +kernel) rfl, am_in 746 (by decide +kernel) rfl⟩
set_option maxRecDepth 100000 in
theorem msRX10_162 : am_VS RX10 162 mX10_makeOffers := ⟨Or.inl (am_in 748 (by decide +kernel) rfl), am_in 750 (by decide +kernel) rfl, am_in 11 (by decide +kernel) rfl⟩
set_option maxRecDepth 100000 in
theorem msRX10_165 : am_VS RX10 165 mX10_takeTurn := ⟨Or.inl (am_in 822 (by decide +kernel) rfl), am_in 824 (by decide +kernel) rfl, am_in 19 (by decide +kernel) rfl⟩
set_option maxRecDepth 100000 in
theorem msRX10_168 : am_VS RX10 168 mX6_drown := ⟨Or.inl (am_in 886 (by decide +kernel) rfl), am_in 887 (by decide +kernel) rfl, am_in 888 (by decide +kernel) rfl⟩
set_option maxRecDepth 100000 in
theorem msRX10_172 : am_VS RX10 172 mX6_spread := ⟨Or.inl (am_in 891 (by decide +kernel) rfl), am_in 892 (by decide +kernel) rfl, am_in 893 (by decide +kernel) rfl⟩
set_option maxRecDepth 100000 in
theorem msRX10_175 : am_VS RX10 175 mX6_grow := ⟨Or.inl (am_in 900 (by decide +kernel) rfl), am_in 901 (by decide +kernel) rfl, am_in 902 (by decide +kernel) rfl⟩
set_option maxRecDepth 100000 in
theorem msRX10_178 : am_VS RX10 178 mX1_readyOnes := ⟨Or.inl (am_in 752 (by decide +kernel) rfl), am_in 753 (by decide +kernel) rfl, am_in 754 (by decide +kernel) rfl⟩
set_option maxRecDepth 100000 in
theorem msRX10_185 : am_VS RX10 185 mX10_ofKind := ⟨Or.inl (am_in 764 (by decide +kernel) rfl), am_in 766 (by decide +kernel) rfl, am_in 12 (by decide +kernel) rfl⟩
set_option maxRecDepth 100000 in
theorem msRX10_192 : am_VS RX10 192 mX5_search := ⟨Or.inl (am_in 768 (by decide +kernel) rfl), am_in 769 (by decide +kernel) rfl, am_in 770 (by decide +kernel) rfl⟩
set_option maxRecDepth 100000 in
theorem msRX10_198 : am_VS RX10 198 mX10_cheapest := ⟨Or.inl (am_in 793 (by decide +kernel) rfl), am_in 795 (by decide +kernel) rfl, am_in 15 (by decide +kernel) rfl⟩
set_option maxRecDepth 100000 in
theorem msRX10_201 : am_VS RX10 201 mX10_takeOn := ⟨Or.inl (am_in 818 (by decide +kernel) rfl), am_in 820 (by decide +kernel) rfl, am_in 18 (by decide +kernel) rfl⟩
set_option maxRecDepth 100000 in
theorem msRX10_204 : am_VS RX10 204 mX10_goalOf := ⟨Or.inl (am_in 797 (by decide +kernel) rfl), am_in 799 (by decide +kernel) rfl, am_in 16 (by decide +kernel) rfl⟩
set_option maxRecDepth 100000 in
theorem msRX10_207 : am_VS RX10 207 mX5_hasWay := ⟨Or.inl (am_in 813 (by decide +kernel) rfl), am_in 806 (by decide +kernel) rfl, am_in 807 (by decide +kernel) rfl⟩
set_option maxRecDepth 100000 in
theorem msRX10_210 : am_VS RX10 210 mX5_costTo := ⟨Or.inl (am_in 814 (by decide +kernel) rfl), am_in 815 (by decide +kernel) rfl, am_in 816 (by decide +kernel) rfl⟩
set_option maxRecDepth 100000 in
theorem msRX10_213 : am_VS RX10 213 mX5_nearestBeside := ⟨Or.inl (am_in 801 (by decide +kernel) rfl), am_in 802 (by decide +kernel) rfl, am_in 803 (by decide +kernel) rfl⟩
set_option maxRecDepth 100000 in
theorem msRX10_222 : am_VS RX10 222 mX1_plugIn := ⟨Or.inl (am_in 826 (by decide +kernel) rfl), am_in 827 (by decide +kernel) rfl, am_in 828 (by decide +kernel) rfl⟩
set_option maxRecDepth 100000 in
theorem msRX10_225 : am_VS RX10 225 mX1_hasPower := ⟨Or.inl (am_in 831 (by decide +kernel) rfl), am_in 761 (by decide +kernel) rfl, am_in 762 (by decide +kernel) rfl⟩
set_option maxRecDepth 100000 in
theorem msRX10_229 : am_VS RX10 229 mX10_isAtWork := ⟨Or.inl (am_in 832 (by decide +kernel) rfl), am_in 834 (by decide +kernel) rfl, am_in 20 (by decide +kernel) rfl⟩
set_option maxRecDepth 100000 in
theorem msRX10_232 : am_VS RX10 232 mX10_doWork := ⟨Or.inl (am_in 842 (by decide +kernel) rfl), am_in 844 (by decide +kernel) rfl, am_in 21 (by decide +kernel) rfl⟩
set_option maxRecDepth 100000 in
theorem msRX10_235 : am_VS RX10 235 mX10_move := ⟨Or.inl (am_in 862 (by decide +kernel) rfl), am_in 864 (by decide +kernel) rfl, am_in 22 (by decide +kernel) rfl⟩
set_option maxRecDepth 100000 in
theorem msRX10_238 : am_VS RX10 238 mX1_isHome := ⟨Or.inl (am_in 882 (by decide +kernel) rfl), am_in 883 (by decide +kernel) rfl, am_in 884 (by decide +kernel) rfl⟩
set_option maxRecDepth 100000 in
theorem msRX10_244 : am_SS RX10 244 mX11_far := ⟨Or.inr ⟨"PloughField", am_inN 836 (by decide +kernel) rfl⟩, am_in 837 (by decide +kernel) rfl⟩
set_option maxRecDepth 100000 in
theorem msRX10_247 : am_VS RX10 247 mX6_marksOn := ⟨Or.inl (am_in 846 (by decide +kernel) rfl), am_in 847 (by decide +kernel) rfl, am_in 848 (by decide +kernel) rfl⟩
set_option maxRecDepth 100000 in
theorem msRX10_250 : am_VS RX10 250 mX6_remove := ⟨Or.inl (am_in 850 (by decide +kernel) rfl), am_in 851 (by decide +kernel) rfl, am_in 852 (by decide +kernel) rfl⟩
set_option maxRecDepth 100000 in
theorem msRX10_253 : am_VS RX10 253 mX6_nourish := ⟨Or.inl (am_in 854 (by decide +kernel) rfl), am_in 855 (by decide +kernel) rfl, am_in 856 (by decide +kernel) rfl⟩
set_option maxRecDepth 100000 in
theorem msRX10_256 : am_VS RX10 256 mX1_freeOneStuck := ⟨Or.inl (am_in 858 (by decide +kernel) rfl), am_in 859 (by decide +kernel) rfl, am_in 860 (by decide +kernel) rfl⟩
set_option maxRecDepth 100000 in
theorem msRX10_259 : am_VS RX10 259 mX5_firstTo := ⟨Or.inl (am_in 866 (by decide +kernel) rfl), am_in 867 (by decide +kernel) rfl, am_in 868 (by decide +kernel) rfl⟩
set_option maxRecDepth 100000 in
theorem msRX10_262 : am_SS RX10 262 mX11_isCell := ⟨Or.inr ⟨"PloughField", am_inN 870 (by decide +kernel) rfl⟩, am_in 530 (by decide +kernel) rfl⟩
set_option maxRecDepth 100000 in
theorem msRX10_265 : am_VS RX10 265 mX10_leaveWork := ⟨Or.inl (am_in 871 (by decide +kernel) rfl), am_in 873 (by decide +kernel) rfl, am_in 23 (by decide +kernel) rfl⟩
set_option maxRecDepth 100000 in
theorem msRX10_274 : am_VS RX10 274 mX2_heavy := ⟨Or.inl (am_in 875 (by decide +kernel) rfl), am_in 776 (by decide +kernel) rfl, am_in 777 (by decide +kernel) rfl⟩
set_option maxRecDepth 100000 in
theorem msRX10_280 : am_VS RX10 280 mX1_hearOf := ⟨Or.inl (am_in 876 (by decide +kernel) rfl), am_in 877 (by decide +kernel) rfl, am_in 878 (by decide +kernel) rfl⟩
set_option maxRecDepth 100000 in
theorem msRX10_283 : am_VS RX10 283 mX6_standsOn := ⟨Or.inl (am_in 913 (by decide +kernel) rfl), am_in 608 (by decide +kernel) rfl, am_in 609 (by decide +kernel) rfl⟩
set_option maxRecDepth 100000 in
theorem msRX10_291 : am_VS RX10 291 mX6_isIll := ⟨Or.inl (am_in 914 (by decide +kernel) rfl), am_in 707 (by decide +kernel) rfl, am_in 708 (by decide +kernel) rfl⟩
set_option maxRecDepth 100000 in
theorem msRX10_300 : am_VS RX10 300 mX6_weedHundredths := ⟨Or.inl (am_in 915 (by decide +kernel) rfl), am_in 916 (by decide +kernel) rfl, am_in 917 (by decide +kernel) rfl⟩
set_option maxRecDepth 100000 in
theorem msRX10_308 : am_VS RX10 308 mX0_hoursToRain := ⟨Or.inl (am_in 1270 (by decide +kernel) rfl), am_in 1271 (by decide +kernel) rfl, am_in 1272 (by decide +kernel) rfl⟩
set_option maxRecDepth 100000 in
theorem msRX11_67 : am_SS RX11 67 mX11_isCell := ⟨Or.inl (am_in 529 (by decide +kernel) rfl), am_in 530 (by decide +kernel) rfl⟩
set_option maxRecDepth 100000 in
theorem msRX11_71 : am_SS RX11 71 mX11_within := ⟨Or.inl (am_in 532 (by decide +kernel) rfl), am_in 533 (by decide +kernel) rfl⟩
set_option maxRecDepth 100000 in
theorem msRX11_75 : am_VS RX11 75 mX11_tell := ⟨Or.inl (am_in 535 (by decide +kernel) rfl), am_in 537 (by decide +kernel) rfl, am_in 0 (by decide +kernel) rfl⟩
set_option maxRecDepth 100000 in
theorem msRX11_79 : am_SS RX11 79 mX11_isSetting := ⟨Or.inl (am_in 638 (by decide +kernel) rfl), am_in 639 (by decide +kernel) rfl⟩
set_option maxRecDepth 100000 in
theorem msRX11_90 : am_VS RX11 90 mX0_hasRoom := ⟨Or.inl (am_in 645 (by decide +kernel) rfl), am_in 646 (by decide +kernel) rfl, am_in 647 (by decide +kernel) rfl⟩
set_option maxRecDepth 100000 in
theorem msRX11_94 : am_VS RX11 94 mX9_add := ⟨Or.inl (am_in 543 (by decide +kernel) rfl), am_in 544 (by decide +kernel) rfl, am_in 545 (by decide +kernel) rfl⟩
set_option maxRecDepth 100000 in
theorem msRX11_100 : am_VS RX11 100 mX11_tellNewest := ⟨Or.inl (am_in 650 (by decide +kernel) rfl), am_in 652 (by decide +kernel) rfl, am_in 7 (by decide +kernel) rfl⟩
set_option maxRecDepth 100000 in
theorem msRX11_107 : am_VS RX11 107 mX9_has := ⟨Or.inl (am_in 662 (by decide +kernel) rfl), am_in 663 (by decide +kernel) rfl, am_in 664 (by decide +kernel) rfl⟩
set_option maxRecDepth 100000 in
theorem msRX11_114 : am_VS RX11 114 mX1_isFlat := ⟨Or.inl (am_in 666 (by decide +kernel) rfl), am_in 595 (by decide +kernel) rfl, am_in 596 (by decide +kernel) rfl⟩
set_option maxRecDepth 100000 in
theorem msRX11_119 : am_VS RX11 119 mX11_addWork := ⟨Or.inl (am_in 671 (by decide +kernel) rfl), am_in 673 (by decide +kernel) rfl, am_in 8 (by decide +kernel) rfl⟩
set_option maxRecDepth 100000 in
theorem msRX11_126 : am_SS RX11 126 mX11_isOdds := ⟨Or.inl (am_in 683 (by decide +kernel) rfl), am_in 684 (by decide +kernel) rfl⟩
set_option maxRecDepth 100000 in
theorem msRX11_136 : am_VS RX11 136 mX6_standsOn := ⟨Or.inl (am_in 690 (by decide +kernel) rfl), am_in 608 (by decide +kernel) rfl, am_in 609 (by decide +kernel) rfl⟩
set_option maxRecDepth 100000 in
theorem msRX11_144 : am_SS RX11 144 mX11_areMarks := ⟨Or.inl (am_in 695 (by decide +kernel) rfl), am_in 696 (by decide +kernel) rfl⟩
set_option maxRecDepth 100000 in
theorem msRX11_147 : am_VS RX11 147 mX6_isIll := ⟨Or.inl (am_in 706 (by decide +kernel) rfl), am_in 707 (by decide +kernel) rfl, am_in 708 (by decide +kernel) rfl⟩
set_option maxRecDepth 100000 in
theorem msRX11_150 : am_VS RX11 150 mX10_playTo := ⟨Or.inl (am_in 714 (by decide +kernel) rfl), am_in 715 (by decide +kernel) rfl, am_in 716 (by decide +kernel) rfl⟩
set_option maxRecDepth 100000 in
theorem msRX11_154 : am_VS RX11 154 mX10_factOfCell := ⟨Or.inl (am_in 909 (by decide +kernel) rfl), am_in 910 (by decide +kernel) rfl, am_in 911 (by decide +kernel) rfl⟩
set_option maxRecDepth 100000 in
theorem msRX11_158 : am_VS RX11 158 mX6_shareOf := ⟨Or.inl (am_in 928 (by decide +kernel) rfl), am_in 920 (by decide +kernel) rfl, am_in 921 (by decide +kernel) rfl⟩
set_option maxRecDepth 100000 in
theorem msRX11_161 : am_VS RX11 161 mX1_factOfCart := ⟨Or.inl (am_in 933 (by decide +kernel) rfl), am_in 934 (by decide +kernel) rfl, am_in 935 (by decide +kernel) rfl⟩
set_option maxRecDepth 100000 in
theorem msRX11_167 : am_VS RX11 167 mX9_at := ⟨Or.inl (am_in 948 (by decide +kernel) rfl), am_in 557 (by decide +kernel) rfl, am_in 558 (by decide +kernel) rfl⟩
set_option maxRecDepth 100000 in
theorem msRX11_170 : am_VS RX11 170 mX10_stateOfWork := ⟨Or.inl (am_in 949 (by decide +kernel) rfl), am_in 950 (by decide +kernel) rfl, am_in 951 (by decide +kernel) rfl⟩
set_option maxRecDepth 100000 in
theorem msRX11_174 : am_VS RX11 174 mX10_doerOfWork := ⟨Or.inl (am_in 953 (by decide +kernel) rfl), am_in 954 (by decide +kernel) rfl, am_in 955 (by decide +kernel) rfl⟩
set_option maxRecDepth 100000 in
theorem msRX11_184 : am_VS RX11 184 mX5_search := ⟨Or.inl (am_in 961 (by decide +kernel) rfl), am_in 769 (by decide +kernel) rfl, am_in 770 (by decide +kernel) rfl⟩
set_option maxRecDepth 100000 in
theorem msRX11_188 : am_VS RX11 188 mX5_hasWay := ⟨Or.inl (am_in 962 (by decide +kernel) rfl), am_in 806 (by decide +kernel) rfl, am_in 807 (by decide +kernel) rfl⟩
set_option maxRecDepth 100000 in
theorem msRX11_191 : am_VS RX11 191 mX5_costTo := ⟨Or.inl (am_in 963 (by decide +kernel) rfl), am_in 815 (by decide +kernel) rfl, am_in 816 (by decide +kernel) rfl⟩
set_option maxRecDepth 100000 in
theorem msRX11_194 : am_VS RX11 194 mX5_stepsTo := ⟨Or.inl (am_in 964 (by decide +kernel) rfl), am_in 965 (by decide +kernel) rfl, am_in 966 (by decide +kernel) rfl⟩
set_option maxRecDepth 100000 in
theorem msRX11_197 : am_VS RX11 197 mX5_firstTo := ⟨Or.inl (am_in 968 (by decide +kernel) rfl), am_in 867 (by decide +kernel) rfl, am_in 868 (by decide +kernel) rfl⟩
set_option maxRecDepth 100000 in
theorem msRX11_200 : am_VS RX11 200 mX2_allWet := ⟨Or.inl (am_in 973 (by decide +kernel) rfl), am_in 974 (by decide +kernel) rfl, am_in 975 (by decide +kernel) rfl⟩
set_option maxRecDepth 100000 in
theorem msRX11_221 : am_SS RX11 221 mX4_spotOf := ⟨Or.inl (am_in 982 (by decide +kernel) rfl), am_in 983 (by decide +kernel) rfl⟩
set_option maxRecDepth 100000 in
theorem msRX11_227 : am_SS RX11 227 mX4_pullOf := ⟨Or.inl (am_in 999 (by decide +kernel) rfl), am_in 1000 (by decide +kernel) rfl⟩
set_option maxRecDepth 100000 in
theorem msRX11_234 : am_VS RX11 234 mX9_isFull := ⟨Or.inl (am_in 539 (by decide +kernel) rfl), am_in 540 (by decide +kernel) rfl, am_in 541 (by decide +kernel) rfl⟩
set_option maxRecDepth 100000 in
theorem msRX11_238 : am_VS RX11 238 mX8_waysAsGood := ⟨Or.inl (am_in 1025 (by decide +kernel) rfl), am_in 1026 (by decide +kernel) rfl, am_in 1027 (by decide +kernel) rfl⟩
set_option maxRecDepth 100000 in
theorem msRX11_242 : am_VS RX11 242 mX8_allWays := ⟨Or.inl (am_in 1047 (by decide +kernel) rfl), am_in 1048 (by decide +kernel) rfl, am_in 1049 (by decide +kernel) rfl⟩
set_option maxRecDepth 100000 in
theorem msRX11_245 : am_VS RX11 245 mX8_lead := ⟨Or.inl (am_in 1052 (by decide +kernel) rfl), am_in 1030 (by decide +kernel) rfl, am_in 1031 (by decide +kernel) rfl⟩
set_option maxRecDepth 100000 in
theorem msRX11_249 : am_VS RX11 249 mX7_hasRoomForFive := ⟨Or.inl (am_in 1058 (by decide +kernel) rfl), am_in 1059 (by decide +kernel) rfl, am_in 1060 (by decide +kernel) rfl⟩
set_option maxRecDepth 100000 in
theorem msRX11_252 : am_VS RX11 252 mX7_append := ⟨Or.inl (am_in 1062 (by decide +kernel) rfl), am_in 1063 (by decide +kernel) rfl, am_in 1064 (by decide +kernel) rfl⟩
set_option maxRecDepth 100000 in
theorem msRX11_258 : am_VS RX11 258 mX7_read := ⟨Or.inl (am_in 1070 (by decide +kernel) rfl), am_in 1071 (by decide +kernel) rfl, am_in 1072 (by decide +kernel) rfl⟩
set_option maxRecDepth 100000 in
theorem msRX11_270 : am_VS RX11 270 mX3_takeOver := ⟨Or.inl (am_in 1245 (by decide +kernel) rfl), am_in 1246 (by decide +kernel) rfl, am_in 1247 (by decide +kernel) rfl⟩
set_option maxRecDepth 100000 in
theorem msRX11_274 : am_VS RX11 274 mX11_findsAct := ⟨Or.inl (am_in 1262 (by decide +kernel) rfl), am_in 1264 (by decide +kernel) rfl, am_in 42 (by decide +kernel) rfl⟩
set_option maxRecDepth 100000 in
theorem msRX11_286 : am_SS RX11 286 mJ9_min_7cf53 := ⟨Or.inl (am_in 1310 (by decide +kernel) rfl), am_in 791 (by decide +kernel) rfl⟩
set_option maxRecDepth 100000 in
theorem msRX11_291 : am_SS RX11 291 mJ9_max_7cf53 := ⟨Or.inl (am_in 1311 (by decide +kernel) rfl), am_in 1116 (by decide +kernel) rfl⟩
set_option maxRecDepth 100000 in
theorem msRX11_294 : am_VS RX11 294 mX11_canLeaveOut := ⟨Or.inl (am_in 1316 (by decide +kernel) rfl), am_in 1318 (by decide +kernel) rfl, am_in 46 (by decide +kernel) rfl⟩
set_option maxRecDepth 100000 in
theorem msRX11_297 : am_VS RX11 297 mX10_leavesOut := ⟨Or.inl (am_in 1320 (by decide +kernel) rfl), am_in 579 (by decide +kernel) rfl, am_in 580 (by decide +kernel) rfl⟩
set_option maxRecDepth 100000 in
theorem msRX11_300 : am_VS RX11 300 mX10_begin := ⟨Or.inl (am_in 1321 (by decide +kernel) rfl), am_in 336 (by decide +kernel) rfl, am_in 337 (by decide +kernel) rfl⟩
set_option maxRecDepth 100000 in
theorem msRX11_307 : am_VS RX11 307 mX10_worksThatAre := ⟨Or.inl (am_in 1326 (by decide +kernel) rfl), am_in 1327 (by decide +kernel) rfl, am_in 1328 (by decide +kernel) rfl⟩
set_option maxRecDepth 100000 in
theorem msRX11_310 : am_SS RX11 310 mJ13_bitCount_95d88 := ⟨Or.inl (am_in 1330 (by decide +kernel) rfl), am_in 938 (by decide +kernel) rfl⟩
set_option maxRecDepth 100000 in
theorem msRX11_317 : am_VS RX11 317 mX1_cartsStuck := ⟨Or.inl (am_in 1331 (by decide +kernel) rfl), am_in 1332 (by decide +kernel) rfl, am_in 1333 (by decide +kernel) rfl⟩
set_option maxRecDepth 100000 in
theorem msRX11_320 : am_VS RX11 320 mX6_allGot := ⟨Or.inl (am_in 1335 (by decide +kernel) rfl), am_in 1336 (by decide +kernel) rfl, am_in 1337 (by decide +kernel) rfl⟩
set_option maxRecDepth 100000 in
theorem msRX11_323 : am_VS RX11 323 mX10_hearTold := ⟨Or.inl (am_in 552 (by decide +kernel) rfl), am_in 553 (by decide +kernel) rfl, am_in 554 (by decide +kernel) rfl⟩
set_option maxRecDepth 100000 in
theorem msRX11_326 : am_VS RX11 326 mX10_gatherFacts := ⟨Or.inl (am_in 1266 (by decide +kernel) rfl), am_in 1267 (by decide +kernel) rfl, am_in 1268 (by decide +kernel) rfl⟩
set_option maxRecDepth 100000 in
theorem msRX11_330 : am_VS RX11 330 mX3_decide := ⟨Or.inl (am_in 1276 (by decide +kernel) rfl), am_in 1277 (by decide +kernel) rfl, am_in 1278 (by decide +kernel) rfl⟩
set_option maxRecDepth 100000 in
theorem msRX11_334 : am_SS RX11 334 mJ9_abs_0f7a4 := ⟨Or.inl (am_in 839 (by decide +kernel) rfl), am_in 840 (by decide +kernel) rfl⟩
set_option maxRecDepth 100000 in
theorem msRX12_152 : am_VS RX12 152 mX12_begins := ⟨Or.inl (am_in 1345 (by decide +kernel) rfl), am_in 1347 (by decide +kernel) rfl, am_in 47 (by decide +kernel) rfl⟩
set_option maxRecDepth 100000 in
theorem msRX12_162 : am_SS RX12 162 mX12_isIn := ⟨Or.inl (am_in 1553 (by decide +kernel) rfl), am_in 1554 (by decide +kernel) rfl⟩
set_option maxRecDepth 100000 in
theorem msRX12_166 : am_SS RX12 166 mJ9_abs_0f7a4 := ⟨Or.inl (am_in 1658 (by decide +kernel) rfl), am_in 840 (by decide +kernel) rfl⟩
set_option maxRecDepth 100000 in
theorem msRX12_178 : am_VS RX12 178 mX12_does := ⟨Or.inl (am_in 1560 (by decide +kernel) rfl), am_in 1562 (by decide +kernel) rfl, am_in 49 (by decide +kernel) rfl⟩
set_option maxRecDepth 100000 in
theorem msRX12_182 : am_VS RX12 182 mX12_comes := ⟨Or.inl (am_in 1564 (by decide +kernel) rfl), am_in 1566 (by decide +kernel) rfl, am_in 50 (by decide +kernel) rfl⟩
set_option maxRecDepth 100000 in
theorem msRX12_185 : am_VS RX12 185 mX12_charged := ⟨Or.inl (am_in 1568 (by decide +kernel) rfl), am_in 1570 (by decide +kernel) rfl, am_in 51 (by decide +kernel) rfl⟩
set_option maxRecDepth 100000 in
theorem msRX12_188 : am_VS RX12 188 mX12_isBut := ⟨Or.inl (am_in 1572 (by decide +kernel) rfl), am_in 1574 (by decide +kernel) rfl, am_in 52 (by decide +kernel) rfl⟩
set_option maxRecDepth 100000 in
theorem msRX12_192 : am_VS RX12 192 mX12_grows := ⟨Or.inl (am_in 1576 (by decide +kernel) rfl), am_in 1578 (by decide +kernel) rfl, am_in 53 (by decide +kernel) rfl⟩
set_option maxRecDepth 100000 in
theorem msRX12_195 : am_VS RX12 195 mX12_seen := ⟨Or.inl (am_in 1581 (by decide +kernel) rfl), am_in 1583 (by decide +kernel) rfl, am_in 54 (by decide +kernel) rfl⟩
set_option maxRecDepth 100000 in
theorem msRX12_199 : am_SS RX12 199 mX12_isCell := ⟨Or.inl (am_in 1550 (by decide +kernel) rfl), am_in 1551 (by decide +kernel) rfl⟩
set_option maxRecDepth 100000 in
theorem msRX12_203 : am_VS RX12 203 mX12_tells := ⟨Or.inl (am_in 1556 (by decide +kernel) rfl), am_in 1558 (by decide +kernel) rfl, am_in 48 (by decide +kernel) rfl⟩
set_option maxRecDepth 100000 in
theorem msRX12_207 : am_SS RX12 207 mX12_isSet := ⟨Or.inl (am_in 1590 (by decide +kernel) rfl), am_in 1591 (by decide +kernel) rfl⟩
set_option maxRecDepth 100000 in
theorem msRX12_216 : am_VS RX12 216 mX12_isCart := ⟨Or.inl (am_in 1605 (by decide +kernel) rfl), am_in 1607 (by decide +kernel) rfl, am_in 55 (by decide +kernel) rfl⟩
set_option maxRecDepth 100000 in
theorem msRX12_228 : am_VS RX12 228 mX12_has := ⟨Or.inl (am_in 1625 (by decide +kernel) rfl), am_in 1627 (by decide +kernel) rfl, am_in 56 (by decide +kernel) rfl⟩
set_option maxRecDepth 100000 in
theorem msRX12_231 : am_SS RX12 231 mX12_one := ⟨Or.inl (am_in 1641 (by decide +kernel) rfl), am_in 1642 (by decide +kernel) rfl⟩
set_option maxRecDepth 100000 in
theorem msRX12_241 : am_VS RX12 241 mX12_heavy := ⟨Or.inl (am_in 1664 (by decide +kernel) rfl), am_in 1666 (by decide +kernel) rfl, am_in 59 (by decide +kernel) rfl⟩
set_option maxRecDepth 100000 in
theorem msRX12_245 : am_SS RX12 245 mX12_far := ⟨Or.inl (am_in 1655 (by decide +kernel) rfl), am_in 1656 (by decide +kernel) rfl⟩
set_option maxRecDepth 100000 in
theorem msRX12_248 : am_SS RX12 248 mX12_isGoal := ⟨Or.inl (am_in 1652 (by decide +kernel) rfl), am_in 1653 (by decide +kernel) rfl⟩
set_option maxRecDepth 100000 in
theorem msRX12_254 : am_VS RX12 254 mX12_mayEnter := ⟨Or.inl (am_in 1660 (by decide +kernel) rfl), am_in 1662 (by decide +kernel) rfl, am_in 58 (by decide +kernel) rfl⟩
set_option maxRecDepth 100000 in
theorem msRX12_257 : am_SS RX12 257 mX12_beside := ⟨Or.inl (am_in 1668 (by decide +kernel) rfl), am_in 1669 (by decide +kernel) rfl⟩
set_option maxRecDepth 100000 in
theorem msRX12_262 : am_SS RX12 262 mJ9_min_f86c9 := ⟨Or.inl (am_in 1672 (by decide +kernel) rfl), am_in 1301 (by decide +kernel) rfl⟩
set_option maxRecDepth 100000 in
theorem msRX12_266 : am_VS RX12 266 mX12_ways := ⟨Or.inl (am_in 1648 (by decide +kernel) rfl), am_in 1650 (by decide +kernel) rfl, am_in 57 (by decide +kernel) rfl⟩
set_option maxRecDepth 100000 in
theorem msRX12_270 : am_VS RX12 270 mX12_nextOf := ⟨Or.inl (am_in 1673 (by decide +kernel) rfl), am_in 1675 (by decide +kernel) rfl, am_in 60 (by decide +kernel) rfl⟩
set_option maxRecDepth 100000 in
theorem msRX12_273 : am_VS RX12 273 mX12_mayTake := ⟨Or.inl (am_in 1701 (by decide +kernel) rfl), am_in 1703 (by decide +kernel) rfl, am_in 66 (by decide +kernel) rfl⟩
set_option maxRecDepth 100000 in
theorem msRX12_276 : am_SS RX12 276 mJ9_min_7cf53 := ⟨Or.inl (am_in 1713 (by decide +kernel) rfl), am_in 791 (by decide +kernel) rfl⟩
set_option maxRecDepth 100000 in
theorem msRX12_278 : am_VS RX12 278 mX12_dies := ⟨Or.inl (am_in 1722 (by decide +kernel) rfl), am_in 1724 (by decide +kernel) rfl, am_in 71 (by decide +kernel) rfl⟩
set_option maxRecDepth 100000 in
theorem msRX12_281 : am_VS RX12 281 mX12_pulls := ⟨Or.inl (am_in 1726 (by decide +kernel) rfl), am_in 1728 (by decide +kernel) rfl, am_in 72 (by decide +kernel) rfl⟩
set_option maxRecDepth 100000 in
theorem msRX12_284 : am_VS RX12 284 mX12_gives := ⟨Or.inl (am_in 1709 (by decide +kernel) rfl), am_in 1711 (by decide +kernel) rfl, am_in 68 (by decide +kernel) rfl⟩
set_option maxRecDepth 100000 in
theorem msRX12_287 : am_VS RX12 287 mX12_works := ⟨Or.inl (am_in 1718 (by decide +kernel) rfl), am_in 1720 (by decide +kernel) rfl, am_in 70 (by decide +kernel) rfl⟩
set_option maxRecDepth 100000 in
theorem msRX12_289 : am_VS RX12 289 mX12_drops := ⟨Or.inl (am_in 1730 (by decide +kernel) rfl), am_in 1732 (by decide +kernel) rfl, am_in 73 (by decide +kernel) rfl⟩
set_option maxRecDepth 100000 in
theorem msRX12_292 : am_VS RX12 292 mX12_enters := ⟨Or.inl (am_in 1734 (by decide +kernel) rfl), am_in 1736 (by decide +kernel) rfl, am_in 74 (by decide +kernel) rfl⟩
set_option maxRecDepth 100000 in
theorem msRX12_295 : am_VS RX12 295 mX12_moves := ⟨Or.inl (am_in 1714 (by decide +kernel) rfl), am_in 1716 (by decide +kernel) rfl, am_in 69 (by decide +kernel) rfl⟩
set_option maxRecDepth 100000 in
theorem msRX12_298 : am_VS RX12 298 mX12_lotIsLow := ⟨Or.inl (am_in 1742 (by decide +kernel) rfl), am_in 1744 (by decide +kernel) rfl, am_in 76 (by decide +kernel) rfl⟩
set_option maxRecDepth 100000 in
theorem msRX12_302 : am_VS RX12 302 mX12_rains := ⟨Or.inl (am_in 1685 (by decide +kernel) rfl), am_in 1687 (by decide +kernel) rfl, am_in 62 (by decide +kernel) rfl⟩
set_option maxRecDepth 100000 in
theorem msRX12_304 : am_VS RX12 304 mX12_flows := ⟨Or.inl (am_in 1689 (by decide +kernel) rfl), am_in 1691 (by decide +kernel) rfl, am_in 63 (by decide +kernel) rfl⟩
set_option maxRecDepth 100000 in
theorem msRX12_307 : am_VS RX12 307 mX12_dries := ⟨Or.inl (am_in 1693 (by decide +kernel) rfl), am_in 1695 (by decide +kernel) rfl, am_in 64 (by decide +kernel) rfl⟩
set_option maxRecDepth 100000 in
theorem msRX12_310 : am_VS RX12 310 mX12_offers := ⟨Or.inl (am_in 1697 (by decide +kernel) rfl), am_in 1699 (by decide +kernel) rfl, am_in 65 (by decide +kernel) rfl⟩
set_option maxRecDepth 100000 in
theorem msRX12_313 : am_VS RX12 313 mX12_acts := ⟨Or.inl (am_in 1705 (by decide +kernel) rfl), am_in 1707 (by decide +kernel) rfl, am_in 67 (by decide +kernel) rfl⟩
set_option maxRecDepth 100000 in
theorem msRX12_316 : am_VS RX12 316 mX12_ends := ⟨Or.inl (am_in 1738 (by decide +kernel) rfl), am_in 1740 (by decide +kernel) rfl, am_in 75 (by decide +kernel) rfl⟩
set_option maxRecDepth 100000 in
theorem msRX12_319 : am_VS RX12 319 mX12_hour := ⟨Or.inl (am_in 1681 (by decide +kernel) rfl), am_in 1683 (by decide +kernel) rfl, am_in 61 (by decide +kernel) rfl⟩
set_option maxRecDepth 100000 in
theorem msRX12_322 : am_VS RX12 322 mX12_weeds := ⟨Or.inl (am_in 1754 (by decide +kernel) rfl), am_in 1756 (by decide +kernel) rfl, am_in 78 (by decide +kernel) rfl⟩
set_option maxRecDepth 100000 in
theorem msRX12_325 : am_VS RX12 325 mX12_cellOf := ⟨Or.inl (am_in 1750 (by decide +kernel) rfl), am_in 1752 (by decide +kernel) rfl, am_in 77 (by decide +kernel) rfl⟩
set_option maxRecDepth 100000 in
theorem msRX12_330 : am_VS RX12 330 mX12_spreads := ⟨Or.inl (am_in 1788 (by decide +kernel) rfl), am_in 1790 (by decide +kernel) rfl, am_in 81 (by decide +kernel) rfl⟩
set_option maxRecDepth 100000 in
theorem msRX12_334 : am_VS RX12 334 mX12_illMany := ⟨Or.inl (am_in 1780 (by decide +kernel) rfl), am_in 1782 (by decide +kernel) rfl, am_in 79 (by decide +kernel) rfl⟩
set_option maxRecDepth 100000 in
theorem msRX12_338 : am_VS RX12 338 mX12_isSpot := ⟨Or.inl (am_in 1784 (by decide +kernel) rfl), am_in 1786 (by decide +kernel) rfl, am_in 80 (by decide +kernel) rfl⟩
set_option maxRecDepth 100000 in
theorem msRX12_344 : am_VS RX12 344 mX12_finds := ⟨Or.inl (am_in 1796 (by decide +kernel) rfl), am_in 1798 (by decide +kernel) rfl, am_in 82 (by decide +kernel) rfl⟩
set_option maxRecDepth 100000 in
theorem msRX12_347 : am_VS RX12 347 mX12_reached := ⟨Or.inl (am_in 1800 (by decide +kernel) rfl), am_in 1802 (by decide +kernel) rfl, am_in 83 (by decide +kernel) rfl⟩
set_option maxRecDepth 100000 in
theorem msRX12_350 : am_SS RX12 350 mX12_bits := ⟨Or.inl (am_in 1804 (by decide +kernel) rfl), am_in 1805 (by decide +kernel) rfl⟩
set_option maxRecDepth 100000 in
theorem msRX12_356 : am_VS RX12 356 mX12_leadOf := ⟨Or.inl (am_in 1815 (by decide +kernel) rfl), am_in 1817 (by decide +kernel) rfl, am_in 84 (by decide +kernel) rfl⟩
set_option maxRecDepth 100000 in
theorem msRX12_363 : am_VS RX12 363 mX12_four := ⟨Or.inl (am_in 1828 (by decide +kernel) rfl), am_in 1830 (by decide +kernel) rfl, am_in 85 (by decide +kernel) rfl⟩
set_option maxRecDepth 100000 in
theorem msRX12_372 : am_VS RX12 372 mX12_blanks := ⟨Or.inl (am_in 1836 (by decide +kernel) rfl), am_in 1838 (by decide +kernel) rfl, am_in 86 (by decide +kernel) rfl⟩
set_option maxRecDepth 100000 in
theorem msRX12_378 : am_VS RX12 378 mX12_word := ⟨Or.inl (am_in 1849 (by decide +kernel) rfl), am_in 1851 (by decide +kernel) rfl, am_in 89 (by decide +kernel) rfl⟩
set_option maxRecDepth 100000 in
theorem msRX12_407 : am_VS RX12 407 mX12_takesNumber := ⟨Or.inl (am_in 1868 (by decide +kernel) rfl), am_in 1870 (by decide +kernel) rfl, am_in 93 (by decide +kernel) rfl⟩
set_option maxRecDepth 100000 in
theorem msRX12_410 : am_VS RX12 410 mX12_puts := ⟨Or.inl (am_in 1872 (by decide +kernel) rfl), am_in 1874 (by decide +kernel) rfl, am_in 94 (by decide +kernel) rfl⟩
set_option maxRecDepth 100000 in
theorem msRX12_413 : am_VS RX12 413 mX12_opens := ⟨Or.inl (am_in 1876 (by decide +kernel) rfl), am_in 1878 (by decide +kernel) rfl, am_in 95 (by decide +kernel) rfl⟩
set_option maxRecDepth 100000 in
theorem msRX12_416 : am_VS RX12 416 mX12_ex := ⟨Or.inl (am_in 1856 (by decide +kernel) rfl), am_in 1858 (by decide +kernel) rfl, am_in 90 (by decide +kernel) rfl⟩
set_option maxRecDepth 100000 in
theorem msRX12_419 : am_VS RX12 419 mX12_takesSign := ⟨Or.inl (am_in 1880 (by decide +kernel) rfl), am_in 1882 (by decide +kernel) rfl, am_in 96 (by decide +kernel) rfl⟩
set_option maxRecDepth 100000 in
theorem msRX12_422 : am_SS RX12 422 mX12_asked := ⟨Or.inl (am_in 1884 (by decide +kernel) rfl), am_in 1885 (by decide +kernel) rfl⟩
set_option maxRecDepth 100000 in
theorem msRX12_426 : am_VS RX12 426 mX12_atom := ⟨Or.inl (am_in 1864 (by decide +kernel) rfl), am_in 1866 (by decide +kernel) rfl, am_in 92 (by decide +kernel) rfl⟩
set_option maxRecDepth 100000 in
theorem msRX12_429 : am_VS RX12 429 mX12_product := ⟨Or.inl (am_in 1860 (by decide +kernel) rfl), am_in 1862 (by decide +kernel) rfl, am_in 91 (by decide +kernel) rfl⟩
set_option maxRecDepth 100000 in
theorem msRX12_434 : am_VS RX12 434 mX12_single := ⟨Or.inl (am_in 1904 (by decide +kernel) rfl), am_in 1906 (by decide +kernel) rfl, am_in 99 (by decide +kernel) rfl⟩
set_option maxRecDepth 100000 in
theorem msRX12_437 : am_VS RX12 437 mX12_any := ⟨Or.inl (am_in 1896 (by decide +kernel) rfl), am_in 1898 (by decide +kernel) rfl, am_in 97 (by decide +kernel) rfl⟩
set_option maxRecDepth 100000 in
theorem msRX12_442 : am_VS RX12 442 mX12_takes := ⟨Or.inl (am_in 1845 (by decide +kernel) rfl), am_in 1847 (by decide +kernel) rfl, am_in 88 (by decide +kernel) rfl⟩
set_option maxRecDepth 100000 in
theorem msRX12_446 : am_VS RX12 446 mX12_all := ⟨Or.inl (am_in 1900 (by decide +kernel) rfl), am_in 1902 (by decide +kernel) rfl, am_in 98 (by decide +kernel) rfl⟩
set_option maxRecDepth 100000 in
theorem msRX12_464 : am_VS RX12 464 mX12_statement := ⟨Or.inl (am_in 1840 (by decide +kernel) rfl), am_in 1842 (by decide +kernel) rfl, am_in 87 (by decide +kernel) rfl⟩
set_option maxRecDepth 100000 in
theorem msRX12_469 : am_SS RX12 469 mJ9_max_f86c9 := ⟨Or.inl (am_in 1939 (by decide +kernel) rfl), am_in 1304 (by decide +kernel) rfl⟩
set_option maxRecDepth 100000 in
theorem msRX12_472 : am_SS RX12 472 mX12_held := ⟨Or.inl (am_in 1935 (by decide +kernel) rfl), am_in 1936 (by decide +kernel) rfl⟩
set_option maxRecDepth 100000 in
theorem msRX12_476 : am_SS RX12 476 mX12_bit := ⟨Or.inl (am_in 1940 (by decide +kernel) rfl), am_in 1941 (by decide +kernel) rfl⟩
set_option maxRecDepth 100000 in
theorem msRX12_482 : am_SS RX12 482 mX12_both := ⟨Or.inl (am_in 1932 (by decide +kernel) rfl), am_in 1933 (by decide +kernel) rfl⟩
set_option maxRecDepth 100000 in
theorem msRX12_486 : am_SS RX12 486 mJ9_max_7cf53 := ⟨Or.inl (am_in 1927 (by decide +kernel) rfl), am_in 1116 (by decide +kernel) rfl⟩
set_option maxRecDepth 100000 in
theorem msRX12_488 : am_VS RX12 488 mX12_nextRain := ⟨Or.inl (am_in 1923 (by decide +kernel) rfl), am_in 1925 (by decide +kernel) rfl, am_in 101 (by decide +kernel) rfl⟩
set_option maxRecDepth 100000 in
theorem msRX12_491 : am_VS RX12 491 mX12_runs := ⟨Or.inl (am_in 1928 (by decide +kernel) rfl), am_in 1930 (by decide +kernel) rfl, am_in 102 (by decide +kernel) rfl⟩
set_option maxRecDepth 100000 in
theorem msRX12_495 : am_VS RX12 495 mX12_toDo := ⟨Or.inl (am_in 1919 (by decide +kernel) rfl), am_in 1921 (by decide +kernel) rfl, am_in 100 (by decide +kernel) rfl⟩
set_option maxRecDepth 100000 in
theorem msRX12_498 : am_VS RX12 498 mX12_work := ⟨Or.inl (am_in 1948 (by decide +kernel) rfl), am_in 1610 (by decide +kernel) rfl, am_in 1611 (by decide +kernel) rfl⟩
set_option maxRecDepth 100000 in
theorem msRX12_504 : am_VS RX12 504 mX12_manyOf := ⟨Or.inl (am_in 1954 (by decide +kernel) rfl), am_in 1956 (by decide +kernel) rfl, am_in 103 (by decide +kernel) rfl⟩
set_option maxRecDepth 100000 in
theorem msRX2_24 : am_SS RX2 24 mJ7_fill_53178 := ⟨Or.inl (am_in 343 (by decide +kernel) rfl), am_in 344 (by decide +kernel) rfl⟩
set_option maxRecDepth 100000 in
theorem msRX2_37 : am_SS RX2 37 mX11_isCell := ⟨Or.inr ⟨"PloughField", am_inN 568 (by decide +kernel) rfl⟩, am_in 530 (by decide +kernel) rfl⟩
set_option maxRecDepth 100000 in
theorem msRX2_43 : am_VS RX2 43 mX2_lowestBeside := ⟨Or.inl (am_in 737 (by decide +kernel) rfl), am_in 739 (by decide +kernel) rfl, am_in 10 (by decide +kernel) rfl⟩
set_option maxRecDepth 100000 in
theorem msRX2_47 : am_SS RX2 47 mX11_beside := ⟨Or.inr ⟨"PloughField", am_inN 741 (by decide +kernel) rfl⟩, am_in 742 (by decide +kernel) rfl⟩
set_option maxRecDepth 100000 in
theorem msRX3_18 : am_SS RX3 18 mJ9_min_7cf53 := ⟨Or.inl (am_in 1249 (by decide +kernel) rfl), am_in 791 (by decide +kernel) rfl⟩
set_option maxRecDepth 100000 in
theorem msRX3_43 : am_VS RX3 43 mX3_push := ⟨Or.inl (am_in 1280 (by decide +kernel) rfl), am_in 1282 (by decide +kernel) rfl, am_in 43 (by decide +kernel) rfl⟩
set_option maxRecDepth 100000 in
theorem msRX3_47 : am_VS RX3 47 mX3_pop := ⟨Or.inl (am_in 1284 (by decide +kernel) rfl), am_in 1286 (by decide +kernel) rfl, am_in 44 (by decide +kernel) rfl⟩
set_option maxRecDepth 100000 in
theorem msRX3_57 : am_VS RX3 57 mX3_apply := ⟨Or.inl (am_in 1288 (by decide +kernel) rfl), am_in 1290 (by decide +kernel) rfl, am_in 45 (by decide +kernel) rfl⟩
set_option maxRecDepth 100000 in
theorem msRX3_61 : am_SS RX3 61 mX3_joined := ⟨Or.inl (am_in 1292 (by decide +kernel) rfl), am_in 1293 (by decide +kernel) rfl⟩
set_option maxRecDepth 100000 in
theorem msRX3_65 : am_SS RX3 65 mX3_held := ⟨Or.inl (am_in 1295 (by decide +kernel) rfl), am_in 1296 (by decide +kernel) rfl⟩
set_option maxRecDepth 100000 in
theorem msRX3_73 : am_SS RX3 73 mJ9_min_f86c9 := ⟨Or.inl (am_in 1300 (by decide +kernel) rfl), am_in 1301 (by decide +kernel) rfl⟩
set_option maxRecDepth 100000 in
theorem msRX3_76 : am_SS RX3 76 mJ9_max_f86c9 := ⟨Or.inl (am_in 1303 (by decide +kernel) rfl), am_in 1304 (by decide +kernel) rfl⟩
set_option maxRecDepth 100000 in
theorem msRX4_9 : am_SS RX4 9 mX11_bit := ⟨Or.inr ⟨"PloughField", am_inN 985 (by decide +kernel) rfl⟩, am_in 612 (by decide +kernel) rfl⟩
set_option maxRecDepth 100000 in
theorem msRX4_13 : am_SS RX4 13 mX4_reached := ⟨Or.inl (am_in 986 (by decide +kernel) rfl), am_in 987 (by decide +kernel) rfl⟩
set_option maxRecDepth 100000 in
theorem msRX4_21 : am_SS RX4 21 mX4_stepped := ⟨Or.inl (am_in 989 (by decide +kernel) rfl), am_in 990 (by decide +kernel) rfl⟩
set_option maxRecDepth 100000 in
theorem msRX4_25 : am_SS RX4 25 mJ13_bitCount_95d88 := ⟨Or.inl (am_in 1002 (by decide +kernel) rfl), am_in 938 (by decide +kernel) rfl⟩
set_option maxRecDepth 100000 in
theorem msRX4_31 : am_SS RX4 31 mJ9_min_7cf53 := ⟨Or.inl (am_in 1003 (by decide +kernel) rfl), am_in 791 (by decide +kernel) rfl⟩
set_option maxRecDepth 100000 in
theorem msRX4_37 : am_SS RX4 37 mX11_within := ⟨Or.inr ⟨"PloughField", am_inN 1004 (by decide +kernel) rfl⟩, am_in 533 (by decide +kernel) rfl⟩
set_option maxRecDepth 100000 in
theorem msRX4_41 : am_SS RX4 41 mX4_cellNumbered := ⟨Or.inl (am_in 1005 (by decide +kernel) rfl), am_in 1006 (by decide +kernel) rfl⟩
set_option maxRecDepth 100000 in
theorem msRX4_45 : am_SS RX4 45 mX4_cellsReached := ⟨Or.inl (am_in 1008 (by decide +kernel) rfl), am_in 1009 (by decide +kernel) rfl⟩
set_option maxRecDepth 100000 in
theorem msRX4_49 : am_SS RX4 49 mJ6_bitCount_0f7a4 := ⟨Or.inl (am_in 1011 (by decide +kernel) rfl), am_in 1012 (by decide +kernel) rfl⟩
set_option maxRecDepth 100000 in
theorem msRX5_24 : am_SS RX5 24 mX11_within := ⟨Or.inr ⟨"PloughField", am_inN 772 (by decide +kernel) rfl⟩, am_in 533 (by decide +kernel) rfl⟩
set_option maxRecDepth 100000 in
theorem msRX5_30 : am_VS RX5 30 mX9_at := ⟨Or.inl (am_in 773 (by decide +kernel) rfl), am_in 557 (by decide +kernel) rfl, am_in 558 (by decide +kernel) rfl⟩
set_option maxRecDepth 100000 in
theorem msRX5_37 : am_VS RX5 37 mX2_heavy := ⟨Or.inl (am_in 775 (by decide +kernel) rfl), am_in 776 (by decide +kernel) rfl, am_in 777 (by decide +kernel) rfl⟩
set_option maxRecDepth 100000 in
theorem msRX5_48 : am_SS RX5 48 mX11_bit := ⟨Or.inr ⟨"PloughField", am_inN 779 (by decide +kernel) rfl⟩, am_in 612 (by decide +kernel) rfl⟩
set_option maxRecDepth 100000 in
theorem msRX5_58 : am_SS RX5 58 mX11_isCell := ⟨Or.inr ⟨"PloughField", am_inN 780 (by decide +kernel) rfl⟩, am_in 530 (by decide +kernel) rfl⟩
set_option maxRecDepth 100000 in
theorem msRX5_66 : am_VS RX5 66 mX5_takeNearest := ⟨Or.inl (am_in 781 (by decide +kernel) rfl), am_in 783 (by decide +kernel) rfl, am_in 13 (by decide +kernel) rfl⟩
set_option maxRecDepth 100000 in
theorem msRX5_70 : am_VS RX5 70 mX5_goOnFrom := ⟨Or.inl (am_in 785 (by decide +kernel) rfl), am_in 787 (by decide +kernel) rfl, am_in 14 (by decide +kernel) rfl⟩
set_option maxRecDepth 100000 in
theorem msRX5_74 : am_SS RX5 74 mX11_beside := ⟨Or.inr ⟨"PloughField", am_inN 789 (by decide +kernel) rfl⟩, am_in 742 (by decide +kernel) rfl⟩
set_option maxRecDepth 100000 in
theorem msRX5_77 : am_SS RX5 77 mJ9_min_7cf53 := ⟨Or.inl (am_in 790 (by decide +kernel) rfl), am_in 791 (by decide +kernel) rfl⟩
set_option maxRecDepth 100000 in
theorem msRX5_82 : am_VS RX5 82 mX5_hasWay := ⟨Or.inl (am_in 805 (by decide +kernel) rfl), am_in 806 (by decide +kernel) rfl, am_in 807 (by decide +kernel) rfl⟩
set_option maxRecDepth 100000 in
theorem msRX5_86 : am_VS RX5 86 mX5_isNearer := ⟨Or.inl (am_in 809 (by decide +kernel) rfl), am_in 811 (by decide +kernel) rfl, am_in 17 (by decide +kernel) rfl⟩
set_option maxRecDepth 100000 in
theorem msRX6_38 : am_SS RX6 38 mJ7_fill_53178 := ⟨Or.inl (am_in 350 (by decide +kernel) rfl), am_in 344 (by decide +kernel) rfl⟩
set_option maxRecDepth 100000 in
theorem msRX6_55 : am_SS RX6 55 mX11_isCell := ⟨Or.inr ⟨"PloughField", am_inN 606 (by decide +kernel) rfl⟩, am_in 530 (by decide +kernel) rfl⟩
set_option maxRecDepth 100000 in
theorem msRX6_59 : am_SS RX6 59 mX11_bit := ⟨Or.inr ⟨"PloughField", am_inN 611 (by decide +kernel) rfl⟩, am_in 612 (by decide +kernel) rfl⟩
set_option maxRecDepth 100000 in
theorem msRX6_63 : am_VS RX6 63 mX6_standsOn := ⟨Or.inl (am_in 607 (by decide +kernel) rfl), am_in 608 (by decide +kernel) rfl, am_in 609 (by decide +kernel) rfl⟩
set_option maxRecDepth 100000 in
theorem msRX6_72 : am_VS RX6 72 mX9_at := ⟨Or.inl (am_in 614 (by decide +kernel) rfl), am_in 557 (by decide +kernel) rfl, am_in 558 (by decide +kernel) rfl⟩
set_option maxRecDepth 100000 in
theorem msRX6_80 : am_VS RX6 80 mX6_weigh := ⟨Or.inl (am_in 624 (by decide +kernel) rfl), am_in 626 (by decide +kernel) rfl, am_in 6 (by decide +kernel) rfl⟩
set_option maxRecDepth 100000 in
theorem msRX6_86 : am_SS RX6 86 mX11_within := ⟨Or.inr ⟨"PloughField", am_inN 904 (by decide +kernel) rfl⟩, am_in 533 (by decide +kernel) rfl⟩
set_option maxRecDepth 100000 in
theorem msRX6_90 : am_VS RX6 90 mX6_shareOf := ⟨Or.inl (am_in 919 (by decide +kernel) rfl), am_in 920 (by decide +kernel) rfl, am_in 921 (by decide +kernel) rfl⟩
set_option maxRecDepth 100000 in
theorem msRX6_102 : am_VS RX6 102 mX6_remove := ⟨Or.inl (am_in 890 (by decide +kernel) rfl), am_in 851 (by decide +kernel) rfl, am_in 852 (by decide +kernel) rfl⟩
set_option maxRecDepth 100000 in
theorem msRX6_106 : am_SS RX6 106 mX11_beside := ⟨Or.inr ⟨"PloughField", am_inN 895 (by decide +kernel) rfl⟩, am_in 742 (by decide +kernel) rfl⟩
set_option maxRecDepth 100000 in
theorem msRX6_109 : am_VS RX6 109 mX6_drawLot := ⟨Or.inl (am_in 896 (by decide +kernel) rfl), am_in 898 (by decide +kernel) rfl, am_in 24 (by decide +kernel) rfl⟩
set_option maxRecDepth 100000 in
theorem msRX7_28 : am_SS RX7 28 mJ9_min_7cf53 := ⟨Or.inl (am_in 1074 (by decide +kernel) rfl), am_in 791 (by decide +kernel) rfl⟩
set_option maxRecDepth 100000 in
theorem msRX7_34 : am_VS RX7 34 mX7_split := ⟨Or.inl (am_in 1075 (by decide +kernel) rfl), am_in 1077 (by decide +kernel) rfl, am_in 28 (by decide +kernel) rfl⟩
set_option maxRecDepth 100000 in
theorem msRX7_47 : am_VS RX7 47 mX7_here := ⟨Or.inl (am_in 1205 (by decide +kernel) rfl), am_in 1207 (by decide +kernel) rfl, am_in 33 (by decide +kernel) rfl⟩
set_option maxRecDepth 100000 in
theorem msRX7_51 : am_VS RX7 51 mX7_readStatement := ⟨Or.inl (am_in 1209 (by decide +kernel) rfl), am_in 1211 (by decide +kernel) rfl, am_in 34 (by decide +kernel) rfl⟩
set_option maxRecDepth 100000 in
theorem msRX7_55 : am_VS RX7 55 mX7_placeHere := ⟨Or.inl (am_in 1241 (by decide +kernel) rfl), am_in 1243 (by decide +kernel) rfl, am_in 41 (by decide +kernel) rfl⟩
set_option maxRecDepth 100000 in
theorem msRX7_61 : am_SS RX7 61 mX7_groupOf := ⟨Or.inl (am_in 1079 (by decide +kernel) rfl), am_in 1080 (by decide +kernel) rfl⟩
set_option maxRecDepth 100000 in
theorem msRX7_65 : am_VS RX7 65 mX7_tokenFrom := ⟨Or.inl (am_in 1082 (by decide +kernel) rfl), am_in 1084 (by decide +kernel) rfl, am_in 29 (by decide +kernel) rfl⟩
set_option maxRecDepth 100000 in
theorem msRX7_69 : am_VS RX7 69 mX7_addToken := ⟨Or.inl (am_in 1201 (by decide +kernel) rfl), am_in 1203 (by decide +kernel) rfl, am_in 32 (by decide +kernel) rfl⟩
set_option maxRecDepth 100000 in
theorem msRX7_95 : am_SS RX7 95 mX11_within := ⟨Or.inr ⟨"PloughField", am_inN 1213 (by decide +kernel) rfl⟩, am_in 533 (by decide +kernel) rfl⟩
set_option maxRecDepth 100000 in
theorem msRX7_99 : am_VS RX7 99 mX7_emit := ⟨Or.inl (am_in 1214 (by decide +kernel) rfl), am_in 1216 (by decide +kernel) rfl, am_in 35 (by decide +kernel) rfl⟩
set_option maxRecDepth 100000 in
theorem msRX7_102 : am_VS RX7 102 mX7_readSum := ⟨Or.inl (am_in 1218 (by decide +kernel) rfl), am_in 1220 (by decide +kernel) rfl, am_in 36 (by decide +kernel) rfl⟩
set_option maxRecDepth 100000 in
theorem msRX7_106 : am_VS RX7 106 mX7_accept := ⟨Or.inl (am_in 1226 (by decide +kernel) rfl), am_in 1228 (by decide +kernel) rfl, am_in 38 (by decide +kernel) rfl⟩
set_option maxRecDepth 100000 in
theorem msRX7_109 : am_VS RX7 109 mX7_readAny := ⟨Or.inl (am_in 1233 (by decide +kernel) rfl), am_in 1235 (by decide +kernel) rfl, am_in 39 (by decide +kernel) rfl⟩
set_option maxRecDepth 100000 in
theorem msRX7_112 : am_VS RX7 112 mX7_readOne := ⟨Or.inl (am_in 1237 (by decide +kernel) rfl), am_in 1239 (by decide +kernel) rfl, am_in 40 (by decide +kernel) rfl⟩
set_option maxRecDepth 100000 in
theorem msRX7_115 : am_VS RX7 115 mX7_readAtom := ⟨Or.inl (am_in 1222 (by decide +kernel) rfl), am_in 1224 (by decide +kernel) rfl, am_in 37 (by decide +kernel) rfl⟩
set_option maxRecDepth 100000 in
theorem msRX7_118 : am_SS RX7 118 mX7_isOperator := ⟨Or.inl (am_in 1230 (by decide +kernel) rfl), am_in 1231 (by decide +kernel) rfl⟩
set_option maxRecDepth 100000 in
theorem msRX8_18 : am_VS RX8 18 mX8_armsAsDealt := ⟨Or.inl (am_in 1033 (by decide +kernel) rfl), am_in 1035 (by decide +kernel) rfl, am_in 25 (by decide +kernel) rfl⟩
set_option maxRecDepth 100000 in
theorem msRX8_22 : am_VS RX8 22 mX8_leadOf := ⟨Or.inl (am_in 1038 (by decide +kernel) rfl), am_in 1040 (by decide +kernel) rfl, am_in 26 (by decide +kernel) rfl⟩
set_option maxRecDepth 100000 in
theorem msRX8_27 : am_VS RX8 27 mX8_waysWithLead := ⟨Or.inl (am_in 1043 (by decide +kernel) rfl), am_in 1045 (by decide +kernel) rfl, am_in 27 (by decide +kernel) rfl⟩
set_option maxRecDepth 100000 in
theorem msRX8_30 : am_VS RX8 30 mX8_lead := ⟨Or.inl (am_in 1029 (by decide +kernel) rfl), am_in 1030 (by decide +kernel) rfl, am_in 1031 (by decide +kernel) rfl⟩
set_option maxRecDepth 100000 in
theorem msRX8_33 : am_SS RX8 33 mJ6_bitCount_0f7a4 := ⟨Or.inl (am_in 1042 (by decide +kernel) rfl), am_in 1012 (by decide +kernel) rfl⟩
set_option maxRecDepth 100000 in
theorem msRX8_42 : am_VS RX8 42 mX9_at := ⟨Or.inl (am_in 1037 (by decide +kernel) rfl), am_in 557 (by decide +kernel) rfl, am_in 558 (by decide +kernel) rfl⟩
set_option maxRecDepth 100000 in
theorem msRX9_23 : am_VS RX9 23 mX9_isFull := ⟨Or.inl (am_in 547 (by decide +kernel) rfl), am_in 540 (by decide +kernel) rfl, am_in 541 (by decide +kernel) rfl⟩
set_option maxRecDepth 100000 in
theorem msRX9_27 : am_VS RX9 27 mX9_put := ⟨Or.inl (am_in 548 (by decide +kernel) rfl), am_in 550 (by decide +kernel) rfl, am_in 1 (by decide +kernel) rfl⟩
set_option maxRecDepth 100000 in
theorem cw_615 : Jvm.Cond.constantLong "PloughField$Plants" 78 (1000000000) ∈ am_tb := am_in 615 (by decide +kernel) rfl
set_option maxRecDepth 100000 in
theorem cw_628 : Jvm.Cond.constantLong "PloughField$Plants" 84 (100) ∈ am_tb := am_in 628 (by decide +kernel) rfl
set_option maxRecDepth 100000 in
theorem cw_633 : Jvm.Cond.constantLong "PloughField$Plants" 95 (-1) ∈ am_tb := am_in 633 (by decide +kernel) rfl
set_option maxRecDepth 100000 in
theorem cw_732 : Jvm.Cond.constantLong "PloughField$Ground" 41 (64) ∈ am_tb := am_in 732 (by decide +kernel) rfl
set_option maxRecDepth 100000 in
theorem cw_774 : Jvm.Cond.constant "PloughField$Paths" 36 (2000000000) ∈ am_tb := am_in 774 (by decide +kernel) rfl
set_option maxRecDepth 100000 in
theorem cw_923 : Jvm.Cond.constantLong "PloughField$Plants" 93 (10000000) ∈ am_tb := am_in 923 (by decide +kernel) rfl
set_option maxRecDepth 100000 in
theorem cw_940 : Jvm.Cond.constantLong "java/lang/Long" 314 (6148914691236517205) ∈ am_tb := am_in 940 (by decide +kernel) rfl
set_option maxRecDepth 100000 in
theorem cw_941 : Jvm.Cond.constantLong "java/lang/Long" 316 (3689348814741910323) ∈ am_tb := am_in 941 (by decide +kernel) rfl
set_option maxRecDepth 100000 in
theorem cw_942 : Jvm.Cond.constantLong "java/lang/Long" 318 (1085102592571150095) ∈ am_tb := am_in 942 (by decide +kernel) rfl
set_option maxRecDepth 100000 in
theorem cw_977 : Jvm.Cond.constantLong "PloughField" 213 (-1) ∈ am_tb := am_in 977 (by decide +kernel) rfl
set_option maxRecDepth 100000 in
theorem cw_992 : Jvm.Cond.constantLong "PloughField$Outbreak" 54 (9187201950435737471) ∈ am_tb := am_in 992 (by decide +kernel) rfl
set_option maxRecDepth 100000 in
theorem cw_993 : Jvm.Cond.constantLong "PloughField$Outbreak" 56 (-72340172838076674) ∈ am_tb := am_in 993 (by decide +kernel) rfl
set_option maxRecDepth 100000 in
theorem cw_994 : Jvm.Cond.constantLong "PloughField$Outbreak" 19 (-1) ∈ am_tb := am_in 994 (by decide +kernel) rfl
set_option maxRecDepth 100000 in
theorem cw_1014 : Jvm.Cond.constant "java/lang/Integer" 265 (1431655765) ∈ am_tb := am_in 1014 (by decide +kernel) rfl
set_option maxRecDepth 100000 in
theorem cw_1015 : Jvm.Cond.constant "java/lang/Integer" 266 (858993459) ∈ am_tb := am_in 1015 (by decide +kernel) rfl
set_option maxRecDepth 100000 in
theorem cw_1016 : Jvm.Cond.constant "java/lang/Integer" 267 (252645135) ∈ am_tb := am_in 1016 (by decide +kernel) rfl
set_option maxRecDepth 100000 in
theorem cw_1051 : Jvm.Cond.constant "PloughField$Strips" 26 (-2000000000) ∈ am_tb := am_in 1051 (by decide +kernel) rfl
set_option maxRecDepth 100000 in
theorem cw_1053 : Jvm.Cond.constant "PloughField" 248 (-2000000000) ∈ am_tb := am_in 1053 (by decide +kernel) rfl
set_option maxRecDepth 100000 in
theorem cw_1298 : Jvm.Cond.constantLong "PloughField$Machine" 69 (-1000000000) ∈ am_tb := am_in 1298 (by decide +kernel) rfl
set_option maxRecDepth 100000 in
theorem cw_1299 : Jvm.Cond.constantLong "PloughField$Machine" 71 (1000000000) ∈ am_tb := am_in 1299 (by decide +kernel) rfl
set_option maxRecDepth 100000 in
theorem cw_1580 : Jvm.Cond.constantLong "PloughFieldModel" 235 (1000000000) ∈ am_tb := am_in 1580 (by decide +kernel) rfl
set_option maxRecDepth 100000 in
theorem cw_1585 : Jvm.Cond.constantLong "PloughFieldModel" 237 (100) ∈ am_tb := am_in 1585 (by decide +kernel) rfl
set_option maxRecDepth 100000 in
theorem cw_1659 : Jvm.Cond.constantLong "PloughFieldModel" 252 (1000000000000000) ∈ am_tb := am_in 1659 (by decide +kernel) rfl
set_option maxRecDepth 100000 in
theorem cw_1671 : Jvm.Cond.constantLong "PloughFieldModel" 260 (1000000) ∈ am_tb := am_in 1671 (by decide +kernel) rfl
set_option maxRecDepth 100000 in
theorem cw_1758 : Jvm.Cond.constantLong "PloughFieldModel" 239 (10000000) ∈ am_tb := am_in 1758 (by decide +kernel) rfl
set_option maxRecDepth 100000 in
theorem cw_1775 : Jvm.Cond.constantLong "PloughFieldModel" 328 (-1) ∈ am_tb := am_in 1775 (by decide +kernel) rfl
set_option maxRecDepth 100000 in
theorem cw_1819 : Jvm.Cond.constant "PloughFieldModel" 359 (-2000000000) ∈ am_tb := am_in 1819 (by decide +kernel) rfl
set_option maxRecDepth 100000 in
theorem cw_1844 : Jvm.Cond.constantLong "PloughFieldModel" 451 (1952541541) ∈ am_tb := am_in 1844 (by decide +kernel) rfl
set_option maxRecDepth 100000 in
theorem cw_1853 : Jvm.Cond.constantLong "PloughFieldModel" 453 (1819242347) ∈ am_tb := am_in 1853 (by decide +kernel) rfl
set_option maxRecDepth 100000 in
theorem cw_1854 : Jvm.Cond.constantLong "PloughFieldModel" 455 (465557354085) ∈ am_tb := am_in 1854 (by decide +kernel) rfl
set_option maxRecDepth 100000 in
theorem cw_1855 : Jvm.Cond.constantLong "PloughFieldModel" 457 (1734964837) ∈ am_tb := am_in 1855 (by decide +kernel) rfl
set_option maxRecDepth 100000 in
theorem cw_1887 : Jvm.Cond.constantLong "PloughFieldModel" 385 (2003133796) ∈ am_tb := am_in 1887 (by decide +kernel) rfl
set_option maxRecDepth 100000 in
theorem cw_1888 : Jvm.Cond.constantLong "PloughFieldModel" 387 (7824756) ∈ am_tb := am_in 1888 (by decide +kernel) rfl
set_option maxRecDepth 100000 in
theorem cw_1889 : Jvm.Cond.constantLong "PloughFieldModel" 389 (482955588467) ∈ am_tb := am_in 1889 (by decide +kernel) rfl
set_option maxRecDepth 100000 in
theorem cw_1890 : Jvm.Cond.constantLong "PloughFieldModel" 391 (465726040947) ∈ am_tb := am_in 1890 (by decide +kernel) rfl
set_option maxRecDepth 100000 in
theorem cw_1891 : Jvm.Cond.constantLong "PloughFieldModel" 393 (1936292453) ∈ am_tb := am_in 1891 (by decide +kernel) rfl
set_option maxRecDepth 100000 in
theorem cw_1892 : Jvm.Cond.constantLong "PloughFieldModel" 395 (6909036) ∈ am_tb := am_in 1892 (by decide +kernel) rfl
set_option maxRecDepth 100000 in
theorem cw_1893 : Jvm.Cond.constantLong "PloughFieldModel" 397 (1918986606) ∈ am_tb := am_in 1893 (by decide +kernel) rfl
set_option maxRecDepth 100000 in
theorem cw_1894 : Jvm.Cond.constantLong "PloughFieldModel" 399 (444150998382) ∈ am_tb := am_in 1894 (by decide +kernel) rfl
set_option maxRecDepth 100000 in
theorem cw_1895 : Jvm.Cond.constantLong "PloughFieldModel" 459 (26982) ∈ am_tb := am_in 1895 (by decide +kernel) rfl
set_option maxRecDepth 100000 in
theorem cw_1908 : Jvm.Cond.constantLong "PloughFieldModel" 432 (7237492) ∈ am_tb := am_in 1908 (by decide +kernel) rfl
set_option maxRecDepth 100000 in
theorem cw_1909 : Jvm.Cond.constantLong "PloughFieldModel" 440 (6385252) ∈ am_tb := am_in 1909 (by decide +kernel) rfl
set_option maxRecDepth 100000 in
theorem cw_1910 : Jvm.Cond.constantLong "PloughFieldModel" 449 (28530) ∈ am_tb := am_in 1910 (by decide +kernel) rfl
set_option maxRecDepth 100000 in
theorem cw_1938 : Jvm.Cond.constantLong "PloughFieldModel" 467 (-1000000000) ∈ am_tb := am_in 1938 (by decide +kernel) rfl
set_option maxRecDepth 100000 in
theorem cw_1943 : Jvm.Cond.constantLong "PloughFieldModel" 480 (2) ∈ am_tb := am_in 1943 (by decide +kernel) rfl
set_option maxRecDepth 100000 in
theorem cw_1949 : Jvm.Cond.constantLong "PloughFieldModel" 502 (999) ∈ am_tb := am_in 1949 (by decide +kernel) rfl

/-! ===== the methods, the classes, the links ===== -/
theorem am_in0 {w : Cond} (i : Nat) (h : (k2_sels lw_privs)[i]? = some w) (hg : goodWord w = true) : w ∈ am_tb := List.mem_filter.mpr ⟨List.mem_append_left _ (List.mem_of_getElem? h), hg⟩
theorem am_t1 {w : Cond} (i : Nat) (h : tables_1_1[i]? = some w) : w ∈ lw_tbl := List.mem_append_right _ ((List.mem_append_left _ (List.mem_of_getElem? h)))
theorem am_in1 {w : Cond} (i : Nat) (h : tables_1_1[i]? = some w) (hg : goodWord w = true) : w ∈ am_tb := List.mem_filter.mpr ⟨am_t1 i h, hg⟩
theorem am_inN1 {w : Cond} (i : Nat) (h : tables_1_1[i]? = some w) (hg : am_isN w = true) : w ∈ am_nst := List.mem_filter.mpr ⟨am_t1 i h, hg⟩
theorem am_t2 {w : Cond} (i : Nat) (h : tables_1_2[i]? = some w) : w ∈ lw_tbl := List.mem_append_right _ (List.mem_append_right _ ((List.mem_append_left _ (List.mem_of_getElem? h))))
theorem am_in2 {w : Cond} (i : Nat) (h : tables_1_2[i]? = some w) (hg : goodWord w = true) : w ∈ am_tb := List.mem_filter.mpr ⟨am_t2 i h, hg⟩
theorem am_inN2 {w : Cond} (i : Nat) (h : tables_1_2[i]? = some w) (hg : am_isN w = true) : w ∈ am_nst := List.mem_filter.mpr ⟨am_t2 i h, hg⟩
theorem am_t3 {w : Cond} (i : Nat) (h : tables_1_3[i]? = some w) : w ∈ lw_tbl := List.mem_append_right _ (List.mem_append_right _ (List.mem_append_right _ ((List.mem_append_left _ (List.mem_of_getElem? h)))))
theorem am_in3 {w : Cond} (i : Nat) (h : tables_1_3[i]? = some w) (hg : goodWord w = true) : w ∈ am_tb := List.mem_filter.mpr ⟨am_t3 i h, hg⟩
theorem am_inN3 {w : Cond} (i : Nat) (h : tables_1_3[i]? = some w) (hg : am_isN w = true) : w ∈ am_nst := List.mem_filter.mpr ⟨am_t3 i h, hg⟩
theorem am_t4 {w : Cond} (i : Nat) (h : tables_1_4[i]? = some w) : w ∈ lw_tbl := List.mem_append_right _ (List.mem_append_right _ (List.mem_append_right _ (List.mem_append_right _ ((List.mem_append_left _ (List.mem_of_getElem? h))))))
theorem am_in4 {w : Cond} (i : Nat) (h : tables_1_4[i]? = some w) (hg : goodWord w = true) : w ∈ am_tb := List.mem_filter.mpr ⟨am_t4 i h, hg⟩
theorem am_inN4 {w : Cond} (i : Nat) (h : tables_1_4[i]? = some w) (hg : am_isN w = true) : w ∈ am_nst := List.mem_filter.mpr ⟨am_t4 i h, hg⟩
theorem am_t5 {w : Cond} (i : Nat) (h : tables_1_5[i]? = some w) : w ∈ lw_tbl := List.mem_append_right _ (List.mem_append_right _ (List.mem_append_right _ (List.mem_append_right _ (List.mem_append_right _ ((List.mem_append_left _ (List.mem_of_getElem? h)))))))
theorem am_in5 {w : Cond} (i : Nat) (h : tables_1_5[i]? = some w) (hg : goodWord w = true) : w ∈ am_tb := List.mem_filter.mpr ⟨am_t5 i h, hg⟩
theorem am_inN5 {w : Cond} (i : Nat) (h : tables_1_5[i]? = some w) (hg : am_isN w = true) : w ∈ am_nst := List.mem_filter.mpr ⟨am_t5 i h, hg⟩
theorem am_t6 {w : Cond} (i : Nat) (h : tables_1_6[i]? = some w) : w ∈ lw_tbl := List.mem_append_right _ (List.mem_append_right _ (List.mem_append_right _ (List.mem_append_right _ (List.mem_append_right _ (List.mem_append_right _ ((List.mem_append_left _ (List.mem_of_getElem? h))))))))
theorem am_in6 {w : Cond} (i : Nat) (h : tables_1_6[i]? = some w) (hg : goodWord w = true) : w ∈ am_tb := List.mem_filter.mpr ⟨am_t6 i h, hg⟩
theorem am_inN6 {w : Cond} (i : Nat) (h : tables_1_6[i]? = some w) (hg : am_isN w = true) : w ∈ am_nst := List.mem_filter.mpr ⟨am_t6 i h, hg⟩
theorem am_t7 {w : Cond} (i : Nat) (h : tables_1_7[i]? = some w) : w ∈ lw_tbl := List.mem_append_right _ (List.mem_append_right _ (List.mem_append_right _ (List.mem_append_right _ (List.mem_append_right _ (List.mem_append_right _ (List.mem_append_right _ ((List.mem_append_left _ (List.mem_of_getElem? h)))))))))
theorem am_in7 {w : Cond} (i : Nat) (h : tables_1_7[i]? = some w) (hg : goodWord w = true) : w ∈ am_tb := List.mem_filter.mpr ⟨am_t7 i h, hg⟩
theorem am_inN7 {w : Cond} (i : Nat) (h : tables_1_7[i]? = some w) (hg : am_isN w = true) : w ∈ am_nst := List.mem_filter.mpr ⟨am_t7 i h, hg⟩
theorem am_t8 {w : Cond} (i : Nat) (h : tables_1_8[i]? = some w) : w ∈ lw_tbl := List.mem_append_right _ (List.mem_append_right _ (List.mem_append_right _ (List.mem_append_right _ (List.mem_append_right _ (List.mem_append_right _ (List.mem_append_right _ (List.mem_append_right _ (List.mem_of_getElem? h))))))))
theorem am_in8 {w : Cond} (i : Nat) (h : tables_1_8[i]? = some w) (hg : goodWord w = true) : w ∈ am_tb := List.mem_filter.mpr ⟨am_t8 i h, hg⟩
theorem am_inN8 {w : Cond} (i : Nat) (h : tables_1_8[i]? = some w) (hg : am_isN w = true) : w ∈ am_nst := List.mem_filter.mpr ⟨am_t8 i h, hg⟩
def mX0_init : am_Y := (yX0_init, cX0_init, 1, none)
def mX0_hasRoom : am_Y := (yX0_hasRoom, cX0_hasRoom, 2, (some .boolean))
def mX0_fallingAt : am_Y := (yX0_fallingAt, cX0_fallingAt, 5, (some .int))
def mX0_hoursToRain : am_Y := (yX0_hoursToRain, cX0_hoursToRain, 4, (some .int))
def mX1_init : am_Y := (yX1_init, cX1_init, 2, none)
def mX1_begin : am_Y := (yX1_begin, cX1_begin, 1, none)
def mX1_bring : am_Y := (yX1_bring, cX1_bring, 2, none)
def mX1_refill : am_Y := (yX1_refill, cX1_refill, 2, none)
def mX1_isFlat : am_Y := (yX1_isFlat, cX1_isFlat, 2, (some .boolean))
def mX1_plugIn : am_Y := (yX1_plugIn, cX1_plugIn, 3, none)
def mX1_isReady : am_Y := (yX1_isReady, cX1_isReady, 2, (some .boolean))
def mX1_hasPower : am_Y := (yX1_hasPower, cX1_hasPower, 2, (some .boolean))
def mX1_isHome : am_Y := (yX1_isHome, cX1_isHome, 2, (some .boolean))
def mX1_readyOnes : am_Y := (yX1_readyOnes, cX1_readyOnes, 3, (some .int))
def mX1_freeOneStuck : am_Y := (yX1_freeOneStuck, cX1_freeOneStuck, 4, none)
def mX1_hearOf : am_Y := (yX1_hearOf, cX1_hearOf, 4, none)
def mX1_cartsStuck : am_Y := (yX1_cartsStuck, cX1_cartsStuck, 3, (some .int))
def mX1_factOfCart : am_Y := (yX1_factOfCart, cX1_factOfCart, 3, (some .int))
def mX1_isPlace : am_Y := (yX1_isPlace, cX1_isPlace, 1, (some .boolean))
def mX2_init : am_Y := (yX2_init, cX2_init, 1, none)
def mX2_begin : am_Y := (yX2_begin, cX2_begin, 1, none)
def mX2_shape : am_Y := (yX2_shape, cX2_shape, 4, none)
def mX2_rainOn : am_Y := (yX2_rainOn, cX2_rainOn, 3, none)
def mX2_flow : am_Y := (yX2_flow, cX2_flow, 4, none)
def mX2_dry : am_Y := (yX2_dry, cX2_dry, 2, none)
def mX2_allWet : am_Y := (yX2_allWet, cX2_allWet, 4, (some .long))
def mX2_heavy : am_Y := (yX2_heavy, cX2_heavy, 3, (some .int))
def mX2_lowestBeside : am_Y := (yX2_lowestBeside, cX2_lowestBeside, 5, (some .int))
def mX3_init : am_Y := (yX3_init, cX3_init, 1, none)
def mX3_takeOver : am_Y := (yX3_takeOver, cX3_takeOver, 4, none)
def mX3_decide : am_Y := (yX3_decide, cX3_decide, 5, (some .boolean))
def mX3_apply : am_Y := (yX3_apply, cX3_apply, 6, none)
def mX3_joined : am_Y := (yX3_joined, cX3_joined, 5, (some .int))
def mX3_held : am_Y := (yX3_held, cX3_held, 2, (some .int))
def mX3_push : am_Y := (yX3_push, cX3_push, 2, none)
def mX3_pop : am_Y := (yX3_pop, cX3_pop, 1, (some .int))
def mX4_spotOf : am_Y := (yX4_spotOf, cX4_spotOf, 8, (some .int))
def mX4_pullOf : am_Y := (yX4_pullOf, cX4_pullOf, 14, (some .int))
def mX4_cellsReached : am_Y := (yX4_cellsReached, cX4_cellsReached, 12, (some .int))
def mX4_cellNumbered : am_Y := (yX4_cellNumbered, cX4_cellNumbered, 5, (some .int))
def mX4_reached : am_Y := (yX4_reached, cX4_reached, 10, (some .long))
def mX4_stepped : am_Y := (yX4_stepped, cX4_stepped, 6, (some .long))
def mX5_init : am_Y := (yX5_init, cX5_init, 1, none)
def mX5_search : am_Y := (yX5_search, cX5_search, 11, none)
def mX5_takeNearest : am_Y := (yX5_takeNearest, cX5_takeNearest, 4, (some .int))
def mX5_goOnFrom : am_Y := (yX5_goOnFrom, cX5_goOnFrom, 8, none)
def mX5_hasWay : am_Y := (yX5_hasWay, cX5_hasWay, 3, (some .boolean))
def mX5_costTo : am_Y := (yX5_costTo, cX5_costTo, 3, (some .int))
def mX5_stepsTo : am_Y := (yX5_stepsTo, cX5_stepsTo, 3, (some .int))
def mX5_firstTo : am_Y := (yX5_firstTo, cX5_firstTo, 3, (some .int))
def mX5_nearestBeside : am_Y := (yX5_nearestBeside, cX5_nearestBeside, 6, (some .int))
def mX5_isNearer : am_Y := (yX5_isNearer, cX5_isNearer, 4, (some .boolean))
def mX6_init : am_Y := (yX6_init, cX6_init, 2, none)
def mX6_begin : am_Y := (yX6_begin, cX6_begin, 1, none)
def mX6_standsOn : am_Y := (yX6_standsOn, cX6_standsOn, 2, (some .boolean))
def mX6_isIll : am_Y := (yX6_isIll, cX6_isIll, 2, (some .boolean))
def mX6_sow : am_Y := (yX6_sow, cX6_sow, 8, none)
def mX6_expose : am_Y := (yX6_expose, cX6_expose, 3, none)
def mX6_marksOn : am_Y := (yX6_marksOn, cX6_marksOn, 2, (some .int))
def mX6_see : am_Y := (yX6_see, cX6_see, 6, none)
def mX6_weigh : am_Y := (yX6_weigh, cX6_weigh, 10, (some .long))
def mX6_shareOf : am_Y := (yX6_shareOf, cX6_shareOf, 3, (some .int))
def mX6_weedHundredths : am_Y := (yX6_weedHundredths, cX6_weedHundredths, 5, (some .int))
def mX6_sicken : am_Y := (yX6_sicken, cX6_sicken, 3, none)
def mX6_nourish : am_Y := (yX6_nourish, cX6_nourish, 3, none)
def mX6_remove : am_Y := (yX6_remove, cX6_remove, 3, none)
def mX6_drown : am_Y := (yX6_drown, cX6_drown, 3, none)
def mX6_spread : am_Y := (yX6_spread, cX6_spread, 8, none)
def mX6_drawLot : am_Y := (yX6_drawLot, cX6_drawLot, 3, (some .int))
def mX6_grow : am_Y := (yX6_grow, cX6_grow, 3, none)
def mX6_allGot : am_Y := (yX6_allGot, cX6_allGot, 3, (some .int))
def mX7_init : am_Y := (yX7_init, cX7_init, 1, none)
def mX7_hasRoomForFive : am_Y := (yX7_hasRoomForFive, cX7_hasRoomForFive, 1, (some .boolean))
def mX7_append : am_Y := (yX7_append, cX7_append, 3, none)
def mX7_read : am_Y := (yX7_read, cX7_read, 4, (some .int))
def mX7_split : am_Y := (yX7_split, cX7_split, 5, none)
def mX7_addToken : am_Y := (yX7_addToken, cX7_addToken, 3, none)
def mX7_tokenFrom : am_Y := (yX7_tokenFrom, cX7_tokenFrom, 5, (some .int))
def mX7_wordBetween : am_Y := (yX7_wordBetween, cX7_wordBetween, 7, (some .int))
def mX7_numberBetween : am_Y := (yX7_numberBetween, cX7_numberBetween, 5, (some .int))
def mX7_groupOf : am_Y := (yX7_groupOf, cX7_groupOf, 1, (some .int))
def mX7_readStatement : am_Y := (yX7_readStatement, cX7_readStatement, 2, (some .boolean))
def mX7_readAny : am_Y := (yX7_readAny, cX7_readAny, 6, (some .boolean))
def mX7_readOne : am_Y := (yX7_readOne, cX7_readOne, 5, (some .boolean))
def mX7_readSum : am_Y := (yX7_readSum, cX7_readSum, 7, (some .boolean))
def mX7_readAtom : am_Y := (yX7_readAtom, cX7_readAtom, 3, (some .boolean))
def mX7_isOperator : am_Y := (yX7_isOperator, cX7_isOperator, 1, (some .boolean))
def mX7_here : am_Y := (yX7_here, cX7_here, 1, (some .int))
def mX7_placeHere : am_Y := (yX7_placeHere, cX7_placeHere, 1, (some .int))
def mX7_accept : am_Y := (yX7_accept, cX7_accept, 3, (some .boolean))
def mX7_emit : am_Y := (yX7_emit, cX7_emit, 2, none)
def mX8_init : am_Y := (yX8_init, cX8_init, 1, none)
def mX8_lead : am_Y := (yX8_lead, cX8_lead, 1, (some .int))
def mX8_allWays : am_Y := (yX8_allWays, cX8_allWays, 1, (some .int))
def mX8_waysAsGood : am_Y := (yX8_waysAsGood, cX8_waysAsGood, 1, (some .int))
def mX8_waysWithLead : am_Y := (yX8_waysWithLead, cX8_waysWithLead, 5, (some .int))
def mX8_armsAsDealt : am_Y := (yX8_armsAsDealt, cX8_armsAsDealt, 3, (some .int))
def mX8_leadOf : am_Y := (yX8_leadOf, cX8_leadOf, 6, (some .int))
def mX9_init : am_Y := (yX9_init, cX9_init, 3, none)
def mX9_isFull : am_Y := (yX9_isFull, cX9_isFull, 1, (some .boolean))
def mX9_has : am_Y := (yX9_has, cX9_has, 2, (some .boolean))
def mX9_at : am_Y := (yX9_at, cX9_at, 3, (some .int))
def mX9_add : am_Y := (yX9_add, cX9_add, 7, none)
def mX9_put : am_Y := (yX9_put, cX9_put, 3, none)
def mX10_init : am_Y := (yX10_init, cX10_init, 3, none)
def mX10_begin : am_Y := (yX10_begin, cX10_begin, 3, none)
def mX10_leavesOut : am_Y := (yX10_leavesOut, cX10_leavesOut, 3, (some .boolean))
def mX10_playTo : am_Y := (yX10_playTo, cX10_playTo, 3, none)
def mX10_hearTold : am_Y := (yX10_hearTold, cX10_hearTold, 2, none)
def mX10_hear : am_Y := (yX10_hear, cX10_hear, 4, none)
def mX10_adjust : am_Y := (yX10_adjust, cX10_adjust, 3, none)
def mX10_bringCart : am_Y := (yX10_bringCart, cX10_bringCart, 2, none)
def mX10_openWork : am_Y := (yX10_openWork, cX10_openWork, 2, none)
def mX10_passHour : am_Y := (yX10_passHour, cX10_passHour, 2, none)
def mX10_makeOffers : am_Y := (yX10_makeOffers, cX10_makeOffers, 6, none)
def mX10_ofKind : am_Y := (yX10_ofKind, cX10_ofKind, 4, (some .int))
def mX10_cheapest : am_Y := (yX10_cheapest, cX10_cheapest, 8, (some .int))
def mX10_goalOf : am_Y := (yX10_goalOf, cX10_goalOf, 4, (some .int))
def mX10_takeOn : am_Y := (yX10_takeOn, cX10_takeOn, 3, none)
def mX10_takeTurn : am_Y := (yX10_takeTurn, cX10_takeTurn, 2, none)
def mX10_isAtWork : am_Y := (yX10_isAtWork, cX10_isAtWork, 4, (some .boolean))
def mX10_doWork : am_Y := (yX10_doWork, cX10_doWork, 4, none)
def mX10_move : am_Y := (yX10_move, cX10_move, 5, none)
def mX10_leaveWork : am_Y := (yX10_leaveWork, cX10_leaveWork, 4, none)
def mX10_factOfCell : am_Y := (yX10_factOfCell, cX10_factOfCell, 4, (some .int))
def mX10_gatherFacts : am_Y := (yX10_gatherFacts, cX10_gatherFacts, 3, none)
def mX10_stateOfWork : am_Y := (yX10_stateOfWork, cX10_stateOfWork, 2, (some .int))
def mX10_doerOfWork : am_Y := (yX10_doerOfWork, cX10_doerOfWork, 2, (some .int))
def mX10_worksThatAre : am_Y := (yX10_worksThatAre, cX10_worksThatAre, 4, (some .int))
def mX11_init : am_Y := (yX11_init, cX11_init, 1, none)
def mX11_land : am_Y := (yX11_land, cX11_land, 4, (some .boolean))
def mX11_set : am_Y := (yX11_set, cX11_set, 3, (some .boolean))
def mX11_rain : am_Y := (yX11_rain, cX11_rain, 4, (some .int))
def mX11_cart : am_Y := (yX11_cart, cX11_cart, 6, (some .int))
def mX11_charge : am_Y := (yX11_charge, cX11_charge, 2, (some .boolean))
def mX11_work : am_Y := (yX11_work, cX11_work, 4, (some .int))
def mX11_lot : am_Y := (yX11_lot, cX11_lot, 2, (some .int))
def mX11_kind : am_Y := (yX11_kind, cX11_kind, 7, (some .int))
def mX11_plant : am_Y := (yX11_plant, cX11_plant, 2, (some .boolean))
def mX11_show : am_Y := (yX11_show, cX11_show, 3, (some .boolean))
def mX11_look : am_Y := (yX11_look, cX11_look, 3, (some .boolean))
def mX11_ill : am_Y := (yX11_ill, cX11_ill, 3, (some .boolean))
def mX11_pass : am_Y := (yX11_pass, cX11_pass, 2, (some .int))
def mX11_cell : am_Y := (yX11_cell, cX11_cell, 3, (some .int))
def mX11_share : am_Y := (yX11_share, cX11_share, 3, (some .int))
def mX11_told : am_Y := (yX11_told, cX11_told, 3, (some .int))
def mX11_job : am_Y := (yX11_job, cX11_job, 3, (some .int))
def mX11_way : am_Y := (yX11_way, cX11_way, 4, (some .int))
def mX11_water : am_Y := (yX11_water, cX11_water, 2, (some .long))
def mX11_spot : am_Y := (yX11_spot, cX11_spot, 3, (some .int))
def mX11_pull : am_Y := (yX11_pull, cX11_pull, 4, (some .int))
def mX11_strip : am_Y := (yX11_strip, cX11_strip, 3, (some .int))
def mX11_better : am_Y := (yX11_better, cX11_better, 2, (some .int))
def mX11_feed : am_Y := (yX11_feed, cX11_feed, 6, (some .int))
def mX11_rules : am_Y := (yX11_rules, cX11_rules, 2, (some .int))
def mX11_fault : am_Y := (yX11_fault, cX11_fault, 1, (some .int))
def mX11_act : am_Y := (yX11_act, cX11_act, 3, (some .int))
def mX11_plan : am_Y := (yX11_plan, cX11_plan, 2, (some .int))
def mX11_again : am_Y := (yX11_again, cX11_again, 5, (some .int))
def mX11_count : am_Y := (yX11_count, cX11_count, 2, (some .int))
def mX11_tell : am_Y := (yX11_tell, cX11_tell, 5, (some .boolean))
def mX11_tellNewest : am_Y := (yX11_tellNewest, cX11_tellNewest, 4, (some .int))
def mX11_addWork : am_Y := (yX11_addWork, cX11_addWork, 4, (some .int))
def mX11_findsAct : am_Y := (yX11_findsAct, cX11_findsAct, 2, (some .boolean))
def mX11_canLeaveOut : am_Y := (yX11_canLeaveOut, cX11_canLeaveOut, 3, (some .boolean))
def mX11_within : am_Y := (yX11_within, cX11_within, 3, (some .boolean))
def mX11_isCell : am_Y := (yX11_isCell, cX11_isCell, 1, (some .boolean))
def mX11_isOdds : am_Y := (yX11_isOdds, cX11_isOdds, 1, (some .boolean))
def mX11_areMarks : am_Y := (yX11_areMarks, cX11_areMarks, 1, (some .boolean))
def mX11_isSetting : am_Y := (yX11_isSetting, cX11_isSetting, 2, (some .boolean))
def mX11_beside : am_Y := (yX11_beside, cX11_beside, 2, (some .int))
def mX11_far : am_Y := (yX11_far, cX11_far, 2, (some .int))
def mX11_bit : am_Y := (yX11_bit, cX11_bit, 1, (some .long))
def mX12_init : am_Y := (yX12_init, cX12_init, 1, none)
def mX12_begins : am_Y := (yX12_begins, cX12_begins, 2, none)
def mX12_isIn : am_Y := (yX12_isIn, cX12_isIn, 3, (some .boolean))
def mX12_one : am_Y := (yX12_one, cX12_one, 1, (some .int))
def mX12_isCell : am_Y := (yX12_isCell, cX12_isCell, 1, (some .boolean))
def mX12_far : am_Y := (yX12_far, cX12_far, 2, (some .int))
def mX12_beside : am_Y := (yX12_beside, cX12_beside, 2, (some .int))
def mX12_isBut : am_Y := (yX12_isBut, cX12_isBut, 3, (some .boolean))
def mX12_tells : am_Y := (yX12_tells, cX12_tells, 5, none)
def mX12_does : am_Y := (yX12_does, cX12_does, 4, none)
def mX12_comes : am_Y := (yX12_comes, cX12_comes, 2, none)
def mX12_charged : am_Y := (yX12_charged, cX12_charged, 2, none)
def mX12_land : am_Y := (yX12_land, cX12_land, 4, (some .boolean))
def mX12_isSet : am_Y := (yX12_isSet, cX12_isSet, 2, (some .boolean))
def mX12_set : am_Y := (yX12_set, cX12_set, 3, (some .boolean))
def mX12_rain : am_Y := (yX12_rain, cX12_rain, 4, (some .int))
def mX12_cart : am_Y := (yX12_cart, cX12_cart, 6, (some .int))
def mX12_isCart : am_Y := (yX12_isCart, cX12_isCart, 2, (some .boolean))
def mX12_charge : am_Y := (yX12_charge, cX12_charge, 2, (some .boolean))
def mX12_work : am_Y := (yX12_work, cX12_work, 4, (some .int))
def mX12_lot : am_Y := (yX12_lot, cX12_lot, 2, (some .int))
def mX12_kind : am_Y := (yX12_kind, cX12_kind, 7, (some .int))
def mX12_has : am_Y := (yX12_has, cX12_has, 2, (some .boolean))
def mX12_plant : am_Y := (yX12_plant, cX12_plant, 2, (some .boolean))
def mX12_show : am_Y := (yX12_show, cX12_show, 3, (some .boolean))
def mX12_look : am_Y := (yX12_look, cX12_look, 3, (some .boolean))
def mX12_ill : am_Y := (yX12_ill, cX12_ill, 3, (some .boolean))
def mX12_grows : am_Y := (yX12_grows, cX12_grows, 4, none)
def mX12_seen : am_Y := (yX12_seen, cX12_seen, 7, none)
def mX12_dies : am_Y := (yX12_dies, cX12_dies, 3, none)
def mX12_weeds : am_Y := (yX12_weeds, cX12_weeds, 5, (some .int))
def mX12_heavy : am_Y := (yX12_heavy, cX12_heavy, 3, (some .int))
def mX12_mayEnter : am_Y := (yX12_mayEnter, cX12_mayEnter, 3, (some .boolean))
def mX12_isGoal : am_Y := (yX12_isGoal, cX12_isGoal, 3, (some .boolean))
def mX12_ways : am_Y := (yX12_ways, cX12_ways, 6, none)
def mX12_nextOf : am_Y := (yX12_nextOf, cX12_nextOf, 5, (some .int))
def mX12_way : am_Y := (yX12_way, cX12_way, 6, (some .int))
def mX12_rains : am_Y := (yX12_rains, cX12_rains, 3, none)
def mX12_flows : am_Y := (yX12_flows, cX12_flows, 4, none)
def mX12_dries : am_Y := (yX12_dries, cX12_dries, 2, none)
def mX12_mayTake : am_Y := (yX12_mayTake, cX12_mayTake, 3, (some .boolean))
def mX12_offers : am_Y := (yX12_offers, cX12_offers, 8, none)
def mX12_gives : am_Y := (yX12_gives, cX12_gives, 2, none)
def mX12_drops : am_Y := (yX12_drops, cX12_drops, 3, none)
def mX12_works : am_Y := (yX12_works, cX12_works, 4, none)
def mX12_pulls : am_Y := (yX12_pulls, cX12_pulls, 4, none)
def mX12_moves : am_Y := (yX12_moves, cX12_moves, 7, none)
def mX12_enters : am_Y := (yX12_enters, cX12_enters, 4, none)
def mX12_acts : am_Y := (yX12_acts, cX12_acts, 2, none)
def mX12_ends : am_Y := (yX12_ends, cX12_ends, 3, none)
def mX12_lotIsLow : am_Y := (yX12_lotIsLow, cX12_lotIsLow, 2, (some .boolean))
def mX12_hour : am_Y := (yX12_hour, cX12_hour, 2, none)
def mX12_pass : am_Y := (yX12_pass, cX12_pass, 3, (some .int))
def mX12_cellOf : am_Y := (yX12_cellOf, cX12_cellOf, 4, (some .int))
def mX12_cell : am_Y := (yX12_cell, cX12_cell, 3, (some .int))
def mX12_share : am_Y := (yX12_share, cX12_share, 3, (some .int))
def mX12_told : am_Y := (yX12_told, cX12_told, 5, (some .int))
def mX12_job : am_Y := (yX12_job, cX12_job, 3, (some .int))
def mX12_water : am_Y := (yX12_water, cX12_water, 5, (some .long))
def mX12_spreads : am_Y := (yX12_spreads, cX12_spreads, 6, none)
def mX12_isSpot : am_Y := (yX12_isSpot, cX12_isSpot, 5, (some .boolean))
def mX12_illMany : am_Y := (yX12_illMany, cX12_illMany, 3, (some .int))
def mX12_spot : am_Y := (yX12_spot, cX12_spot, 5, (some .int))
def mX12_finds : am_Y := (yX12_finds, cX12_finds, 4, none)
def mX12_reached : am_Y := (yX12_reached, cX12_reached, 5, (some .int))
def mX12_bits : am_Y := (yX12_bits, cX12_bits, 3, (some .int))
def mX12_pull : am_Y := (yX12_pull, cX12_pull, 8, (some .int))
def mX12_strip : am_Y := (yX12_strip, cX12_strip, 3, (some .int))
def mX12_leadOf : am_Y := (yX12_leadOf, cX12_leadOf, 6, (some .int))
def mX12_better : am_Y := (yX12_better, cX12_better, 6, (some .int))
def mX12_again : am_Y := (yX12_again, cX12_again, 13, (some .int))
def mX12_feed : am_Y := (yX12_feed, cX12_feed, 6, (some .int))
def mX12_four : am_Y := (yX12_four, cX12_four, 3, none)
def mX12_blanks : am_Y := (yX12_blanks, cX12_blanks, 1, none)
def mX12_word : am_Y := (yX12_word, cX12_word, 3, (some .long))
def mX12_takes : am_Y := (yX12_takes, cX12_takes, 3, (some .boolean))
def mX12_takesSign : am_Y := (yX12_takesSign, cX12_takesSign, 2, (some .boolean))
def mX12_takesNumber : am_Y := (yX12_takesNumber, cX12_takesNumber, 2, (some .boolean))
def mX12_asked : am_Y := (yX12_asked, cX12_asked, 2, (some .int))
def mX12_puts : am_Y := (yX12_puts, cX12_puts, 3, none)
def mX12_opens : am_Y := (yX12_opens, cX12_opens, 1, (some .boolean))
def mX12_atom : am_Y := (yX12_atom, cX12_atom, 2, (some .boolean))
def mX12_product : am_Y := (yX12_product, cX12_product, 2, (some .boolean))
def mX12_ex : am_Y := (yX12_ex, cX12_ex, 2, (some .boolean))
def mX12_single : am_Y := (yX12_single, cX12_single, 2, (some .boolean))
def mX12_all : am_Y := (yX12_all, cX12_all, 1, (some .boolean))
def mX12_any : am_Y := (yX12_any, cX12_any, 1, (some .boolean))
def mX12_statement : am_Y := (yX12_statement, cX12_statement, 2, (some .boolean))
def mX12_rules : am_Y := (yX12_rules, cX12_rules, 4, (some .int))
def mX12_fault : am_Y := (yX12_fault, cX12_fault, 1, (some .int))
def mX12_held : am_Y := (yX12_held, cX12_held, 2, (some .long))
def mX12_bit : am_Y := (yX12_bit, cX12_bit, 1, (some .long))
def mX12_both : am_Y := (yX12_both, cX12_both, 5, (some .long))
def mX12_runs : am_Y := (yX12_runs, cX12_runs, 6, (some .long))
def mX12_nextRain : am_Y := (yX12_nextRain, cX12_nextRain, 3, (some .int))
def mX12_toDo : am_Y := (yX12_toDo, cX12_toDo, 4, (some .int))
def mX12_act : am_Y := (yX12_act, cX12_act, 4, (some .int))
def mX12_plan : am_Y := (yX12_plan, cX12_plan, 3, (some .int))
def mX12_manyOf : am_Y := (yX12_manyOf, cX12_manyOf, 5, (some .int))
def mX12_count : am_Y := (yX12_count, cX12_count, 4, (some .int))
def mJ6_bitCount_0f7a4 : am_Y := (yJ6_bitCount_0f7a4, cJ6_bitCount_0f7a4, 1, (some .int))
def mJ13_bitCount_95d88 : am_Y := (yJ13_bitCount_95d88, cJ13_bitCount_95d88, 2, (some .int))
def mJ9_abs_0f7a4 : am_Y := (yJ9_abs_0f7a4, cJ9_abs_0f7a4, 1, (some .int))
def mJ9_max_7cf53 : am_Y := (yJ9_max_7cf53, cJ9_max_7cf53, 2, (some .int))
def mJ9_max_f86c9 : am_Y := (yJ9_max_f86c9, cJ9_max_f86c9, 4, (some .long))
def mJ9_min_7cf53 : am_Y := (yJ9_min_7cf53, cJ9_min_7cf53, 2, (some .int))
def mJ9_min_f86c9 : am_Y := (yJ9_min_f86c9, cJ9_min_f86c9, 4, (some .long))
def mJ0_length_8abf5 : am_Y := (yJ0_length_8abf5, cJ0_length_8abf5, 1, (some .int))
def mJ0_charAt_5068e : am_Y := (yJ0_charAt_5068e, cJ0_charAt_5068e, 2, (some .char))
def mJ0_indexOf_0f7a4 : am_Y := (yJ0_indexOf_0f7a4, cJ0_indexOf_0f7a4, 2, (some .int))
def mJ0_indexOf_7cf53 : am_Y := (yJ0_indexOf_7cf53, cJ0_indexOf_7cf53, 3, (some .int))
def mJ0_coder_7d493 : am_Y := (yJ0_coder_7d493, cJ0_coder_7d493, 1, (some .byte))
def mJ0_isLatin1_aae02 : am_Y := (yJ0_isLatin1_aae02, cJ0_isLatin1_aae02, 1, (some .boolean))
def mJ1_charAt_3b067 : am_Y := (yJ1_charAt_3b067, cJ1_charAt_3b067, 2, (some .char))
def mJ1_canEncode_9a6ad : am_Y := (yJ1_canEncode_9a6ad, cJ1_canEncode_9a6ad, 1, (some .boolean))
def mJ1_indexOf_4cfef : am_Y := (yJ1_indexOf_4cfef, cJ1_indexOf_4cfef, 4, (some .int))
def mJ1_indexOfChar_4cfef : am_Y := (yJ1_indexOfChar_4cfef, cJ1_indexOfChar_4cfef, 6, (some .int))
def mJ7_fill_d0a16 : am_Y := (yJ7_fill_d0a16, cJ7_fill_d0a16, 5, none)
def mJ7_fill_53178 : am_Y := (yJ7_fill_53178, cJ7_fill_53178, 4, none)
set_option maxRecDepth 100000 in
theorem cb0 : am_CB 0 RX0 TX0 6 tyX0 := ⟨rfl, am_mem_all [184, 186, 188, 190, 192, 194] (by decide +kernel) (by decide +kernel), tyX0_ok, nmX0, rfl, by decide +kernel⟩
set_option maxRecDepth 100000 in
theorem cb1 : am_CB 1 RX1 TX1 6 tyX1 := ⟨rfl, am_mem_all [322, 324, 326, 328, 330, 332] (by decide +kernel) (by decide +kernel), tyX1_ok, nmX1, rfl, by decide +kernel⟩
set_option maxRecDepth 100000 in
theorem cb2 : am_CB 2 RX2 TX2 6 tyX2 := ⟨rfl, am_mem_all [244, 246, 248, 250, 252, 254] (by decide +kernel) (by decide +kernel), tyX2_ok, nmX2, rfl, by decide +kernel⟩
set_option maxRecDepth 100000 in
theorem cb3 : am_CB 3 RX3 TX3 8 tyX3 := ⟨rfl, am_mem_all [464, 466, 468, 470, 472, 474, 476, 478] (by decide +kernel) (by decide +kernel), tyX3_ok, nmX3, rfl, by decide +kernel⟩
set_option maxRecDepth 100000 in
theorem cb4 : am_CB 4 RX5 TX5 5 tyX5 := ⟨rfl, am_mem_all [208, 210, 212, 214, 216] (by decide +kernel) (by decide +kernel), tyX5_ok, nmX5, rfl, by decide +kernel⟩
set_option maxRecDepth 100000 in
theorem cb5 : am_CB 5 RX6 TX6 11 tyX6 := ⟨rfl, am_mem_all [280, 282, 284, 286, 288, 290, 292, 294, 296, 298, 300] (by decide +kernel) (by decide +kernel), tyX6_ok, nmX6, rfl, by decide +kernel⟩
set_option maxRecDepth 100000 in
theorem cb6 : am_CB 6 RX7 TX7 9 tyX7 := ⟨rfl, am_mem_all [427, 429, 431, 433, 435, 437, 439, 441, 443] (by decide +kernel) (by decide +kernel), tyX7_ok, nmX7, rfl, by decide +kernel⟩
set_option maxRecDepth 100000 in
theorem cb7 : am_CB 7 RX8 TX8 1 tyX8 := ⟨rfl, am_mem_all [491] (by decide +kernel) (by decide +kernel), tyX8_ok, nmX8, rfl, by decide +kernel⟩
set_option maxRecDepth 100000 in
theorem cb8 : am_CB 8 RX9 TX9 4 tyX9 := ⟨rfl, am_mem_all [156, 158, 160, 162] (by decide +kernel) (by decide +kernel), tyX9_ok, nmX9, rfl, by decide +kernel⟩
set_option maxRecDepth 100000 in
theorem cb9 : am_CB 9 RX10 TX10 14 tyX10 := ⟨rfl, am_mem_all [379, 381, 383, 385, 387, 389, 391, 393, 395, 397, 399, 401, 403, 405] (by decide +kernel) (by decide +kernel), tyX10_ok, nmX10, rfl, by decide +kernel⟩
set_option maxRecDepth 100000 in
theorem cb10 : am_CB 10 RX11 TX11 10 tyX11 := ⟨rfl, am_mem_all [504, 506, 508, 510, 512, 514, 516, 518, 520, 522] (by decide +kernel) (by decide +kernel), tyX11_ok, nmX11, rfl, by decide +kernel⟩
set_option maxRecDepth 100000 in
theorem cb11 : am_CB 11 RX12 TX12 65 tyX12 := ⟨rfl, am_mem_all [1414, 1416, 1418, 1420, 1422, 1424, 1426, 1428, 1430, 1432, 1434, 1436, 1438, 1440, 1442, 1444, 1446, 1448, 1450, 1452, 1454, 1456, 1458, 1460, 1462, 1464, 1466, 1468, 1470, 1472, 1474, 1476, 1478, 1480, 1482, 1484, 1486, 1488, 1490, 1492, 1494, 1496, 1498, 1500, 1502, 1504, 1506, 1508, 1510, 1512, 1514, 1516, 1518, 1520, 1522, 1524, 1526, 1528, 1530, 1532, 1534, 1536, 1538, 1540, 1542] (by decide +kernel) (by decide +kernel), tyX12_ok, nmX12, rfl, by decide +kernel⟩
set_option maxRecDepth 100000 in
theorem fsRX0_14 : am_FS RX0 14 0 0 2 := ⟨RX0, TX0, 6, tyX0, cb0, rfl, by decide, Or.inl (am_in1 62 rfl rfl)⟩
set_option maxRecDepth 100000 in
theorem fsRX0_20 : am_FS RX0 20 0 1 2 := ⟨RX0, TX0, 6, tyX0, cb0, rfl, by decide, Or.inl (am_in1 65 rfl rfl)⟩
set_option maxRecDepth 100000 in
theorem fsRX0_39 : am_FS RX0 39 8 3 0 := ⟨RX9, TX9, 4, tyX9, cb8, rfl, by decide, Or.inr ⟨"PloughField", am_inN1 48 rfl rfl⟩⟩
set_option maxRecDepth 100000 in
theorem fwRX0_39 : am_FW RX0 39 8 3 0 := ⟨RX9, TX9, 4, tyX9, cb8, rfl, by decide, rfl, Or.inl ⟨rfl, by decide +kernel⟩, Or.inr ⟨"PloughField", am_inN1 48 rfl rfl⟩⟩
set_option maxRecDepth 100000 in
theorem fsRX1_9 : am_FS RX1 9 1 1 2 := ⟨RX1, TX1, 6, tyX1, cb1, rfl, by decide, Or.inl (am_in1 207 rfl rfl)⟩
set_option maxRecDepth 100000 in
theorem fsRX1_15 : am_FS RX1 15 1 2 2 := ⟨RX1, TX1, 6, tyX1, cb1, rfl, by decide, Or.inl (am_in1 210 rfl rfl)⟩
set_option maxRecDepth 100000 in
theorem fsRX1_18 : am_FS RX1 18 1 3 2 := ⟨RX1, TX1, 6, tyX1, cb1, rfl, by decide, Or.inl (am_in1 212 rfl rfl)⟩
set_option maxRecDepth 100000 in
theorem fsRX1_21 : am_FS RX1 21 1 4 2 := ⟨RX1, TX1, 6, tyX1, cb1, rfl, by decide, Or.inl (am_in1 214 rfl rfl)⟩
set_option maxRecDepth 100000 in
theorem fsRX1_24 : am_FS RX1 24 1 5 2 := ⟨RX1, TX1, 6, tyX1, cb1, rfl, by decide, Or.inl (am_in1 216 rfl rfl)⟩
set_option maxRecDepth 100000 in
theorem fsRX1_28 : am_FS RX1 28 1 0 2 := ⟨RX1, TX1, 6, tyX1, cb1, rfl, by decide, Or.inl (am_in1 206 rfl rfl)⟩
set_option maxRecDepth 100000 in
theorem fsRX1_45 : am_FS RX1 45 0 2 2 := ⟨RX0, TX0, 6, tyX0, cb0, rfl, by decide, Or.inr ⟨"PloughField", am_inN1 68 rfl rfl⟩⟩
set_option maxRecDepth 100000 in
theorem fsRX10_9 : am_FS RX10 9 9 5 2 := ⟨RX10, TX10, 14, tyX10, cb9, rfl, by decide, Or.inl (am_in2 24 rfl rfl)⟩
set_option maxRecDepth 100000 in
theorem fsRX10_15 : am_FS RX10 15 9 6 2 := ⟨RX10, TX10, 14, tyX10, cb9, rfl, by decide, Or.inl (am_in2 25 rfl rfl)⟩
set_option maxRecDepth 100000 in
theorem fsRX10_18 : am_FS RX10 18 9 7 2 := ⟨RX10, TX10, 14, tyX10, cb9, rfl, by decide, Or.inl (am_in2 26 rfl rfl)⟩
set_option maxRecDepth 100000 in
theorem fsRX10_21 : am_FS RX10 21 9 0 2 := ⟨RX10, TX10, 14, tyX10, cb9, rfl, by decide, Or.inl (am_in2 16 rfl rfl)⟩
set_option maxRecDepth 100000 in
theorem fsRX10_25 : am_FS RX10 25 9 1 2 := ⟨RX10, TX10, 14, tyX10, cb9, rfl, by decide, Or.inl (am_in2 17 rfl rfl)⟩
set_option maxRecDepth 100000 in
theorem fsRX10_32 : am_FS RX10 32 9 2 2 := ⟨RX10, TX10, 14, tyX10, cb9, rfl, by decide, Or.inl (am_in2 18 rfl rfl)⟩
set_option maxRecDepth 100000 in
theorem fsRX10_41 : am_FS RX10 41 9 3 2 := ⟨RX10, TX10, 14, tyX10, cb9, rfl, by decide, Or.inl (am_in2 20 rfl rfl)⟩
set_option maxRecDepth 100000 in
theorem fsRX10_48 : am_FS RX10 48 9 4 2 := ⟨RX10, TX10, 14, tyX10, cb9, rfl, by decide, Or.inl (am_in2 22 rfl rfl)⟩
set_option maxRecDepth 100000 in
theorem fsRX10_66 : am_FS RX10 66 9 8 0 := ⟨RX10, TX10, 14, tyX10, cb9, rfl, by decide, Or.inl (am_in2 28 rfl rfl)⟩
set_option maxRecDepth 100000 in
theorem fwRX10_66 : am_FW RX10 66 9 8 0 := ⟨RX10, TX10, 14, tyX10, cb9, rfl, by decide, rfl, Or.inl ⟨rfl, by decide +kernel⟩, Or.inl (am_in2 28 rfl rfl)⟩
set_option maxRecDepth 100000 in
theorem fsRX10_70 : am_FS RX10 70 9 9 0 := ⟨RX10, TX10, 14, tyX10, cb9, rfl, by decide, Or.inl (am_in2 30 rfl rfl)⟩
set_option maxRecDepth 100000 in
theorem fwRX10_70 : am_FW RX10 70 9 9 0 := ⟨RX10, TX10, 14, tyX10, cb9, rfl, by decide, rfl, Or.inl ⟨rfl, by decide +kernel⟩, Or.inl (am_in2 30 rfl rfl)⟩
set_option maxRecDepth 100000 in
theorem fsRX10_73 : am_FS RX10 73 9 10 0 := ⟨RX10, TX10, 14, tyX10, cb9, rfl, by decide, Or.inl (am_in2 31 rfl rfl)⟩
set_option maxRecDepth 100000 in
theorem fwRX10_73 : am_FW RX10 73 9 10 0 := ⟨RX10, TX10, 14, tyX10, cb9, rfl, by decide, rfl, Or.inl ⟨rfl, by decide +kernel⟩, Or.inl (am_in2 31 rfl rfl)⟩
set_option maxRecDepth 100000 in
theorem fsRX10_76 : am_FS RX10 76 9 11 0 := ⟨RX10, TX10, 14, tyX10, cb9, rfl, by decide, Or.inl (am_in2 32 rfl rfl)⟩
set_option maxRecDepth 100000 in
theorem fwRX10_76 : am_FW RX10 76 9 11 0 := ⟨RX10, TX10, 14, tyX10, cb9, rfl, by decide, rfl, Or.inl ⟨rfl, by decide +kernel⟩, Or.inl (am_in2 32 rfl rfl)⟩
set_option maxRecDepth 100000 in
theorem fsRX10_79 : am_FS RX10 79 9 12 0 := ⟨RX10, TX10, 14, tyX10, cb9, rfl, by decide, Or.inl (am_in2 33 rfl rfl)⟩
set_option maxRecDepth 100000 in
theorem fwRX10_79 : am_FW RX10 79 9 12 0 := ⟨RX10, TX10, 14, tyX10, cb9, rfl, by decide, rfl, Or.inl ⟨rfl, by decide +kernel⟩, Or.inl (am_in2 33 rfl rfl)⟩
set_option maxRecDepth 100000 in
theorem fsRX10_82 : am_FS RX10 82 9 13 0 := ⟨RX10, TX10, 14, tyX10, cb9, rfl, by decide, Or.inl (am_in2 34 rfl rfl)⟩
set_option maxRecDepth 100000 in
theorem fwRX10_82 : am_FW RX10 82 9 13 0 := ⟨RX10, TX10, 14, tyX10, cb9, rfl, by decide, rfl, Or.inl ⟨rfl, by decide +kernel⟩, Or.inl (am_in2 34 rfl rfl)⟩
set_option maxRecDepth 100000 in
theorem fsRX10_91 : am_FS RX10 91 0 0 2 := ⟨RX0, TX0, 6, tyX0, cb0, rfl, by decide, Or.inr ⟨"PloughField", am_inN1 63 rfl rfl⟩⟩
set_option maxRecDepth 100000 in
theorem fsRX10_97 : am_FS RX10 97 8 3 0 := ⟨RX9, TX9, 4, tyX9, cb8, rfl, by decide, Or.inr ⟨"PloughField", am_inN1 49 rfl rfl⟩⟩
set_option maxRecDepth 100000 in
theorem fwRX10_97 : am_FW RX10 97 8 3 0 := ⟨RX9, TX9, 4, tyX9, cb8, rfl, by decide, rfl, Or.inl ⟨rfl, by decide +kernel⟩, Or.inr ⟨"PloughField", am_inN1 49 rfl rfl⟩⟩
set_option maxRecDepth 100000 in
theorem fsRX10_182 : am_FS RX10 182 0 3 2 := ⟨RX0, TX0, 6, tyX0, cb0, rfl, by decide, Or.inr ⟨"PloughField", am_inN1 72 rfl rfl⟩⟩
set_option maxRecDepth 100000 in
theorem fsRX10_189 : am_FS RX10 189 0 2 2 := ⟨RX0, TX0, 6, tyX0, cb0, rfl, by decide, Or.inr ⟨"PloughField", am_inN1 70 rfl rfl⟩⟩
set_option maxRecDepth 100000 in
theorem fsRX10_216 : am_FS RX10 216 1 4 2 := ⟨RX1, TX1, 6, tyX1, cb1, rfl, by decide, Or.inr ⟨"PloughField", am_inN1 215 rfl rfl⟩⟩
set_option maxRecDepth 100000 in
theorem fsRX10_219 : am_FS RX10 219 1 3 2 := ⟨RX1, TX1, 6, tyX1, cb1, rfl, by decide, Or.inr ⟨"PloughField", am_inN1 213 rfl rfl⟩⟩
set_option maxRecDepth 100000 in
theorem fsRX10_241 : am_FS RX10 241 1 1 2 := ⟨RX1, TX1, 6, tyX1, cb1, rfl, by decide, Or.inr ⟨"PloughField", am_inN1 209 rfl rfl⟩⟩
set_option maxRecDepth 100000 in
theorem fsRX10_268 : am_FS RX10 268 1 2 2 := ⟨RX1, TX1, 6, tyX1, cb1, rfl, by decide, Or.inr ⟨"PloughField", am_inN1 211 rfl rfl⟩⟩
set_option maxRecDepth 100000 in
theorem fsRX10_271 : am_FS RX10 271 2 2 2 := ⟨RX2, TX2, 6, tyX2, cb2, rfl, by decide, Or.inr ⟨"PloughField", am_inN1 134 rfl rfl⟩⟩
set_option maxRecDepth 100000 in
theorem fsRX10_277 : am_FS RX10 277 2 1 2 := ⟨RX2, TX2, 6, tyX2, cb2, rfl, by decide, Or.inr ⟨"PloughField", am_inN1 131 rfl rfl⟩⟩
set_option maxRecDepth 100000 in
theorem fsRX10_286 : am_FS RX10 286 2 0 2 := ⟨RX2, TX2, 6, tyX2, cb2, rfl, by decide, Or.inr ⟨"PloughField", am_inN1 128 rfl rfl⟩⟩
set_option maxRecDepth 100000 in
theorem fsRX10_289 : am_FS RX10 289 5 1 2 := ⟨RX6, TX6, 11, tyX6, cb5, rfl, by decide, Or.inr ⟨"PloughField", am_inN1 161 rfl rfl⟩⟩
set_option maxRecDepth 100000 in
theorem fsRX10_294 : am_FS RX10 294 5 2 2 := ⟨RX6, TX6, 11, tyX6, cb5, rfl, by decide, Or.inr ⟨"PloughField", am_inN1 163 rfl rfl⟩⟩
set_option maxRecDepth 100000 in
theorem fsRX10_297 : am_FS RX10 297 5 3 2 := ⟨RX6, TX6, 11, tyX6, cb5, rfl, by decide, Or.inr ⟨"PloughField", am_inN1 165 rfl rfl⟩⟩
set_option maxRecDepth 100000 in
theorem fsRX10_303 : am_FS RX10 303 5 5 2 := ⟨RX6, TX6, 11, tyX6, cb5, rfl, by decide, Or.inr ⟨"PloughField", am_inN1 168 rfl rfl⟩⟩
set_option maxRecDepth 100000 in
theorem fsRX11_10 : am_FS RX11 10 10 0 2 := ⟨RX11, TX11, 10, tyX11, cb10, rfl, by decide, Or.inl (am_in2 150 rfl rfl)⟩
set_option maxRecDepth 100000 in
theorem fsRX11_19 : am_FS RX11 19 10 1 2 := ⟨RX11, TX11, 10, tyX11, cb10, rfl, by decide, Or.inl (am_in2 151 rfl rfl)⟩
set_option maxRecDepth 100000 in
theorem fsRX11_28 : am_FS RX11 28 10 2 2 := ⟨RX11, TX11, 10, tyX11, cb10, rfl, by decide, Or.inl (am_in2 152 rfl rfl)⟩
set_option maxRecDepth 100000 in
theorem fsRX11_32 : am_FS RX11 32 10 3 2 := ⟨RX11, TX11, 10, tyX11, cb10, rfl, by decide, Or.inl (am_in2 153 rfl rfl)⟩
set_option maxRecDepth 100000 in
theorem fsRX11_38 : am_FS RX11 38 10 4 2 := ⟨RX11, TX11, 10, tyX11, cb10, rfl, by decide, Or.inl (am_in2 154 rfl rfl)⟩
set_option maxRecDepth 100000 in
theorem fsRX11_45 : am_FS RX11 45 10 5 2 := ⟨RX11, TX11, 10, tyX11, cb10, rfl, by decide, Or.inl (am_in2 155 rfl rfl)⟩
set_option maxRecDepth 100000 in
theorem fsRX11_52 : am_FS RX11 52 10 6 2 := ⟨RX11, TX11, 10, tyX11, cb10, rfl, by decide, Or.inl (am_in2 156 rfl rfl)⟩
set_option maxRecDepth 100000 in
theorem fsRX11_56 : am_FS RX11 56 10 7 2 := ⟨RX11, TX11, 10, tyX11, cb10, rfl, by decide, Or.inl (am_in2 157 rfl rfl)⟩
set_option maxRecDepth 100000 in
theorem fsRX11_60 : am_FS RX11 60 10 8 0 := ⟨RX11, TX11, 10, tyX11, cb10, rfl, by decide, Or.inl (am_in2 158 rfl rfl)⟩
set_option maxRecDepth 100000 in
theorem fwRX11_60 : am_FW RX11 60 10 8 0 := ⟨RX11, TX11, 10, tyX11, cb10, rfl, by decide, rfl, Or.inl ⟨rfl, by decide +kernel⟩, Or.inl (am_in2 158 rfl rfl)⟩
set_option maxRecDepth 100000 in
theorem fsRX11_64 : am_FS RX11 64 10 9 0 := ⟨RX11, TX11, 10, tyX11, cb10, rfl, by decide, Or.inl (am_in2 159 rfl rfl)⟩
set_option maxRecDepth 100000 in
theorem fwRX11_64 : am_FW RX11 64 10 9 0 := ⟨RX11, TX11, 10, tyX11, cb10, rfl, by decide, rfl, Or.inl ⟨rfl, by decide +kernel⟩, Or.inl (am_in2 159 rfl rfl)⟩
set_option maxRecDepth 100000 in
theorem fsRX11_83 : am_FS RX11 83 9 8 0 := ⟨RX10, TX10, 14, tyX10, cb9, rfl, by decide, Or.inr ⟨"PloughField", am_inN2 29 rfl rfl⟩⟩
set_option maxRecDepth 100000 in
theorem fwRX11_83 : am_FW RX11 83 9 8 0 := ⟨RX10, TX10, 14, tyX10, cb9, rfl, by decide, rfl, Or.inl ⟨rfl, by decide +kernel⟩, Or.inr ⟨"PloughField", am_inN2 29 rfl rfl⟩⟩
set_option maxRecDepth 100000 in
theorem fsRX11_86 : am_FS RX11 86 0 1 2 := ⟨RX0, TX0, 6, tyX0, cb0, rfl, by decide, Or.inr ⟨"PloughField", am_inN1 66 rfl rfl⟩⟩
set_option maxRecDepth 100000 in
theorem fsRX11_104 : am_FS RX11 104 0 2 2 := ⟨RX0, TX0, 6, tyX0, cb0, rfl, by decide, Or.inr ⟨"PloughField", am_inN1 69 rfl rfl⟩⟩
set_option maxRecDepth 100000 in
theorem fsRX11_110 : am_FS RX11 110 9 4 2 := ⟨RX10, TX10, 14, tyX10, cb9, rfl, by decide, Or.inr ⟨"PloughField", am_inN2 23 rfl rfl⟩⟩
set_option maxRecDepth 100000 in
theorem fsRX11_123 : am_FS RX11 123 0 5 2 := ⟨RX0, TX0, 6, tyX0, cb0, rfl, by decide, Or.inr ⟨"PloughField", am_inN1 78 rfl rfl⟩⟩
set_option maxRecDepth 100000 in
theorem fsRX11_129 : am_FS RX11 129 0 4 2 := ⟨RX0, TX0, 6, tyX0, cb0, rfl, by decide, Or.inr ⟨"PloughField", am_inN1 76 rfl rfl⟩⟩
set_option maxRecDepth 100000 in
theorem fsRX11_132 : am_FS RX11 132 9 3 2 := ⟨RX10, TX10, 14, tyX10, cb9, rfl, by decide, Or.inr ⟨"PloughField", am_inN2 21 rfl rfl⟩⟩
set_option maxRecDepth 100000 in
theorem fsRX11_141 : am_FS RX11 141 8 3 0 := ⟨RX9, TX9, 4, tyX9, cb8, rfl, by decide, Or.inr ⟨"PloughField", am_inN1 51 rfl rfl⟩⟩
set_option maxRecDepth 100000 in
theorem fwRX11_141 : am_FW RX11 141 8 3 0 := ⟨RX9, TX9, 4, tyX9, cb8, rfl, by decide, rfl, Or.inl ⟨rfl, by decide +kernel⟩, Or.inr ⟨"PloughField", am_inN1 51 rfl rfl⟩⟩
set_option maxRecDepth 100000 in
theorem fsRX11_164 : am_FS RX11 164 0 3 2 := ⟨RX0, TX0, 6, tyX0, cb0, rfl, by decide, Or.inr ⟨"PloughField", am_inN1 73 rfl rfl⟩⟩
set_option maxRecDepth 100000 in
theorem fsRX11_177 : am_FS RX11 177 9 2 2 := ⟨RX10, TX10, 14, tyX10, cb9, rfl, by decide, Or.inr ⟨"PloughField", am_inN2 19 rfl rfl⟩⟩
set_option maxRecDepth 100000 in
theorem fsRX11_181 : am_FS RX11 181 9 7 2 := ⟨RX10, TX10, 14, tyX10, cb9, rfl, by decide, Or.inr ⟨"PloughField", am_inN2 27 rfl rfl⟩⟩
set_option maxRecDepth 100000 in
theorem fsRX11_206 : am_FS RX11 206 2 4 1 := ⟨RX2, TX2, 6, tyX2, cb2, rfl, by decide, Or.inr ⟨"PloughField", am_inN1 137 rfl rfl⟩⟩
set_option maxRecDepth 100000 in
theorem fwRX11_206 : am_FW RX11 206 2 4 1 := ⟨RX2, TX2, 6, tyX2, cb2, rfl, by decide, rfl, Or.inr ⟨rfl, by decide +kernel⟩, Or.inr ⟨"PloughField", am_inN1 137 rfl rfl⟩⟩
set_option maxRecDepth 100000 in
theorem fsRX11_210 : am_FS RX11 210 2 5 1 := ⟨RX2, TX2, 6, tyX2, cb2, rfl, by decide, Or.inr ⟨"PloughField", am_inN1 139 rfl rfl⟩⟩
set_option maxRecDepth 100000 in
theorem fwRX11_210 : am_FW RX11 210 2 5 1 := ⟨RX2, TX2, 6, tyX2, cb2, rfl, by decide, rfl, Or.inr ⟨rfl, by decide +kernel⟩, Or.inr ⟨"PloughField", am_inN1 139 rfl rfl⟩⟩
set_option maxRecDepth 100000 in
theorem fsRX11_215 : am_FS RX11 215 5 8 1 := ⟨RX6, TX6, 11, tyX6, cb5, rfl, by decide, Or.inr ⟨"PloughField", am_inN1 172 rfl rfl⟩⟩
set_option maxRecDepth 100000 in
theorem fwRX11_215 : am_FW RX11 215 5 8 1 := ⟨RX6, TX6, 11, tyX6, cb5, rfl, by decide, rfl, Or.inr ⟨rfl, by decide +kernel⟩, Or.inr ⟨"PloughField", am_inN1 172 rfl rfl⟩⟩
set_option maxRecDepth 100000 in
theorem fsRX11_218 : am_FS RX11 218 5 9 1 := ⟨RX6, TX6, 11, tyX6, cb5, rfl, by decide, Or.inr ⟨"PloughField", am_inN1 174 rfl rfl⟩⟩
set_option maxRecDepth 100000 in
theorem fwRX11_218 : am_FW RX11 218 5 9 1 := ⟨RX6, TX6, 11, tyX6, cb5, rfl, by decide, rfl, Or.inr ⟨rfl, by decide +kernel⟩, Or.inr ⟨"PloughField", am_inN1 174 rfl rfl⟩⟩
set_option maxRecDepth 100000 in
theorem fsRX11_231 : am_FS RX11 231 7 0 2 := ⟨RX8, TX8, 1, tyX8, cb7, rfl, by decide, Or.inr ⟨"PloughField", am_inN2 146 rfl rfl⟩⟩
set_option maxRecDepth 100000 in
theorem fsRX11_255 : am_FS RX11 255 6 4 0 := ⟨RX7, TX7, 9, tyX7, cb6, rfl, by decide, Or.inr ⟨"PloughField", am_inN2 76 rfl rfl⟩⟩
set_option maxRecDepth 100000 in
theorem fwRX11_255 : am_FW RX11 255 6 4 0 := ⟨RX7, TX7, 9, tyX7, cb6, rfl, by decide, rfl, Or.inl ⟨rfl, by decide +kernel⟩, Or.inr ⟨"PloughField", am_inN2 76 rfl rfl⟩⟩
set_option maxRecDepth 100000 in
theorem fsRX11_261 : am_FS RX11 261 6 3 2 := ⟨RX7, TX7, 9, tyX7, cb6, rfl, by decide, Or.inr ⟨"PloughField", am_inN2 74 rfl rfl⟩⟩
set_option maxRecDepth 100000 in
theorem fsRX11_264 : am_FS RX11 264 6 7 0 := ⟨RX7, TX7, 9, tyX7, cb6, rfl, by decide, Or.inr ⟨"PloughField", am_inN2 80 rfl rfl⟩⟩
set_option maxRecDepth 100000 in
theorem fwRX11_264 : am_FW RX11 264 6 7 0 := ⟨RX7, TX7, 9, tyX7, cb6, rfl, by decide, rfl, Or.inl ⟨rfl, by decide +kernel⟩, Or.inr ⟨"PloughField", am_inN2 80 rfl rfl⟩⟩
set_option maxRecDepth 100000 in
theorem fsRX11_267 : am_FS RX11 267 6 8 0 := ⟨RX7, TX7, 9, tyX7, cb6, rfl, by decide, Or.inr ⟨"PloughField", am_inN2 82 rfl rfl⟩⟩
set_option maxRecDepth 100000 in
theorem fwRX11_267 : am_FW RX11 267 6 8 0 := ⟨RX7, TX7, 9, tyX7, cb6, rfl, by decide, rfl, Or.inl ⟨rfl, by decide +kernel⟩, Or.inr ⟨"PloughField", am_inN2 82 rfl rfl⟩⟩
set_option maxRecDepth 100000 in
theorem fsRX11_277 : am_FS RX11 277 3 5 0 := ⟨RX3, TX3, 8, tyX3, cb3, rfl, by decide, Or.inr ⟨"PloughField", am_inN2 115 rfl rfl⟩⟩
set_option maxRecDepth 100000 in
theorem fwRX11_277 : am_FW RX11 277 3 5 0 := ⟨RX3, TX3, 8, tyX3, cb3, rfl, by decide, rfl, Or.inl ⟨rfl, by decide +kernel⟩, Or.inr ⟨"PloughField", am_inN2 115 rfl rfl⟩⟩
set_option maxRecDepth 100000 in
theorem fsRX11_280 : am_FS RX11 280 3 6 0 := ⟨RX3, TX3, 8, tyX3, cb3, rfl, by decide, Or.inr ⟨"PloughField", am_inN2 117 rfl rfl⟩⟩
set_option maxRecDepth 100000 in
theorem fwRX11_280 : am_FW RX11 280 3 6 0 := ⟨RX3, TX3, 8, tyX3, cb3, rfl, by decide, rfl, Or.inl ⟨rfl, by decide +kernel⟩, Or.inr ⟨"PloughField", am_inN2 117 rfl rfl⟩⟩
set_option maxRecDepth 100000 in
theorem fsRX11_283 : am_FS RX11 283 3 7 0 := ⟨RX3, TX3, 8, tyX3, cb3, rfl, by decide, Or.inr ⟨"PloughField", am_inN2 119 rfl rfl⟩⟩
set_option maxRecDepth 100000 in
theorem fwRX11_283 : am_FW RX11 283 3 7 0 := ⟨RX3, TX3, 8, tyX3, cb3, rfl, by decide, rfl, Or.inl ⟨rfl, by decide +kernel⟩, Or.inr ⟨"PloughField", am_inN2 119 rfl rfl⟩⟩
set_option maxRecDepth 100000 in
theorem fsRX11_304 : am_FS RX11 304 0 0 2 := ⟨RX0, TX0, 6, tyX0, cb0, rfl, by decide, Or.inr ⟨"PloughField", am_inN1 64 rfl rfl⟩⟩
set_option maxRecDepth 100000 in
theorem fsRX11_316 : am_FS RX11 316 3 3 0 := ⟨RX3, TX3, 8, tyX3, cb3, rfl, by decide, Or.inr ⟨"PloughField", am_inN2 112 rfl rfl⟩⟩
set_option maxRecDepth 100000 in
theorem fwRX11_316 : am_FW RX11 316 3 3 0 := ⟨RX3, TX3, 8, tyX3, cb3, rfl, by decide, rfl, Or.inl ⟨rfl, by decide +kernel⟩, Or.inr ⟨"PloughField", am_inN2 112 rfl rfl⟩⟩
set_option maxRecDepth 100000 in
theorem fsRX12_7 : am_FS RX12 7 11 0 2 := ⟨RX12, TX12, 65, tyX12, cb11, rfl, by decide, Or.inl (am_in6 45 rfl rfl)⟩
set_option maxRecDepth 100000 in
theorem fsRX12_13 : am_FS RX12 13 11 1 2 := ⟨RX12, TX12, 65, tyX12, cb11, rfl, by decide, Or.inl (am_in6 46 rfl rfl)⟩
set_option maxRecDepth 100000 in
theorem fsRX12_16 : am_FS RX12 16 11 5 2 := ⟨RX12, TX12, 65, tyX12, cb11, rfl, by decide, Or.inl (am_in6 50 rfl rfl)⟩
set_option maxRecDepth 100000 in
theorem fsRX12_19 : am_FS RX12 19 11 6 2 := ⟨RX12, TX12, 65, tyX12, cb11, rfl, by decide, Or.inl (am_in6 51 rfl rfl)⟩
set_option maxRecDepth 100000 in
theorem fsRX12_22 : am_FS RX12 22 11 7 2 := ⟨RX12, TX12, 65, tyX12, cb11, rfl, by decide, Or.inl (am_in6 52 rfl rfl)⟩
set_option maxRecDepth 100000 in
theorem fsRX12_25 : am_FS RX12 25 11 8 2 := ⟨RX12, TX12, 65, tyX12, cb11, rfl, by decide, Or.inl (am_in6 53 rfl rfl)⟩
set_option maxRecDepth 100000 in
theorem fsRX12_28 : am_FS RX12 28 11 9 2 := ⟨RX12, TX12, 65, tyX12, cb11, rfl, by decide, Or.inl (am_in6 54 rfl rfl)⟩
set_option maxRecDepth 100000 in
theorem fsRX12_31 : am_FS RX12 31 11 15 2 := ⟨RX12, TX12, 65, tyX12, cb11, rfl, by decide, Or.inl (am_in6 60 rfl rfl)⟩
set_option maxRecDepth 100000 in
theorem fsRX12_34 : am_FS RX12 34 11 16 2 := ⟨RX12, TX12, 65, tyX12, cb11, rfl, by decide, Or.inl (am_in6 61 rfl rfl)⟩
set_option maxRecDepth 100000 in
theorem fsRX12_37 : am_FS RX12 37 11 17 2 := ⟨RX12, TX12, 65, tyX12, cb11, rfl, by decide, Or.inl (am_in6 62 rfl rfl)⟩
set_option maxRecDepth 100000 in
theorem fsRX12_40 : am_FS RX12 40 11 18 2 := ⟨RX12, TX12, 65, tyX12, cb11, rfl, by decide, Or.inl (am_in6 63 rfl rfl)⟩
set_option maxRecDepth 100000 in
theorem fsRX12_43 : am_FS RX12 43 11 19 2 := ⟨RX12, TX12, 65, tyX12, cb11, rfl, by decide, Or.inl (am_in6 64 rfl rfl)⟩
set_option maxRecDepth 100000 in
theorem fsRX12_46 : am_FS RX12 46 11 20 2 := ⟨RX12, TX12, 65, tyX12, cb11, rfl, by decide, Or.inl (am_in6 65 rfl rfl)⟩
set_option maxRecDepth 100000 in
theorem fsRX12_49 : am_FS RX12 49 11 21 2 := ⟨RX12, TX12, 65, tyX12, cb11, rfl, by decide, Or.inl (am_in6 66 rfl rfl)⟩
set_option maxRecDepth 100000 in
theorem fsRX12_52 : am_FS RX12 52 11 22 2 := ⟨RX12, TX12, 65, tyX12, cb11, rfl, by decide, Or.inl (am_in6 67 rfl rfl)⟩
set_option maxRecDepth 100000 in
theorem fsRX12_55 : am_FS RX12 55 11 23 2 := ⟨RX12, TX12, 65, tyX12, cb11, rfl, by decide, Or.inl (am_in6 68 rfl rfl)⟩
set_option maxRecDepth 100000 in
theorem fsRX12_58 : am_FS RX12 58 11 24 2 := ⟨RX12, TX12, 65, tyX12, cb11, rfl, by decide, Or.inl (am_in6 69 rfl rfl)⟩
set_option maxRecDepth 100000 in
theorem fsRX12_61 : am_FS RX12 61 11 25 2 := ⟨RX12, TX12, 65, tyX12, cb11, rfl, by decide, Or.inl (am_in6 70 rfl rfl)⟩
set_option maxRecDepth 100000 in
theorem fsRX12_64 : am_FS RX12 64 11 26 2 := ⟨RX12, TX12, 65, tyX12, cb11, rfl, by decide, Or.inl (am_in6 71 rfl rfl)⟩
set_option maxRecDepth 100000 in
theorem fsRX12_67 : am_FS RX12 67 11 27 2 := ⟨RX12, TX12, 65, tyX12, cb11, rfl, by decide, Or.inl (am_in6 72 rfl rfl)⟩
set_option maxRecDepth 100000 in
theorem fsRX12_70 : am_FS RX12 70 11 28 2 := ⟨RX12, TX12, 65, tyX12, cb11, rfl, by decide, Or.inl (am_in6 73 rfl rfl)⟩
set_option maxRecDepth 100000 in
theorem fsRX12_73 : am_FS RX12 73 11 29 2 := ⟨RX12, TX12, 65, tyX12, cb11, rfl, by decide, Or.inl (am_in6 74 rfl rfl)⟩
set_option maxRecDepth 100000 in
theorem fsRX12_77 : am_FS RX12 77 11 30 0 := ⟨RX12, TX12, 65, tyX12, cb11, rfl, by decide, Or.inl (am_in6 75 rfl rfl)⟩
set_option maxRecDepth 100000 in
theorem fwRX12_77 : am_FW RX12 77 11 30 0 := ⟨RX12, TX12, 65, tyX12, cb11, rfl, by decide, rfl, Or.inl ⟨rfl, by decide +kernel⟩, Or.inl (am_in6 75 rfl rfl)⟩
set_option maxRecDepth 100000 in
theorem fsRX12_81 : am_FS RX12 81 11 32 2 := ⟨RX12, TX12, 65, tyX12, cb11, rfl, by decide, Or.inl (am_in6 77 rfl rfl)⟩
set_option maxRecDepth 100000 in
theorem fsRX12_85 : am_FS RX12 85 11 33 2 := ⟨RX12, TX12, 65, tyX12, cb11, rfl, by decide, Or.inl (am_in6 78 rfl rfl)⟩
set_option maxRecDepth 100000 in
theorem fsRX12_88 : am_FS RX12 88 11 34 2 := ⟨RX12, TX12, 65, tyX12, cb11, rfl, by decide, Or.inl (am_in6 79 rfl rfl)⟩
set_option maxRecDepth 100000 in
theorem fsRX12_91 : am_FS RX12 91 11 35 2 := ⟨RX12, TX12, 65, tyX12, cb11, rfl, by decide, Or.inl (am_in6 80 rfl rfl)⟩
set_option maxRecDepth 100000 in
theorem fsRX12_94 : am_FS RX12 94 11 36 2 := ⟨RX12, TX12, 65, tyX12, cb11, rfl, by decide, Or.inl (am_in6 81 rfl rfl)⟩
set_option maxRecDepth 100000 in
theorem fsRX12_97 : am_FS RX12 97 11 37 2 := ⟨RX12, TX12, 65, tyX12, cb11, rfl, by decide, Or.inl (am_in6 82 rfl rfl)⟩
set_option maxRecDepth 100000 in
theorem fsRX12_100 : am_FS RX12 100 11 38 2 := ⟨RX12, TX12, 65, tyX12, cb11, rfl, by decide, Or.inl (am_in6 83 rfl rfl)⟩
set_option maxRecDepth 100000 in
theorem fsRX12_103 : am_FS RX12 103 11 39 2 := ⟨RX12, TX12, 65, tyX12, cb11, rfl, by decide, Or.inl (am_in6 84 rfl rfl)⟩
set_option maxRecDepth 100000 in
theorem fsRX12_106 : am_FS RX12 106 11 41 2 := ⟨RX12, TX12, 65, tyX12, cb11, rfl, by decide, Or.inl (am_in6 86 rfl rfl)⟩
set_option maxRecDepth 100000 in
theorem fsRX12_109 : am_FS RX12 109 11 43 2 := ⟨RX12, TX12, 65, tyX12, cb11, rfl, by decide, Or.inl (am_in6 88 rfl rfl)⟩
set_option maxRecDepth 100000 in
theorem fsRX12_112 : am_FS RX12 112 11 44 2 := ⟨RX12, TX12, 65, tyX12, cb11, rfl, by decide, Or.inl (am_in6 89 rfl rfl)⟩
set_option maxRecDepth 100000 in
theorem fsRX12_115 : am_FS RX12 115 11 51 0 := ⟨RX12, TX12, 65, tyX12, cb11, rfl, by decide, Or.inl (am_in6 96 rfl rfl)⟩
set_option maxRecDepth 100000 in
theorem fwRX12_115 : am_FW RX12 115 11 51 0 := ⟨RX12, TX12, 65, tyX12, cb11, rfl, by decide, rfl, Or.inl ⟨rfl, by decide +kernel⟩, Or.inl (am_in6 96 rfl rfl)⟩
set_option maxRecDepth 100000 in
theorem fsRX12_118 : am_FS RX12 118 11 52 2 := ⟨RX12, TX12, 65, tyX12, cb11, rfl, by decide, Or.inl (am_in6 97 rfl rfl)⟩
set_option maxRecDepth 100000 in
theorem fsRX12_121 : am_FS RX12 121 11 53 2 := ⟨RX12, TX12, 65, tyX12, cb11, rfl, by decide, Or.inl (am_in6 98 rfl rfl)⟩
set_option maxRecDepth 100000 in
theorem fsRX12_124 : am_FS RX12 124 11 54 2 := ⟨RX12, TX12, 65, tyX12, cb11, rfl, by decide, Or.inl (am_in6 99 rfl rfl)⟩
set_option maxRecDepth 100000 in
theorem fsRX12_127 : am_FS RX12 127 11 55 2 := ⟨RX12, TX12, 65, tyX12, cb11, rfl, by decide, Or.inl (am_in6 100 rfl rfl)⟩
set_option maxRecDepth 100000 in
theorem fsRX12_130 : am_FS RX12 130 11 56 2 := ⟨RX12, TX12, 65, tyX12, cb11, rfl, by decide, Or.inl (am_in6 101 rfl rfl)⟩
set_option maxRecDepth 100000 in
theorem fsRX12_133 : am_FS RX12 133 11 57 2 := ⟨RX12, TX12, 65, tyX12, cb11, rfl, by decide, Or.inl (am_in6 102 rfl rfl)⟩
set_option maxRecDepth 100000 in
theorem fsRX12_136 : am_FS RX12 136 11 58 2 := ⟨RX12, TX12, 65, tyX12, cb11, rfl, by decide, Or.inl (am_in6 103 rfl rfl)⟩
set_option maxRecDepth 100000 in
theorem fsRX12_139 : am_FS RX12 139 11 59 2 := ⟨RX12, TX12, 65, tyX12, cb11, rfl, by decide, Or.inl (am_in6 104 rfl rfl)⟩
set_option maxRecDepth 100000 in
theorem fsRX12_142 : am_FS RX12 142 11 60 2 := ⟨RX12, TX12, 65, tyX12, cb11, rfl, by decide, Or.inl (am_in6 105 rfl rfl)⟩
set_option maxRecDepth 100000 in
theorem fsRX12_145 : am_FS RX12 145 11 61 2 := ⟨RX12, TX12, 65, tyX12, cb11, rfl, by decide, Or.inl (am_in6 106 rfl rfl)⟩
set_option maxRecDepth 100000 in
theorem fsRX12_149 : am_FS RX12 149 11 62 2 := ⟨RX12, TX12, 65, tyX12, cb11, rfl, by decide, Or.inl (am_in6 107 rfl rfl)⟩
set_option maxRecDepth 100000 in
theorem fsRX12_155 : am_FS RX12 155 11 2 1 := ⟨RX12, TX12, 65, tyX12, cb11, rfl, by decide, Or.inl (am_in6 47 rfl rfl)⟩
set_option maxRecDepth 100000 in
theorem fwRX12_155 : am_FW RX12 155 11 2 1 := ⟨RX12, TX12, 65, tyX12, cb11, rfl, by decide, rfl, Or.inr ⟨rfl, by decide +kernel⟩, Or.inl (am_in6 47 rfl rfl)⟩
set_option maxRecDepth 100000 in
theorem fsRX12_159 : am_FS RX12 159 11 3 1 := ⟨RX12, TX12, 65, tyX12, cb11, rfl, by decide, Or.inl (am_in6 48 rfl rfl)⟩
set_option maxRecDepth 100000 in
theorem fwRX12_159 : am_FW RX12 159 11 3 1 := ⟨RX12, TX12, 65, tyX12, cb11, rfl, by decide, rfl, Or.inr ⟨rfl, by decide +kernel⟩, Or.inl (am_in6 48 rfl rfl)⟩
set_option maxRecDepth 100000 in
theorem fsRX12_172 : am_FS RX12 172 11 31 0 := ⟨RX12, TX12, 65, tyX12, cb11, rfl, by decide, Or.inl (am_in6 76 rfl rfl)⟩
set_option maxRecDepth 100000 in
theorem fwRX12_172 : am_FW RX12 172 11 31 0 := ⟨RX12, TX12, 65, tyX12, cb11, rfl, by decide, rfl, Or.inl ⟨rfl, by decide +kernel⟩, Or.inl (am_in6 76 rfl rfl)⟩
set_option maxRecDepth 100000 in
theorem fsRX12_175 : am_FS RX12 175 11 4 0 := ⟨RX12, TX12, 65, tyX12, cb11, rfl, by decide, Or.inl (am_in6 49 rfl rfl)⟩
set_option maxRecDepth 100000 in
theorem fwRX12_175 : am_FW RX12 175 11 4 0 := ⟨RX12, TX12, 65, tyX12, cb11, rfl, by decide, rfl, Or.inl ⟨rfl, by decide +kernel⟩, Or.inl (am_in6 49 rfl rfl)⟩
set_option maxRecDepth 100000 in
theorem fsRX12_210 : am_FS RX12 210 11 10 0 := ⟨RX12, TX12, 65, tyX12, cb11, rfl, by decide, Or.inl (am_in6 55 rfl rfl)⟩
set_option maxRecDepth 100000 in
theorem fwRX12_210 : am_FW RX12 210 11 10 0 := ⟨RX12, TX12, 65, tyX12, cb11, rfl, by decide, rfl, Or.inl ⟨rfl, by decide +kernel⟩, Or.inl (am_in6 55 rfl rfl)⟩
set_option maxRecDepth 100000 in
theorem fsRX12_213 : am_FS RX12 213 11 11 0 := ⟨RX12, TX12, 65, tyX12, cb11, rfl, by decide, Or.inl (am_in6 56 rfl rfl)⟩
set_option maxRecDepth 100000 in
theorem fwRX12_213 : am_FW RX12 213 11 11 0 := ⟨RX12, TX12, 65, tyX12, cb11, rfl, by decide, rfl, Or.inl ⟨rfl, by decide +kernel⟩, Or.inl (am_in6 56 rfl rfl)⟩
set_option maxRecDepth 100000 in
theorem fsRX12_219 : am_FS RX12 219 11 12 0 := ⟨RX12, TX12, 65, tyX12, cb11, rfl, by decide, Or.inl (am_in6 57 rfl rfl)⟩
set_option maxRecDepth 100000 in
theorem fwRX12_219 : am_FW RX12 219 11 12 0 := ⟨RX12, TX12, 65, tyX12, cb11, rfl, by decide, rfl, Or.inl ⟨rfl, by decide +kernel⟩, Or.inl (am_in6 57 rfl rfl)⟩
set_option maxRecDepth 100000 in
theorem fsRX12_222 : am_FS RX12 222 11 13 0 := ⟨RX12, TX12, 65, tyX12, cb11, rfl, by decide, Or.inl (am_in6 58 rfl rfl)⟩
set_option maxRecDepth 100000 in
theorem fwRX12_222 : am_FW RX12 222 11 13 0 := ⟨RX12, TX12, 65, tyX12, cb11, rfl, by decide, rfl, Or.inl ⟨rfl, by decide +kernel⟩, Or.inl (am_in6 58 rfl rfl)⟩
set_option maxRecDepth 100000 in
theorem fsRX12_225 : am_FS RX12 225 11 14 0 := ⟨RX12, TX12, 65, tyX12, cb11, rfl, by decide, Or.inl (am_in6 59 rfl rfl)⟩
set_option maxRecDepth 100000 in
theorem fwRX12_225 : am_FW RX12 225 11 14 0 := ⟨RX12, TX12, 65, tyX12, cb11, rfl, by decide, rfl, Or.inl ⟨rfl, by decide +kernel⟩, Or.inl (am_in6 59 rfl rfl)⟩
set_option maxRecDepth 100000 in
theorem fsRX12_341 : am_FS RX12 341 11 40 0 := ⟨RX12, TX12, 65, tyX12, cb11, rfl, by decide, Or.inl (am_in6 85 rfl rfl)⟩
set_option maxRecDepth 100000 in
theorem fwRX12_341 : am_FW RX12 341 11 40 0 := ⟨RX12, TX12, 65, tyX12, cb11, rfl, by decide, rfl, Or.inl ⟨rfl, by decide +kernel⟩, Or.inl (am_in6 85 rfl rfl)⟩
set_option maxRecDepth 100000 in
theorem fsRX12_353 : am_FS RX12 353 11 42 0 := ⟨RX12, TX12, 65, tyX12, cb11, rfl, by decide, Or.inl (am_in6 87 rfl rfl)⟩
set_option maxRecDepth 100000 in
theorem fwRX12_353 : am_FW RX12 353 11 42 0 := ⟨RX12, TX12, 65, tyX12, cb11, rfl, by decide, rfl, Or.inl ⟨rfl, by decide +kernel⟩, Or.inl (am_in6 87 rfl rfl)⟩
set_option maxRecDepth 100000 in
theorem fsRX12_360 : am_FS RX12 360 11 47 0 := ⟨RX12, TX12, 65, tyX12, cb11, rfl, by decide, Or.inl (am_in6 92 rfl rfl)⟩
set_option maxRecDepth 100000 in
theorem fwRX12_360 : am_FW RX12 360 11 47 0 := ⟨RX12, TX12, 65, tyX12, cb11, rfl, by decide, rfl, Or.inl ⟨rfl, by decide +kernel⟩, Or.inl (am_in6 92 rfl rfl)⟩
set_option maxRecDepth 100000 in
theorem fsRX12_366 : am_FS RX12 366 11 49 0 := ⟨RX12, TX12, 65, tyX12, cb11, rfl, by decide, Or.inl (am_in6 94 rfl rfl)⟩
set_option maxRecDepth 100000 in
theorem fwRX12_366 : am_FW RX12 366 11 49 0 := ⟨RX12, TX12, 65, tyX12, cb11, rfl, by decide, rfl, Or.inl ⟨rfl, by decide +kernel⟩, Or.inl (am_in6 94 rfl rfl)⟩
set_option maxRecDepth 100000 in
theorem fsRX12_369 : am_FS RX12 369 11 48 0 := ⟨RX12, TX12, 65, tyX12, cb11, rfl, by decide, Or.inl (am_in6 93 rfl rfl)⟩
set_option maxRecDepth 100000 in
theorem fwRX12_369 : am_FW RX12 369 11 48 0 := ⟨RX12, TX12, 65, tyX12, cb11, rfl, by decide, rfl, Or.inl ⟨rfl, by decide +kernel⟩, Or.inl (am_in6 93 rfl rfl)⟩
set_option maxRecDepth 100000 in
theorem fsRX12_375 : am_FS RX12 375 11 63 0 := ⟨RX12, TX12, 65, tyX12, cb11, rfl, by decide, Or.inl (am_in6 108 rfl rfl)⟩
set_option maxRecDepth 100000 in
theorem fwRX12_375 : am_FW RX12 375 11 63 0 := ⟨RX12, TX12, 65, tyX12, cb11, rfl, by decide, rfl, Or.inl ⟨rfl, by decide +kernel⟩, Or.inl (am_in6 108 rfl rfl)⟩
set_option maxRecDepth 100000 in
theorem fsRX12_382 : am_FS RX12 382 11 64 0 := ⟨RX12, TX12, 65, tyX12, cb11, rfl, by decide, Or.inl (am_in6 109 rfl rfl)⟩
set_option maxRecDepth 100000 in
theorem fwRX12_382 : am_FW RX12 382 11 64 0 := ⟨RX12, TX12, 65, tyX12, cb11, rfl, by decide, rfl, Or.inl ⟨rfl, by decide +kernel⟩, Or.inl (am_in6 109 rfl rfl)⟩
set_option maxRecDepth 100000 in
theorem fsRX12_401 : am_FS RX12 401 11 46 0 := ⟨RX12, TX12, 65, tyX12, cb11, rfl, by decide, Or.inl (am_in6 91 rfl rfl)⟩
set_option maxRecDepth 100000 in
theorem fwRX12_401 : am_FW RX12 401 11 46 0 := ⟨RX12, TX12, 65, tyX12, cb11, rfl, by decide, rfl, Or.inl ⟨rfl, by decide +kernel⟩, Or.inl (am_in6 91 rfl rfl)⟩
set_option maxRecDepth 100000 in
theorem fsRX12_404 : am_FS RX12 404 11 50 0 := ⟨RX12, TX12, 65, tyX12, cb11, rfl, by decide, Or.inl (am_in6 95 rfl rfl)⟩
set_option maxRecDepth 100000 in
theorem fwRX12_404 : am_FW RX12 404 11 50 0 := ⟨RX12, TX12, 65, tyX12, cb11, rfl, by decide, rfl, Or.inl ⟨rfl, by decide +kernel⟩, Or.inl (am_in6 95 rfl rfl)⟩
set_option maxRecDepth 100000 in
theorem fsRX12_461 : am_FS RX12 461 11 45 0 := ⟨RX12, TX12, 65, tyX12, cb11, rfl, by decide, Or.inl (am_in6 90 rfl rfl)⟩
set_option maxRecDepth 100000 in
theorem fwRX12_461 : am_FW RX12 461 11 45 0 := ⟨RX12, TX12, 65, tyX12, cb11, rfl, by decide, rfl, Or.inl ⟨rfl, by decide +kernel⟩, Or.inl (am_in6 90 rfl rfl)⟩
set_option maxRecDepth 100000 in
theorem fsRX2_9 : am_FS RX2 9 2 0 2 := ⟨RX2, TX2, 6, tyX2, cb2, rfl, by decide, Or.inl (am_in1 127 rfl rfl)⟩
set_option maxRecDepth 100000 in
theorem fsRX2_15 : am_FS RX2 15 2 1 2 := ⟨RX2, TX2, 6, tyX2, cb2, rfl, by decide, Or.inl (am_in1 129 rfl rfl)⟩
set_option maxRecDepth 100000 in
theorem fsRX2_18 : am_FS RX2 18 2 2 2 := ⟨RX2, TX2, 6, tyX2, cb2, rfl, by decide, Or.inl (am_in1 132 rfl rfl)⟩
set_option maxRecDepth 100000 in
theorem fsRX2_21 : am_FS RX2 21 2 3 2 := ⟨RX2, TX2, 6, tyX2, cb2, rfl, by decide, Or.inl (am_in1 135 rfl rfl)⟩
set_option maxRecDepth 100000 in
theorem fsRX2_30 : am_FS RX2 30 2 4 1 := ⟨RX2, TX2, 6, tyX2, cb2, rfl, by decide, Or.inl (am_in1 136 rfl rfl)⟩
set_option maxRecDepth 100000 in
theorem fwRX2_30 : am_FW RX2 30 2 4 1 := ⟨RX2, TX2, 6, tyX2, cb2, rfl, by decide, rfl, Or.inr ⟨rfl, by decide +kernel⟩, Or.inl (am_in1 136 rfl rfl)⟩
set_option maxRecDepth 100000 in
theorem fsRX2_34 : am_FS RX2 34 2 5 1 := ⟨RX2, TX2, 6, tyX2, cb2, rfl, by decide, Or.inl (am_in1 138 rfl rfl)⟩
set_option maxRecDepth 100000 in
theorem fwRX2_34 : am_FW RX2 34 2 5 1 := ⟨RX2, TX2, 6, tyX2, cb2, rfl, by decide, rfl, Or.inr ⟨rfl, by decide +kernel⟩, Or.inl (am_in1 138 rfl rfl)⟩
set_option maxRecDepth 100000 in
theorem fsRX3_9 : am_FS RX3 9 3 0 2 := ⟨RX3, TX3, 8, tyX3, cb3, rfl, by decide, Or.inl (am_in2 108 rfl rfl)⟩
set_option maxRecDepth 100000 in
theorem fsRX3_15 : am_FS RX3 15 3 1 2 := ⟨RX3, TX3, 8, tyX3, cb3, rfl, by decide, Or.inl (am_in2 109 rfl rfl)⟩
set_option maxRecDepth 100000 in
theorem fsRX3_24 : am_FS RX3 24 3 2 0 := ⟨RX3, TX3, 8, tyX3, cb3, rfl, by decide, Or.inl (am_in2 110 rfl rfl)⟩
set_option maxRecDepth 100000 in
theorem fwRX3_24 : am_FW RX3 24 3 2 0 := ⟨RX3, TX3, 8, tyX3, cb3, rfl, by decide, rfl, Or.inl ⟨rfl, by decide +kernel⟩, Or.inl (am_in2 110 rfl rfl)⟩
set_option maxRecDepth 100000 in
theorem fsRX3_34 : am_FS RX3 34 3 3 0 := ⟨RX3, TX3, 8, tyX3, cb3, rfl, by decide, Or.inl (am_in2 111 rfl rfl)⟩
set_option maxRecDepth 100000 in
theorem fwRX3_34 : am_FW RX3 34 3 3 0 := ⟨RX3, TX3, 8, tyX3, cb3, rfl, by decide, rfl, Or.inl ⟨rfl, by decide +kernel⟩, Or.inl (am_in2 111 rfl rfl)⟩
set_option maxRecDepth 100000 in
theorem fsRX3_37 : am_FS RX3 37 3 4 0 := ⟨RX3, TX3, 8, tyX3, cb3, rfl, by decide, Or.inl (am_in2 113 rfl rfl)⟩
set_option maxRecDepth 100000 in
theorem fwRX3_37 : am_FW RX3 37 3 4 0 := ⟨RX3, TX3, 8, tyX3, cb3, rfl, by decide, rfl, Or.inl ⟨rfl, by decide +kernel⟩, Or.inl (am_in2 113 rfl rfl)⟩
set_option maxRecDepth 100000 in
theorem fsRX3_40 : am_FS RX3 40 3 5 0 := ⟨RX3, TX3, 8, tyX3, cb3, rfl, by decide, Or.inl (am_in2 114 rfl rfl)⟩
set_option maxRecDepth 100000 in
theorem fwRX3_40 : am_FW RX3 40 3 5 0 := ⟨RX3, TX3, 8, tyX3, cb3, rfl, by decide, rfl, Or.inl ⟨rfl, by decide +kernel⟩, Or.inl (am_in2 114 rfl rfl)⟩
set_option maxRecDepth 100000 in
theorem fsRX3_51 : am_FS RX3 51 3 7 0 := ⟨RX3, TX3, 8, tyX3, cb3, rfl, by decide, Or.inl (am_in2 118 rfl rfl)⟩
set_option maxRecDepth 100000 in
theorem fwRX3_51 : am_FW RX3 51 3 7 0 := ⟨RX3, TX3, 8, tyX3, cb3, rfl, by decide, rfl, Or.inl ⟨rfl, by decide +kernel⟩, Or.inl (am_in2 118 rfl rfl)⟩
set_option maxRecDepth 100000 in
theorem fsRX3_54 : am_FS RX3 54 3 6 0 := ⟨RX3, TX3, 8, tyX3, cb3, rfl, by decide, Or.inl (am_in2 116 rfl rfl)⟩
set_option maxRecDepth 100000 in
theorem fwRX3_54 : am_FW RX3 54 3 6 0 := ⟨RX3, TX3, 8, tyX3, cb3, rfl, by decide, rfl, Or.inl ⟨rfl, by decide +kernel⟩, Or.inl (am_in2 116 rfl rfl)⟩
set_option maxRecDepth 100000 in
theorem fsRX5_9 : am_FS RX5 9 4 0 2 := ⟨RX5, TX5, 5, tyX5, cb4, rfl, by decide, Or.inl (am_in1 99 rfl rfl)⟩
set_option maxRecDepth 100000 in
theorem fsRX5_15 : am_FS RX5 15 4 1 2 := ⟨RX5, TX5, 5, tyX5, cb4, rfl, by decide, Or.inl (am_in1 100 rfl rfl)⟩
set_option maxRecDepth 100000 in
theorem fsRX5_18 : am_FS RX5 18 4 2 2 := ⟨RX5, TX5, 5, tyX5, cb4, rfl, by decide, Or.inl (am_in1 101 rfl rfl)⟩
set_option maxRecDepth 100000 in
theorem fsRX5_21 : am_FS RX5 21 4 3 2 := ⟨RX5, TX5, 5, tyX5, cb4, rfl, by decide, Or.inl (am_in1 102 rfl rfl)⟩
set_option maxRecDepth 100000 in
theorem fsRX5_42 : am_FS RX5 42 1 5 2 := ⟨RX1, TX1, 6, tyX1, cb1, rfl, by decide, Or.inr ⟨"PloughField", am_inN1 217 rfl rfl⟩⟩
set_option maxRecDepth 100000 in
theorem fsRX5_52 : am_FS RX5 52 2 2 2 := ⟨RX2, TX2, 6, tyX2, cb2, rfl, by decide, Or.inr ⟨"PloughField", am_inN1 133 rfl rfl⟩⟩
set_option maxRecDepth 100000 in
theorem fsRX5_55 : am_FS RX5 55 1 1 2 := ⟨RX1, TX1, 6, tyX1, cb1, rfl, by decide, Or.inr ⟨"PloughField", am_inN1 208 rfl rfl⟩⟩
set_option maxRecDepth 100000 in
theorem fsRX5_62 : am_FS RX5 62 4 4 0 := ⟨RX5, TX5, 5, tyX5, cb4, rfl, by decide, Or.inl (am_in1 103 rfl rfl)⟩
set_option maxRecDepth 100000 in
theorem fwRX5_62 : am_FW RX5 62 4 4 0 := ⟨RX5, TX5, 5, tyX5, cb4, rfl, by decide, rfl, Or.inl ⟨rfl, by decide +kernel⟩, Or.inl (am_in1 103 rfl rfl)⟩
set_option maxRecDepth 100000 in
theorem fsRX6_9 : am_FS RX6 9 5 1 2 := ⟨RX6, TX6, 11, tyX6, cb5, rfl, by decide, Or.inl (am_in1 160 rfl rfl)⟩
set_option maxRecDepth 100000 in
theorem fsRX6_15 : am_FS RX6 15 5 2 2 := ⟨RX6, TX6, 11, tyX6, cb5, rfl, by decide, Or.inl (am_in1 162 rfl rfl)⟩
set_option maxRecDepth 100000 in
theorem fsRX6_18 : am_FS RX6 18 5 3 2 := ⟨RX6, TX6, 11, tyX6, cb5, rfl, by decide, Or.inl (am_in1 164 rfl rfl)⟩
set_option maxRecDepth 100000 in
theorem fsRX6_21 : am_FS RX6 21 5 4 2 := ⟨RX6, TX6, 11, tyX6, cb5, rfl, by decide, Or.inl (am_in1 166 rfl rfl)⟩
set_option maxRecDepth 100000 in
theorem fsRX6_24 : am_FS RX6 24 5 5 2 := ⟨RX6, TX6, 11, tyX6, cb5, rfl, by decide, Or.inl (am_in1 167 rfl rfl)⟩
set_option maxRecDepth 100000 in
theorem fsRX6_27 : am_FS RX6 27 5 6 2 := ⟨RX6, TX6, 11, tyX6, cb5, rfl, by decide, Or.inl (am_in1 169 rfl rfl)⟩
set_option maxRecDepth 100000 in
theorem fsRX6_30 : am_FS RX6 30 5 7 2 := ⟨RX6, TX6, 11, tyX6, cb5, rfl, by decide, Or.inl (am_in1 170 rfl rfl)⟩
set_option maxRecDepth 100000 in
theorem fsRX6_34 : am_FS RX6 34 5 0 2 := ⟨RX6, TX6, 11, tyX6, cb5, rfl, by decide, Or.inl (am_in1 159 rfl rfl)⟩
set_option maxRecDepth 100000 in
theorem fsRX6_44 : am_FS RX6 44 5 8 1 := ⟨RX6, TX6, 11, tyX6, cb5, rfl, by decide, Or.inl (am_in1 171 rfl rfl)⟩
set_option maxRecDepth 100000 in
theorem fwRX6_44 : am_FW RX6 44 5 8 1 := ⟨RX6, TX6, 11, tyX6, cb5, rfl, by decide, rfl, Or.inr ⟨rfl, by decide +kernel⟩, Or.inl (am_in1 171 rfl rfl)⟩
set_option maxRecDepth 100000 in
theorem fsRX6_48 : am_FS RX6 48 5 9 1 := ⟨RX6, TX6, 11, tyX6, cb5, rfl, by decide, Or.inl (am_in1 173 rfl rfl)⟩
set_option maxRecDepth 100000 in
theorem fwRX6_48 : am_FW RX6 48 5 9 1 := ⟨RX6, TX6, 11, tyX6, cb5, rfl, by decide, rfl, Or.inr ⟨rfl, by decide +kernel⟩, Or.inl (am_in1 173 rfl rfl)⟩
set_option maxRecDepth 100000 in
theorem fsRX6_51 : am_FS RX6 51 5 10 0 := ⟨RX6, TX6, 11, tyX6, cb5, rfl, by decide, Or.inl (am_in1 175 rfl rfl)⟩
set_option maxRecDepth 100000 in
theorem fwRX6_51 : am_FW RX6 51 5 10 0 := ⟨RX6, TX6, 11, tyX6, cb5, rfl, by decide, rfl, Or.inl ⟨rfl, by decide +kernel⟩, Or.inl (am_in1 175 rfl rfl)⟩
set_option maxRecDepth 100000 in
theorem fsRX6_66 : am_FS RX6 66 0 4 2 := ⟨RX0, TX0, 6, tyX0, cb0, rfl, by decide, Or.inr ⟨"PloughField", am_inN1 75 rfl rfl⟩⟩
set_option maxRecDepth 100000 in
theorem fsRX6_97 : am_FS RX6 97 2 1 2 := ⟨RX2, TX2, 6, tyX2, cb2, rfl, by decide, Or.inr ⟨"PloughField", am_inN1 130 rfl rfl⟩⟩
set_option maxRecDepth 100000 in
theorem fsRX6_113 : am_FS RX6 113 0 5 2 := ⟨RX0, TX0, 6, tyX0, cb0, rfl, by decide, Or.inr ⟨"PloughField", am_inN1 79 rfl rfl⟩⟩
set_option maxRecDepth 100000 in
theorem fsRX7_11 : am_FS RX7 11 6 0 2 := ⟨RX7, TX7, 9, tyX7, cb6, rfl, by decide, Or.inl (am_in2 70 rfl rfl)⟩
set_option maxRecDepth 100000 in
theorem fsRX7_15 : am_FS RX7 15 6 1 2 := ⟨RX7, TX7, 9, tyX7, cb6, rfl, by decide, Or.inl (am_in2 71 rfl rfl)⟩
set_option maxRecDepth 100000 in
theorem fsRX7_18 : am_FS RX7 18 6 2 2 := ⟨RX7, TX7, 9, tyX7, cb6, rfl, by decide, Or.inl (am_in2 72 rfl rfl)⟩
set_option maxRecDepth 100000 in
theorem fsRX7_21 : am_FS RX7 21 6 3 2 := ⟨RX7, TX7, 9, tyX7, cb6, rfl, by decide, Or.inl (am_in2 73 rfl rfl)⟩
set_option maxRecDepth 100000 in
theorem fsRX7_24 : am_FS RX7 24 6 4 0 := ⟨RX7, TX7, 9, tyX7, cb6, rfl, by decide, Or.inl (am_in2 75 rfl rfl)⟩
set_option maxRecDepth 100000 in
theorem fwRX7_24 : am_FW RX7 24 6 4 0 := ⟨RX7, TX7, 9, tyX7, cb6, rfl, by decide, rfl, Or.inl ⟨rfl, by decide +kernel⟩, Or.inl (am_in2 75 rfl rfl)⟩
set_option maxRecDepth 100000 in
theorem fsRX7_38 : am_FS RX7 38 6 6 0 := ⟨RX7, TX7, 9, tyX7, cb6, rfl, by decide, Or.inl (am_in2 78 rfl rfl)⟩
set_option maxRecDepth 100000 in
theorem fwRX7_38 : am_FW RX7 38 6 6 0 := ⟨RX7, TX7, 9, tyX7, cb6, rfl, by decide, rfl, Or.inl ⟨rfl, by decide +kernel⟩, Or.inl (am_in2 78 rfl rfl)⟩
set_option maxRecDepth 100000 in
theorem fsRX7_41 : am_FS RX7 41 6 7 0 := ⟨RX7, TX7, 9, tyX7, cb6, rfl, by decide, Or.inl (am_in2 79 rfl rfl)⟩
set_option maxRecDepth 100000 in
theorem fwRX7_41 : am_FW RX7 41 6 7 0 := ⟨RX7, TX7, 9, tyX7, cb6, rfl, by decide, rfl, Or.inl ⟨rfl, by decide +kernel⟩, Or.inl (am_in2 79 rfl rfl)⟩
set_option maxRecDepth 100000 in
theorem fsRX7_44 : am_FS RX7 44 6 8 0 := ⟨RX7, TX7, 9, tyX7, cb6, rfl, by decide, Or.inl (am_in2 81 rfl rfl)⟩
set_option maxRecDepth 100000 in
theorem fwRX7_44 : am_FW RX7 44 6 8 0 := ⟨RX7, TX7, 9, tyX7, cb6, rfl, by decide, rfl, Or.inl ⟨rfl, by decide +kernel⟩, Or.inl (am_in2 81 rfl rfl)⟩
set_option maxRecDepth 100000 in
theorem fsRX7_58 : am_FS RX7 58 6 5 0 := ⟨RX7, TX7, 9, tyX7, cb6, rfl, by decide, Or.inl (am_in2 77 rfl rfl)⟩
set_option maxRecDepth 100000 in
theorem fwRX7_58 : am_FW RX7 58 6 5 0 := ⟨RX7, TX7, 9, tyX7, cb6, rfl, by decide, rfl, Or.inl ⟨rfl, by decide +kernel⟩, Or.inl (am_in2 77 rfl rfl)⟩
set_option maxRecDepth 100000 in
theorem fsRX8_14 : am_FS RX8 14 7 0 2 := ⟨RX8, TX8, 1, tyX8, cb7, rfl, by decide, Or.inl (am_in2 145 rfl rfl)⟩
set_option maxRecDepth 100000 in
theorem fsRX8_38 : am_FS RX8 38 8 3 0 := ⟨RX9, TX9, 4, tyX9, cb8, rfl, by decide, Or.inr ⟨"PloughField", am_inN1 50 rfl rfl⟩⟩
set_option maxRecDepth 100000 in
theorem fwRX8_38 : am_FW RX8 38 8 3 0 := ⟨RX9, TX9, 4, tyX9, cb8, rfl, by decide, rfl, Or.inl ⟨rfl, by decide +kernel⟩, Or.inr ⟨"PloughField", am_inN1 50 rfl rfl⟩⟩
set_option maxRecDepth 100000 in
theorem fsRX9_7 : am_FS RX9 7 8 2 0 := ⟨RX9, TX9, 4, tyX9, cb8, rfl, by decide, Or.inl (am_in1 46 rfl rfl)⟩
set_option maxRecDepth 100000 in
theorem fsRX9_13 : am_FS RX9 13 8 1 0 := ⟨RX9, TX9, 4, tyX9, cb8, rfl, by decide, Or.inl (am_in1 45 rfl rfl)⟩
set_option maxRecDepth 100000 in
theorem fsRX9_16 : am_FS RX9 16 8 0 2 := ⟨RX9, TX9, 4, tyX9, cb8, rfl, by decide, Or.inl (am_in1 44 rfl rfl)⟩
set_option maxRecDepth 100000 in
theorem fsRX9_20 : am_FS RX9 20 8 3 0 := ⟨RX9, TX9, 4, tyX9, cb8, rfl, by decide, Or.inl (am_in1 47 rfl rfl)⟩
set_option maxRecDepth 100000 in
theorem fwRX9_20 : am_FW RX9 20 8 3 0 := ⟨RX9, TX9, 4, tyX9, cb8, rfl, by decide, rfl, Or.inl ⟨rfl, by decide +kernel⟩, Or.inl (am_in1 47 rfl rfl)⟩
set_option maxRecDepth 100000 in
theorem mbJ0_charAt_5068e : am_MB mJ0_charAt_5068e 1 := ⟨by decide +kernel, am_in5 116 rfl rfl, am_in1 18 rfl rfl, ⟨by decide, by decide, by decide +kernel⟩, by decide⟩
set_option maxRecDepth 100000 in
theorem mbJ0_coder_7d493 : am_MB mJ0_coder_7d493 0 := ⟨by decide +kernel, am_in5 44 rfl rfl, am_in1 18 rfl rfl, ⟨by decide, by decide, by decide +kernel⟩, by decide⟩
set_option maxRecDepth 100000 in
theorem mbJ0_indexOf_0f7a4 : am_MB mJ0_indexOf_0f7a4 1 := ⟨by decide +kernel, am_in5 26 rfl rfl, am_in1 18 rfl rfl, ⟨by decide, by decide, by decide +kernel⟩, by decide⟩
set_option maxRecDepth 100000 in
theorem mbJ0_indexOf_7cf53 : am_MB mJ0_indexOf_7cf53 2 := ⟨by decide +kernel, am_in5 30 rfl rfl, am_in1 18 rfl rfl, ⟨by decide, by decide, by decide +kernel⟩, by decide⟩
set_option maxRecDepth 100000 in
theorem mbJ0_isLatin1_aae02 : am_MB mJ0_isLatin1_aae02 0 := ⟨by decide +kernel, am_in5 34 rfl rfl, am_in1 18 rfl rfl, ⟨by decide, by decide, by decide +kernel⟩, by decide⟩
set_option maxRecDepth 100000 in
theorem mbJ0_length_8abf5 : am_MB mJ0_length_8abf5 0 := ⟨by decide +kernel, am_in5 40 rfl rfl, am_in1 18 rfl rfl, ⟨by decide, by decide, by decide +kernel⟩, by decide⟩
set_option maxRecDepth 100000 in
theorem mbJ13_bitCount_95d88 : am_MB mJ13_bitCount_95d88 1 := ⟨by decide +kernel, am_in4 115 rfl rfl, am_in1 15 rfl rfl, ⟨by decide, by decide, by decide +kernel⟩, by decide⟩
set_option maxRecDepth 100000 in
theorem mbJ1_canEncode_9a6ad : am_MB mJ1_canEncode_9a6ad 1 := ⟨by decide +kernel, am_in5 50 rfl rfl, am_in1 19 rfl rfl, ⟨by decide, by decide, by decide +kernel⟩, by decide⟩
set_option maxRecDepth 100000 in
theorem mbJ1_charAt_3b067 : am_MB mJ1_charAt_3b067 2 := ⟨by decide +kernel, am_in5 119 rfl rfl, am_in1 19 rfl rfl, ⟨by decide, by decide, by decide +kernel⟩, by decide⟩
set_option maxRecDepth 100000 in
theorem mbJ1_indexOfChar_4cfef : am_MB mJ1_indexOfChar_4cfef 4 := ⟨by decide +kernel, am_in5 57 rfl rfl, am_in1 19 rfl rfl, ⟨by decide, by decide, by decide +kernel⟩, by decide⟩
set_option maxRecDepth 100000 in
theorem mbJ1_indexOf_4cfef : am_MB mJ1_indexOf_4cfef 4 := ⟨by decide +kernel, am_in5 47 rfl rfl, am_in1 19 rfl rfl, ⟨by decide, by decide, by decide +kernel⟩, by decide⟩
set_option maxRecDepth 100000 in
theorem mbJ6_bitCount_0f7a4 : am_MB mJ6_bitCount_0f7a4 1 := ⟨by decide +kernel, am_in4 189 rfl rfl, am_in1 17 rfl rfl, ⟨by decide, by decide, by decide +kernel⟩, by decide⟩
set_option maxRecDepth 100000 in
theorem mbJ7_fill_53178 : am_MB mJ7_fill_53178 2 := ⟨by decide +kernel, am_in2 1 rfl rfl, am_in1 9 rfl rfl, ⟨by decide, by decide, by decide +kernel⟩, by decide⟩
set_option maxRecDepth 100000 in
theorem mbJ7_fill_d0a16 : am_MB mJ7_fill_d0a16 2 := ⟨by decide +kernel, am_in2 14 rfl rfl, am_in1 9 rfl rfl, ⟨by decide, by decide, by decide +kernel⟩, by decide⟩
set_option maxRecDepth 100000 in
theorem mbJ9_abs_0f7a4 : am_MB mJ9_abs_0f7a4 1 := ⟨by decide +kernel, am_in4 17 rfl rfl, am_in1 14 rfl rfl, ⟨by decide, by decide, by decide +kernel⟩, by decide⟩
set_option maxRecDepth 100000 in
theorem mbJ9_max_7cf53 : am_MB mJ9_max_7cf53 2 := ⟨by decide +kernel, am_in5 53 rfl rfl, am_in1 14 rfl rfl, ⟨by decide, by decide, by decide +kernel⟩, by decide⟩
set_option maxRecDepth 100000 in
theorem mbJ9_max_f86c9 : am_MB mJ9_max_f86c9 2 := ⟨by decide +kernel, am_in6 1 rfl rfl, am_in1 14 rfl rfl, ⟨by decide, by decide, by decide +kernel⟩, by decide⟩
set_option maxRecDepth 100000 in
theorem mbJ9_min_7cf53 : am_MB mJ9_min_7cf53 2 := ⟨by decide +kernel, am_in3 208 rfl rfl, am_in1 14 rfl rfl, ⟨by decide, by decide, by decide +kernel⟩, by decide⟩
set_option maxRecDepth 100000 in
theorem mbJ9_min_f86c9 : am_MB mJ9_min_f86c9 2 := ⟨by decide +kernel, am_in5 238 rfl rfl, am_in1 14 rfl rfl, ⟨by decide, by decide, by decide +kernel⟩, by decide⟩
set_option maxRecDepth 100000 in
theorem mbX0_fallingAt : am_MB mX0_fallingAt 2 := ⟨by decide, am_in3 142 rfl rfl, am_in1 2 rfl rfl, ⟨by decide, by decide, by decide +kernel⟩, by decide⟩
set_option maxRecDepth 100000 in
theorem mbX0_hasRoom : am_MB mX0_hasRoom 1 := ⟨by decide, am_in3 64 rfl rfl, am_in1 2 rfl rfl, ⟨by decide, by decide, by decide +kernel⟩, by decide⟩
set_option maxRecDepth 100000 in
theorem mbX0_hoursToRain : am_MB mX0_hoursToRain 1 := ⟨by decide, am_in5 209 rfl rfl, am_in1 2 rfl rfl, ⟨by decide, by decide, by decide +kernel⟩, by decide⟩
set_option maxRecDepth 100000 in
theorem mbX10_adjust : am_MB mX10_adjust 2 := ⟨by decide, am_in2 228 rfl rfl, am_in1 5 rfl rfl, ⟨by decide, by decide, by decide +kernel⟩, by decide⟩
set_option maxRecDepth 100000 in
theorem mbX10_begin : am_MB mX10_begin 2 := ⟨by decide, am_in1 234 rfl rfl, am_in1 5 rfl rfl, ⟨by decide, by decide, by decide +kernel⟩, by decide⟩
set_option maxRecDepth 100000 in
theorem mbX10_bringCart : am_MB mX10_bringCart 1 := ⟨by decide, am_in2 233 rfl rfl, am_in1 5 rfl rfl, ⟨by decide, by decide, by decide +kernel⟩, by decide⟩
set_option maxRecDepth 100000 in
theorem mbX10_cheapest : am_MB mX10_cheapest 2 := ⟨by decide, am_in3 212 rfl rfl, am_in1 5 rfl rfl, ⟨by decide, by decide, by decide +kernel⟩, by decide⟩
set_option maxRecDepth 100000 in
theorem mbX10_doWork : am_MB mX10_doWork 2 := ⟨by decide, am_in4 21 rfl rfl, am_in1 5 rfl rfl, ⟨by decide, by decide, by decide +kernel⟩, by decide⟩
set_option maxRecDepth 100000 in
theorem mbX10_doerOfWork : am_MB mX10_doerOfWork 1 := ⟨by decide, am_in4 132 rfl rfl, am_in1 5 rfl rfl, ⟨by decide, by decide, by decide +kernel⟩, by decide⟩
set_option maxRecDepth 100000 in
theorem mbX10_factOfCell : am_MB mX10_factOfCell 2 := ⟨by decide, am_in4 88 rfl rfl, am_in1 5 rfl rfl, ⟨by decide, by decide, by decide +kernel⟩, by decide⟩
set_option maxRecDepth 100000 in
theorem mbX10_gatherFacts : am_MB mX10_gatherFacts 2 := ⟨by decide, am_in5 205 rfl rfl, am_in1 5 rfl rfl, ⟨by decide, by decide, by decide +kernel⟩, by decide⟩
set_option maxRecDepth 100000 in
theorem mbX10_goalOf : am_MB mX10_goalOf 2 := ⟨by decide, am_in3 216 rfl rfl, am_in1 5 rfl rfl, ⟨by decide, by decide, by decide +kernel⟩, by decide⟩
set_option maxRecDepth 100000 in
theorem mbX10_hear : am_MB mX10_hear 1 := ⟨by decide, am_in2 219 rfl rfl, am_in1 5 rfl rfl, ⟨by decide, by decide, by decide +kernel⟩, by decide⟩
set_option maxRecDepth 100000 in
theorem mbX10_hearTold : am_MB mX10_hearTold 0 := ⟨by decide, am_in2 211 rfl rfl, am_in1 5 rfl rfl, ⟨by decide, by decide, by decide +kernel⟩, by decide⟩
set_option maxRecDepth 100000 in
theorem mbX10_isAtWork : am_MB mX10_isAtWork 2 := ⟨by decide, am_in4 11 rfl rfl, am_in1 5 rfl rfl, ⟨by decide, by decide, by decide +kernel⟩, by decide⟩
set_option maxRecDepth 100000 in
theorem mbX10_leaveWork : am_MB mX10_leaveWork 2 := ⟨by decide, am_in4 50 rfl rfl, am_in1 5 rfl rfl, ⟨by decide, by decide, by decide +kernel⟩, by decide⟩
set_option maxRecDepth 100000 in
theorem mbX10_leavesOut : am_MB mX10_leavesOut 2 := ⟨by decide, am_in2 237 rfl rfl, am_in1 5 rfl rfl, ⟨by decide, by decide, by decide +kernel⟩, by decide⟩
set_option maxRecDepth 100000 in
theorem mbX10_makeOffers : am_MB mX10_makeOffers 0 := ⟨by decide, am_in3 167 rfl rfl, am_in1 5 rfl rfl, ⟨by decide, by decide, by decide +kernel⟩, by decide⟩
set_option maxRecDepth 100000 in
theorem mbX10_move : am_MB mX10_move 1 := ⟨by decide, am_in4 41 rfl rfl, am_in1 5 rfl rfl, ⟨by decide, by decide, by decide +kernel⟩, by decide⟩
set_option maxRecDepth 100000 in
theorem mbX10_ofKind : am_MB mX10_ofKind 1 := ⟨by decide, am_in3 183 rfl rfl, am_in1 5 rfl rfl, ⟨by decide, by decide, by decide +kernel⟩, by decide⟩
set_option maxRecDepth 100000 in
theorem mbX10_openWork : am_MB mX10_openWork 1 := ⟨by decide, am_in3 17 rfl rfl, am_in1 5 rfl rfl, ⟨by decide, by decide, by decide +kernel⟩, by decide⟩
set_option maxRecDepth 100000 in
theorem mbX10_passHour : am_MB mX10_passHour 0 := ⟨by decide, am_in3 138 rfl rfl, am_in1 5 rfl rfl, ⟨by decide, by decide, by decide +kernel⟩, by decide⟩
set_option maxRecDepth 100000 in
theorem mbX10_playTo : am_MB mX10_playTo 1 := ⟨by decide, am_in3 133 rfl rfl, am_in1 5 rfl rfl, ⟨by decide, by decide, by decide +kernel⟩, by decide⟩
set_option maxRecDepth 100000 in
theorem mbX10_stateOfWork : am_MB mX10_stateOfWork 1 := ⟨by decide, am_in4 128 rfl rfl, am_in1 5 rfl rfl, ⟨by decide, by decide, by decide +kernel⟩, by decide⟩
set_option maxRecDepth 100000 in
theorem mbX10_takeOn : am_MB mX10_takeOn 2 := ⟨by decide, am_in3 237 rfl rfl, am_in1 5 rfl rfl, ⟨by decide, by decide, by decide +kernel⟩, by decide⟩
set_option maxRecDepth 100000 in
theorem mbX10_takeTurn : am_MB mX10_takeTurn 1 := ⟨by decide, am_in4 1 rfl rfl, am_in1 5 rfl rfl, ⟨by decide, by decide, by decide +kernel⟩, by decide⟩
set_option maxRecDepth 100000 in
theorem mbX10_worksThatAre : am_MB mX10_worksThatAre 1 := ⟨by decide, am_in6 25 rfl rfl, am_in1 5 rfl rfl, ⟨by decide, by decide, by decide +kernel⟩, by decide⟩
set_option maxRecDepth 100000 in
theorem mbX11_act : am_MB mX11_act 2 := ⟨by decide, am_in5 197 rfl rfl, am_in1 1 rfl rfl, ⟨by decide, by decide, by decide +kernel⟩, by decide⟩
set_option maxRecDepth 100000 in
theorem mbX11_addWork : am_MB mX11_addWork 3 := ⟨by decide, am_in3 90 rfl rfl, am_in1 1 rfl rfl, ⟨by decide, by decide, by decide +kernel⟩, by decide⟩
set_option maxRecDepth 100000 in
theorem mbX11_again : am_MB mX11_again 4 := ⟨by decide, am_in6 11 rfl rfl, am_in1 1 rfl rfl, ⟨by decide, by decide, by decide +kernel⟩, by decide⟩
set_option maxRecDepth 100000 in
theorem mbX11_areMarks : am_MB mX11_areMarks 1 := ⟨by decide, am_in3 113 rfl rfl, am_in1 1 rfl rfl, ⟨by decide, by decide, by decide +kernel⟩, by decide⟩
set_option maxRecDepth 100000 in
theorem mbX11_beside : am_MB mX11_beside 2 := ⟨by decide, am_in3 159 rfl rfl, am_in1 1 rfl rfl, ⟨by decide, by decide, by decide +kernel⟩, by decide⟩
set_option maxRecDepth 100000 in
theorem mbX11_better : am_MB mX11_better 1 := ⟨by decide, am_in4 200 rfl rfl, am_in1 1 rfl rfl, ⟨by decide, by decide, by decide +kernel⟩, by decide⟩
set_option maxRecDepth 100000 in
theorem mbX11_bit : am_MB mX11_bit 1 := ⟨by decide, am_in3 29 rfl rfl, am_in1 1 rfl rfl, ⟨by decide, by decide, by decide +kernel⟩, by decide⟩
set_option maxRecDepth 100000 in
theorem mbX11_canLeaveOut : am_MB mX11_canLeaveOut 2 := ⟨by decide, am_in6 15 rfl rfl, am_in1 1 rfl rfl, ⟨by decide, by decide, by decide +kernel⟩, by decide⟩
set_option maxRecDepth 100000 in
theorem mbX11_cart : am_MB mX11_cart 5 := ⟨by decide, am_in3 73 rfl rfl, am_in1 1 rfl rfl, ⟨by decide, by decide, by decide +kernel⟩, by decide⟩
set_option maxRecDepth 100000 in
theorem mbX11_cell : am_MB mX11_cell 2 := ⟨by decide, am_in4 84 rfl rfl, am_in1 1 rfl rfl, ⟨by decide, by decide, by decide +kernel⟩, by decide⟩
set_option maxRecDepth 100000 in
theorem mbX11_charge : am_MB mX11_charge 1 := ⟨by decide, am_in3 77 rfl rfl, am_in1 1 rfl rfl, ⟨by decide, by decide, by decide +kernel⟩, by decide⟩
set_option maxRecDepth 100000 in
theorem mbX11_count : am_MB mX11_count 1 := ⟨by decide, am_in6 21 rfl rfl, am_in1 1 rfl rfl, ⟨by decide, by decide, by decide +kernel⟩, by decide⟩
set_option maxRecDepth 100000 in
theorem mbX11_far : am_MB mX11_far 2 := ⟨by decide, am_in4 14 rfl rfl, am_in1 1 rfl rfl, ⟨by decide, by decide, by decide +kernel⟩, by decide⟩
set_option maxRecDepth 100000 in
theorem mbX11_fault : am_MB mX11_fault 0 := ⟨by decide, am_in5 193 rfl rfl, am_in1 1 rfl rfl, ⟨by decide, by decide, by decide +kernel⟩, by decide⟩
set_option maxRecDepth 100000 in
theorem mbX11_feed : am_MB mX11_feed 5 := ⟨by decide, am_in4 233 rfl rfl, am_in1 1 rfl rfl, ⟨by decide, by decide, by decide +kernel⟩, by decide⟩
set_option maxRecDepth 100000 in
theorem mbX11_findsAct : am_MB mX11_findsAct 1 := ⟨by decide, am_in5 201 rfl rfl, am_in1 1 rfl rfl, ⟨by decide, by decide, by decide +kernel⟩, by decide⟩
set_option maxRecDepth 100000 in
theorem mbX11_ill : am_MB mX11_ill 2 := ⟨by decide, am_in3 121 rfl rfl, am_in1 1 rfl rfl, ⟨by decide, by decide, by decide +kernel⟩, by decide⟩
set_option maxRecDepth 100000 in
theorem mbX11_isCell : am_MB mX11_isCell 1 := ⟨by decide, am_in2 187 rfl rfl, am_in1 1 rfl rfl, ⟨by decide, by decide, by decide +kernel⟩, by decide⟩
set_option maxRecDepth 100000 in
theorem mbX11_isOdds : am_MB mX11_isOdds 1 := ⟨by decide, am_in3 101 rfl rfl, am_in1 1 rfl rfl, ⟨by decide, by decide, by decide +kernel⟩, by decide⟩
set_option maxRecDepth 100000 in
theorem mbX11_isSetting : am_MB mX11_isSetting 2 := ⟨by decide, am_in3 56 rfl rfl, am_in1 1 rfl rfl, ⟨by decide, by decide, by decide +kernel⟩, by decide⟩
set_option maxRecDepth 100000 in
theorem mbX11_job : am_MB mX11_job 2 := ⟨by decide, am_in4 123 rfl rfl, am_in1 1 rfl rfl, ⟨by decide, by decide, by decide +kernel⟩, by decide⟩
set_option maxRecDepth 100000 in
theorem mbX11_kind : am_MB mX11_kind 6 := ⟨by decide, am_in3 98 rfl rfl, am_in1 1 rfl rfl, ⟨by decide, by decide, by decide +kernel⟩, by decide⟩
set_option maxRecDepth 100000 in
theorem mbX11_land : am_MB mX11_land 3 := ⟨by decide, am_in2 184 rfl rfl, am_in1 1 rfl rfl, ⟨by decide, by decide, by decide +kernel⟩, by decide⟩
set_option maxRecDepth 100000 in
theorem mbX11_look : am_MB mX11_look 2 := ⟨by decide, am_in3 117 rfl rfl, am_in1 1 rfl rfl, ⟨by decide, by decide, by decide +kernel⟩, by decide⟩
set_option maxRecDepth 100000 in
theorem mbX11_lot : am_MB mX11_lot 1 := ⟨by decide, am_in3 94 rfl rfl, am_in1 1 rfl rfl, ⟨by decide, by decide, by decide +kernel⟩, by decide⟩
set_option maxRecDepth 100000 in
theorem mbX11_pass : am_MB mX11_pass 1 := ⟨by decide, am_in3 129 rfl rfl, am_in1 1 rfl rfl, ⟨by decide, by decide, by decide +kernel⟩, by decide⟩
set_option maxRecDepth 100000 in
theorem mbX11_plan : am_MB mX11_plan 1 := ⟨by decide, am_in6 5 rfl rfl, am_in1 1 rfl rfl, ⟨by decide, by decide, by decide +kernel⟩, by decide⟩
set_option maxRecDepth 100000 in
theorem mbX11_plant : am_MB mX11_plant 1 := ⟨by decide, am_in3 105 rfl rfl, am_in1 1 rfl rfl, ⟨by decide, by decide, by decide +kernel⟩, by decide⟩
set_option maxRecDepth 100000 in
theorem mbX11_pull : am_MB mX11_pull 3 := ⟨by decide, am_in4 174 rfl rfl, am_in1 1 rfl rfl, ⟨by decide, by decide, by decide +kernel⟩, by decide⟩
set_option maxRecDepth 100000 in
theorem mbX11_rain : am_MB mX11_rain 3 := ⟨by decide, am_in3 60 rfl rfl, am_in1 1 rfl rfl, ⟨by decide, by decide, by decide +kernel⟩, by decide⟩
set_option maxRecDepth 100000 in
theorem mbX11_rules : am_MB mX11_rules 1 := ⟨by decide, am_in5 5 rfl rfl, am_in1 1 rfl rfl, ⟨by decide, by decide, by decide +kernel⟩, by decide⟩
set_option maxRecDepth 100000 in
theorem mbX11_set : am_MB mX11_set 2 := ⟨by decide, am_in3 53 rfl rfl, am_in1 1 rfl rfl, ⟨by decide, by decide, by decide +kernel⟩, by decide⟩
set_option maxRecDepth 100000 in
theorem mbX11_share : am_MB mX11_share 2 := ⟨by decide, am_in4 103 rfl rfl, am_in1 1 rfl rfl, ⟨by decide, by decide, by decide +kernel⟩, by decide⟩
set_option maxRecDepth 100000 in
theorem mbX11_show : am_MB mX11_show 2 := ⟨by decide, am_in3 110 rfl rfl, am_in1 1 rfl rfl, ⟨by decide, by decide, by decide +kernel⟩, by decide⟩
set_option maxRecDepth 100000 in
theorem mbX11_spot : am_MB mX11_spot 2 := ⟨by decide, am_in4 157 rfl rfl, am_in1 1 rfl rfl, ⟨by decide, by decide, by decide +kernel⟩, by decide⟩
set_option maxRecDepth 100000 in
theorem mbX11_strip : am_MB mX11_strip 2 := ⟨by decide, am_in4 196 rfl rfl, am_in1 1 rfl rfl, ⟨by decide, by decide, by decide +kernel⟩, by decide⟩
set_option maxRecDepth 100000 in
theorem mbX11_tell : am_MB mX11_tell 4 := ⟨by decide, am_in2 194 rfl rfl, am_in1 1 rfl rfl, ⟨by decide, by decide, by decide +kernel⟩, by decide⟩
set_option maxRecDepth 100000 in
theorem mbX11_tellNewest : am_MB mX11_tellNewest 2 := ⟨by decide, am_in3 69 rfl rfl, am_in1 1 rfl rfl, ⟨by decide, by decide, by decide +kernel⟩, by decide⟩
set_option maxRecDepth 100000 in
theorem mbX11_told : am_MB mX11_told 2 := ⟨by decide, am_in4 108 rfl rfl, am_in1 1 rfl rfl, ⟨by decide, by decide, by decide +kernel⟩, by decide⟩
set_option maxRecDepth 100000 in
theorem mbX11_water : am_MB mX11_water 1 := ⟨by decide, am_in4 148 rfl rfl, am_in1 1 rfl rfl, ⟨by decide, by decide, by decide +kernel⟩, by decide⟩
set_option maxRecDepth 100000 in
theorem mbX11_way : am_MB mX11_way 3 := ⟨by decide, am_in4 136 rfl rfl, am_in1 1 rfl rfl, ⟨by decide, by decide, by decide +kernel⟩, by decide⟩
set_option maxRecDepth 100000 in
theorem mbX11_within : am_MB mX11_within 3 := ⟨by decide, am_in2 190 rfl rfl, am_in1 1 rfl rfl, ⟨by decide, by decide, by decide +kernel⟩, by decide⟩
set_option maxRecDepth 100000 in
theorem mbX11_work : am_MB mX11_work 3 := ⟨by decide, am_in3 86 rfl rfl, am_in1 1 rfl rfl, ⟨by decide, by decide, by decide +kernel⟩, by decide⟩
set_option maxRecDepth 100000 in
theorem mbX12_act : am_MB mX12_act 2 := ⟨by decide, am_in8 134 rfl rfl, am_in1 13 rfl rfl, ⟨by decide, by decide, by decide +kernel⟩, by decide⟩
set_option maxRecDepth 100000 in
theorem mbX12_acts : am_MB mX12_acts 1 := ⟨by decide, am_in7 164 rfl rfl, am_in1 13 rfl rfl, ⟨by decide, by decide, by decide +kernel⟩, by decide⟩
set_option maxRecDepth 100000 in
theorem mbX12_again : am_MB mX12_again 4 := ⟨by decide, am_in8 39 rfl rfl, am_in1 13 rfl rfl, ⟨by decide, by decide, by decide +kernel⟩, by decide⟩
set_option maxRecDepth 100000 in
theorem mbX12_all : am_MB mX12_all 0 := ⟨by decide, am_in8 119 rfl rfl, am_in1 13 rfl rfl, ⟨by decide, by decide, by decide +kernel⟩, by decide⟩
set_option maxRecDepth 100000 in
theorem mbX12_any : am_MB mX12_any 0 := ⟨by decide, am_in8 115 rfl rfl, am_in1 13 rfl rfl, ⟨by decide, by decide, by decide +kernel⟩, by decide⟩
set_option maxRecDepth 100000 in
theorem mbX12_asked : am_MB mX12_asked 1 := ⟨by decide, am_in8 102 rfl rfl, am_in1 13 rfl rfl, ⟨by decide, by decide, by decide +kernel⟩, by decide⟩
set_option maxRecDepth 100000 in
theorem mbX12_atom : am_MB mX12_atom 0 := ⟨by decide, am_in8 83 rfl rfl, am_in1 13 rfl rfl, ⟨by decide, by decide, by decide +kernel⟩, by decide⟩
set_option maxRecDepth 100000 in
theorem mbX12_begins : am_MB mX12_begins 0 := ⟨by decide, am_in6 44 rfl rfl, am_in1 13 rfl rfl, ⟨by decide, by decide, by decide +kernel⟩, by decide⟩
set_option maxRecDepth 100000 in
theorem mbX12_beside : am_MB mX12_beside 2 := ⟨by decide, am_in7 126 rfl rfl, am_in1 13 rfl rfl, ⟨by decide, by decide, by decide +kernel⟩, by decide⟩
set_option maxRecDepth 100000 in
theorem mbX12_better : am_MB mX12_better 1 := ⟨by decide, am_in8 30 rfl rfl, am_in1 13 rfl rfl, ⟨by decide, by decide, by decide +kernel⟩, by decide⟩
set_option maxRecDepth 100000 in
theorem mbX12_bit : am_MB mX12_bit 1 := ⟨by decide, am_in8 158 rfl rfl, am_in1 13 rfl rfl, ⟨by decide, by decide, by decide +kernel⟩, by decide⟩
set_option maxRecDepth 100000 in
theorem mbX12_bits : am_MB mX12_bits 1 := ⟨by decide, am_in8 22 rfl rfl, am_in1 13 rfl rfl, ⟨by decide, by decide, by decide +kernel⟩, by decide⟩
set_option maxRecDepth 100000 in
theorem mbX12_blanks : am_MB mX12_blanks 0 := ⟨by decide, am_in8 55 rfl rfl, am_in1 13 rfl rfl, ⟨by decide, by decide, by decide +kernel⟩, by decide⟩
set_option maxRecDepth 100000 in
theorem mbX12_both : am_MB mX12_both 3 := ⟨by decide, am_in8 150 rfl rfl, am_in1 13 rfl rfl, ⟨by decide, by decide, by decide +kernel⟩, by decide⟩
set_option maxRecDepth 100000 in
theorem mbX12_cart : am_MB mX12_cart 5 := ⟨by decide, am_in7 56 rfl rfl, am_in1 13 rfl rfl, ⟨by decide, by decide, by decide +kernel⟩, by decide⟩
set_option maxRecDepth 100000 in
theorem mbX12_cell : am_MB mX12_cell 2 := ⟨by decide, am_in7 205 rfl rfl, am_in1 13 rfl rfl, ⟨by decide, by decide, by decide +kernel⟩, by decide⟩
set_option maxRecDepth 100000 in
theorem mbX12_cellOf : am_MB mX12_cellOf 2 := ⟨by decide, am_in7 209 rfl rfl, am_in1 13 rfl rfl, ⟨by decide, by decide, by decide +kernel⟩, by decide⟩
set_option maxRecDepth 100000 in
theorem mbX12_charge : am_MB mX12_charge 1 := ⟨by decide, am_in7 60 rfl rfl, am_in1 13 rfl rfl, ⟨by decide, by decide, by decide +kernel⟩, by decide⟩
set_option maxRecDepth 100000 in
theorem mbX12_charged : am_MB mX12_charged 1 := ⟨by decide, am_in7 27 rfl rfl, am_in1 13 rfl rfl, ⟨by decide, by decide, by decide +kernel⟩, by decide⟩
set_option maxRecDepth 100000 in
theorem mbX12_comes : am_MB mX12_comes 1 := ⟨by decide, am_in7 23 rfl rfl, am_in1 13 rfl rfl, ⟨by decide, by decide, by decide +kernel⟩, by decide⟩
set_option maxRecDepth 100000 in
theorem mbX12_count : am_MB mX12_count 1 := ⟨by decide, am_in8 169 rfl rfl, am_in1 13 rfl rfl, ⟨by decide, by decide, by decide +kernel⟩, by decide⟩
set_option maxRecDepth 100000 in
theorem mbX12_dies : am_MB mX12_dies 2 := ⟨by decide, am_in7 181 rfl rfl, am_in1 13 rfl rfl, ⟨by decide, by decide, by decide +kernel⟩, by decide⟩
set_option maxRecDepth 100000 in
theorem mbX12_does : am_MB mX12_does 1 := ⟨by decide, am_in7 19 rfl rfl, am_in1 13 rfl rfl, ⟨by decide, by decide, by decide +kernel⟩, by decide⟩
set_option maxRecDepth 100000 in
theorem mbX12_dries : am_MB mX12_dries 0 := ⟨by decide, am_in7 152 rfl rfl, am_in1 13 rfl rfl, ⟨by decide, by decide, by decide +kernel⟩, by decide⟩
set_option maxRecDepth 100000 in
theorem mbX12_drops : am_MB mX12_drops 1 := ⟨by decide, am_in7 189 rfl rfl, am_in1 13 rfl rfl, ⟨by decide, by decide, by decide +kernel⟩, by decide⟩
set_option maxRecDepth 100000 in
theorem mbX12_ends : am_MB mX12_ends 0 := ⟨by decide, am_in7 197 rfl rfl, am_in1 13 rfl rfl, ⟨by decide, by decide, by decide +kernel⟩, by decide⟩
set_option maxRecDepth 100000 in
theorem mbX12_enters : am_MB mX12_enters 2 := ⟨by decide, am_in7 193 rfl rfl, am_in1 13 rfl rfl, ⟨by decide, by decide, by decide +kernel⟩, by decide⟩
set_option maxRecDepth 100000 in
theorem mbX12_ex : am_MB mX12_ex 0 := ⟨by decide, am_in8 75 rfl rfl, am_in1 13 rfl rfl, ⟨by decide, by decide, by decide +kernel⟩, by decide⟩
set_option maxRecDepth 100000 in
theorem mbX12_far : am_MB mX12_far 2 := ⟨by decide, am_in7 113 rfl rfl, am_in1 13 rfl rfl, ⟨by decide, by decide, by decide +kernel⟩, by decide⟩
set_option maxRecDepth 100000 in
theorem mbX12_fault : am_MB mX12_fault 0 := ⟨by decide, am_in8 130 rfl rfl, am_in1 13 rfl rfl, ⟨by decide, by decide, by decide +kernel⟩, by decide⟩
set_option maxRecDepth 100000 in
theorem mbX12_feed : am_MB mX12_feed 5 := ⟨by decide, am_in8 43 rfl rfl, am_in1 13 rfl rfl, ⟨by decide, by decide, by decide +kernel⟩, by decide⟩
set_option maxRecDepth 100000 in
theorem mbX12_finds : am_MB mX12_finds 0 := ⟨by decide, am_in8 15 rfl rfl, am_in1 13 rfl rfl, ⟨by decide, by decide, by decide +kernel⟩, by decide⟩
set_option maxRecDepth 100000 in
theorem mbX12_flows : am_MB mX12_flows 0 := ⟨by decide, am_in7 148 rfl rfl, am_in1 13 rfl rfl, ⟨by decide, by decide, by decide +kernel⟩, by decide⟩
set_option maxRecDepth 100000 in
theorem mbX12_four : am_MB mX12_four 1 := ⟨by decide, am_in8 47 rfl rfl, am_in1 13 rfl rfl, ⟨by decide, by decide, by decide +kernel⟩, by decide⟩
set_option maxRecDepth 100000 in
theorem mbX12_gives : am_MB mX12_gives 1 := ⟨by decide, am_in7 168 rfl rfl, am_in1 13 rfl rfl, ⟨by decide, by decide, by decide +kernel⟩, by decide⟩
set_option maxRecDepth 100000 in
theorem mbX12_grows : am_MB mX12_grows 1 := ⟨by decide, am_in7 35 rfl rfl, am_in1 13 rfl rfl, ⟨by decide, by decide, by decide +kernel⟩, by decide⟩
set_option maxRecDepth 100000 in
theorem mbX12_has : am_MB mX12_has 1 := ⟨by decide, am_in7 84 rfl rfl, am_in1 13 rfl rfl, ⟨by decide, by decide, by decide +kernel⟩, by decide⟩
set_option maxRecDepth 100000 in
theorem mbX12_heavy : am_MB mX12_heavy 2 := ⟨by decide, am_in7 123 rfl rfl, am_in1 13 rfl rfl, ⟨by decide, by decide, by decide +kernel⟩, by decide⟩
set_option maxRecDepth 100000 in
theorem mbX12_held : am_MB mX12_held 1 := ⟨by decide, am_in8 153 rfl rfl, am_in1 13 rfl rfl, ⟨by decide, by decide, by decide +kernel⟩, by decide⟩
set_option maxRecDepth 100000 in
theorem mbX12_hour : am_MB mX12_hour 0 := ⟨by decide, am_in7 140 rfl rfl, am_in1 13 rfl rfl, ⟨by decide, by decide, by decide +kernel⟩, by decide⟩
set_option maxRecDepth 100000 in
theorem mbX12_ill : am_MB mX12_ill 2 := ⟨by decide, am_in7 96 rfl rfl, am_in1 13 rfl rfl, ⟨by decide, by decide, by decide +kernel⟩, by decide⟩
set_option maxRecDepth 100000 in
theorem mbX12_illMany : am_MB mX12_illMany 0 := ⟨by decide, am_in7 239 rfl rfl, am_in1 13 rfl rfl, ⟨by decide, by decide, by decide +kernel⟩, by decide⟩
set_option maxRecDepth 100000 in
theorem mbX12_isBut : am_MB mX12_isBut 2 := ⟨by decide, am_in7 31 rfl rfl, am_in1 13 rfl rfl, ⟨by decide, by decide, by decide +kernel⟩, by decide⟩
set_option maxRecDepth 100000 in
theorem mbX12_isCart : am_MB mX12_isCart 1 := ⟨by decide, am_in7 64 rfl rfl, am_in1 13 rfl rfl, ⟨by decide, by decide, by decide +kernel⟩, by decide⟩
set_option maxRecDepth 100000 in
theorem mbX12_isCell : am_MB mX12_isCell 1 := ⟨by decide, am_in7 8 rfl rfl, am_in1 13 rfl rfl, ⟨by decide, by decide, by decide +kernel⟩, by decide⟩
set_option maxRecDepth 100000 in
theorem mbX12_isGoal : am_MB mX12_isGoal 3 := ⟨by decide, am_in7 110 rfl rfl, am_in1 13 rfl rfl, ⟨by decide, by decide, by decide +kernel⟩, by decide⟩
set_option maxRecDepth 100000 in
theorem mbX12_isIn : am_MB mX12_isIn 3 := ⟨by decide, am_in7 11 rfl rfl, am_in1 13 rfl rfl, ⟨by decide, by decide, by decide +kernel⟩, by decide⟩
set_option maxRecDepth 100000 in
theorem mbX12_isSet : am_MB mX12_isSet 2 := ⟨by decide, am_in7 48 rfl rfl, am_in1 13 rfl rfl, ⟨by decide, by decide, by decide +kernel⟩, by decide⟩
set_option maxRecDepth 100000 in
theorem mbX12_isSpot : am_MB mX12_isSpot 2 := ⟨by decide, am_in8 3 rfl rfl, am_in1 13 rfl rfl, ⟨by decide, by decide, by decide +kernel⟩, by decide⟩
set_option maxRecDepth 100000 in
theorem mbX12_job : am_MB mX12_job 2 := ⟨by decide, am_in7 226 rfl rfl, am_in1 13 rfl rfl, ⟨by decide, by decide, by decide +kernel⟩, by decide⟩
set_option maxRecDepth 100000 in
theorem mbX12_kind : am_MB mX12_kind 6 := ⟨by decide, am_in7 76 rfl rfl, am_in1 13 rfl rfl, ⟨by decide, by decide, by decide +kernel⟩, by decide⟩
set_option maxRecDepth 100000 in
theorem mbX12_land : am_MB mX12_land 3 := ⟨by decide, am_in7 5 rfl rfl, am_in1 13 rfl rfl, ⟨by decide, by decide, by decide +kernel⟩, by decide⟩
set_option maxRecDepth 100000 in
theorem mbX12_leadOf : am_MB mX12_leadOf 1 := ⟨by decide, am_in8 34 rfl rfl, am_in1 13 rfl rfl, ⟨by decide, by decide, by decide +kernel⟩, by decide⟩
set_option maxRecDepth 100000 in
theorem mbX12_look : am_MB mX12_look 2 := ⟨by decide, am_in7 92 rfl rfl, am_in1 13 rfl rfl, ⟨by decide, by decide, by decide +kernel⟩, by decide⟩
set_option maxRecDepth 100000 in
theorem mbX12_lot : am_MB mX12_lot 1 := ⟨by decide, am_in7 72 rfl rfl, am_in1 13 rfl rfl, ⟨by decide, by decide, by decide +kernel⟩, by decide⟩
set_option maxRecDepth 100000 in
theorem mbX12_lotIsLow : am_MB mX12_lotIsLow 0 := ⟨by decide, am_in7 201 rfl rfl, am_in1 13 rfl rfl, ⟨by decide, by decide, by decide +kernel⟩, by decide⟩
set_option maxRecDepth 100000 in
theorem mbX12_manyOf : am_MB mX12_manyOf 2 := ⟨by decide, am_in8 173 rfl rfl, am_in1 13 rfl rfl, ⟨by decide, by decide, by decide +kernel⟩, by decide⟩
set_option maxRecDepth 100000 in
theorem mbX12_mayEnter : am_MB mX12_mayEnter 2 := ⟨by decide, am_in7 119 rfl rfl, am_in1 13 rfl rfl, ⟨by decide, by decide, by decide +kernel⟩, by decide⟩
set_option maxRecDepth 100000 in
theorem mbX12_mayTake : am_MB mX12_mayTake 2 := ⟨by decide, am_in7 160 rfl rfl, am_in1 13 rfl rfl, ⟨by decide, by decide, by decide +kernel⟩, by decide⟩
set_option maxRecDepth 100000 in
theorem mbX12_moves : am_MB mX12_moves 1 := ⟨by decide, am_in7 173 rfl rfl, am_in1 13 rfl rfl, ⟨by decide, by decide, by decide +kernel⟩, by decide⟩
set_option maxRecDepth 100000 in
theorem mbX12_nextOf : am_MB mX12_nextOf 2 := ⟨by decide, am_in7 132 rfl rfl, am_in1 13 rfl rfl, ⟨by decide, by decide, by decide +kernel⟩, by decide⟩
set_option maxRecDepth 100000 in
theorem mbX12_nextRain : am_MB mX12_nextRain 0 := ⟨by decide, am_in8 142 rfl rfl, am_in1 13 rfl rfl, ⟨by decide, by decide, by decide +kernel⟩, by decide⟩
set_option maxRecDepth 100000 in
theorem mbX12_offers : am_MB mX12_offers 0 := ⟨by decide, am_in7 156 rfl rfl, am_in1 13 rfl rfl, ⟨by decide, by decide, by decide +kernel⟩, by decide⟩
set_option maxRecDepth 100000 in
theorem mbX12_one : am_MB mX12_one 1 := ⟨by decide, am_in7 99 rfl rfl, am_in1 13 rfl rfl, ⟨by decide, by decide, by decide +kernel⟩, by decide⟩
set_option maxRecDepth 100000 in
theorem mbX12_opens : am_MB mX12_opens 0 := ⟨by decide, am_in8 95 rfl rfl, am_in1 13 rfl rfl, ⟨by decide, by decide, by decide +kernel⟩, by decide⟩
set_option maxRecDepth 100000 in
theorem mbX12_pass : am_MB mX12_pass 1 := ⟨by decide, am_in7 136 rfl rfl, am_in1 13 rfl rfl, ⟨by decide, by decide, by decide +kernel⟩, by decide⟩
set_option maxRecDepth 100000 in
theorem mbX12_plan : am_MB mX12_plan 1 := ⟨by decide, am_in8 163 rfl rfl, am_in1 13 rfl rfl, ⟨by decide, by decide, by decide +kernel⟩, by decide⟩
set_option maxRecDepth 100000 in
theorem mbX12_plant : am_MB mX12_plant 1 := ⟨by decide, am_in7 80 rfl rfl, am_in1 13 rfl rfl, ⟨by decide, by decide, by decide +kernel⟩, by decide⟩
set_option maxRecDepth 100000 in
theorem mbX12_product : am_MB mX12_product 0 := ⟨by decide, am_in8 79 rfl rfl, am_in1 13 rfl rfl, ⟨by decide, by decide, by decide +kernel⟩, by decide⟩
set_option maxRecDepth 100000 in
theorem mbX12_pull : am_MB mX12_pull 3 := ⟨by decide, am_in8 11 rfl rfl, am_in1 13 rfl rfl, ⟨by decide, by decide, by decide +kernel⟩, by decide⟩
set_option maxRecDepth 100000 in
theorem mbX12_pulls : am_MB mX12_pulls 2 := ⟨by decide, am_in7 185 rfl rfl, am_in1 13 rfl rfl, ⟨by decide, by decide, by decide +kernel⟩, by decide⟩
set_option maxRecDepth 100000 in
theorem mbX12_puts : am_MB mX12_puts 2 := ⟨by decide, am_in8 91 rfl rfl, am_in1 13 rfl rfl, ⟨by decide, by decide, by decide +kernel⟩, by decide⟩
set_option maxRecDepth 100000 in
theorem mbX12_rain : am_MB mX12_rain 3 := ⟨by decide, am_in7 52 rfl rfl, am_in1 13 rfl rfl, ⟨by decide, by decide, by decide +kernel⟩, by decide⟩
set_option maxRecDepth 100000 in
theorem mbX12_rains : am_MB mX12_rains 0 := ⟨by decide, am_in7 144 rfl rfl, am_in1 13 rfl rfl, ⟨by decide, by decide, by decide +kernel⟩, by decide⟩
set_option maxRecDepth 100000 in
theorem mbX12_reached : am_MB mX12_reached 2 := ⟨by decide, am_in8 19 rfl rfl, am_in1 13 rfl rfl, ⟨by decide, by decide, by decide +kernel⟩, by decide⟩
set_option maxRecDepth 100000 in
theorem mbX12_rules : am_MB mX12_rules 1 := ⟨by decide, am_in8 51 rfl rfl, am_in1 13 rfl rfl, ⟨by decide, by decide, by decide +kernel⟩, by decide⟩
set_option maxRecDepth 100000 in
theorem mbX12_runs : am_MB mX12_runs 2 := ⟨by decide, am_in8 147 rfl rfl, am_in1 13 rfl rfl, ⟨by decide, by decide, by decide +kernel⟩, by decide⟩
set_option maxRecDepth 100000 in
theorem mbX12_seen : am_MB mX12_seen 2 := ⟨by decide, am_in7 40 rfl rfl, am_in1 13 rfl rfl, ⟨by decide, by decide, by decide +kernel⟩, by decide⟩
set_option maxRecDepth 100000 in
theorem mbX12_set : am_MB mX12_set 2 := ⟨by decide, am_in7 45 rfl rfl, am_in1 13 rfl rfl, ⟨by decide, by decide, by decide +kernel⟩, by decide⟩
set_option maxRecDepth 100000 in
theorem mbX12_share : am_MB mX12_share 2 := ⟨by decide, am_in7 218 rfl rfl, am_in1 13 rfl rfl, ⟨by decide, by decide, by decide +kernel⟩, by decide⟩
set_option maxRecDepth 100000 in
theorem mbX12_show : am_MB mX12_show 2 := ⟨by decide, am_in7 88 rfl rfl, am_in1 13 rfl rfl, ⟨by decide, by decide, by decide +kernel⟩, by decide⟩
set_option maxRecDepth 100000 in
theorem mbX12_single : am_MB mX12_single 0 := ⟨by decide, am_in8 123 rfl rfl, am_in1 13 rfl rfl, ⟨by decide, by decide, by decide +kernel⟩, by decide⟩
set_option maxRecDepth 100000 in
theorem mbX12_spot : am_MB mX12_spot 2 := ⟨by decide, am_in7 235 rfl rfl, am_in1 13 rfl rfl, ⟨by decide, by decide, by decide +kernel⟩, by decide⟩
set_option maxRecDepth 100000 in
theorem mbX12_spreads : am_MB mX12_spreads 2 := ⟨by decide, am_in8 7 rfl rfl, am_in1 13 rfl rfl, ⟨by decide, by decide, by decide +kernel⟩, by decide⟩
set_option maxRecDepth 100000 in
theorem mbX12_statement : am_MB mX12_statement 1 := ⟨by decide, am_in8 59 rfl rfl, am_in1 13 rfl rfl, ⟨by decide, by decide, by decide +kernel⟩, by decide⟩
set_option maxRecDepth 100000 in
theorem mbX12_strip : am_MB mX12_strip 2 := ⟨by decide, am_in8 26 rfl rfl, am_in1 13 rfl rfl, ⟨by decide, by decide, by decide +kernel⟩, by decide⟩
set_option maxRecDepth 100000 in
theorem mbX12_takes : am_MB mX12_takes 1 := ⟨by decide, am_in8 64 rfl rfl, am_in1 13 rfl rfl, ⟨by decide, by decide, by decide +kernel⟩, by decide⟩
set_option maxRecDepth 100000 in
theorem mbX12_takesNumber : am_MB mX12_takesNumber 0 := ⟨by decide, am_in8 87 rfl rfl, am_in1 13 rfl rfl, ⟨by decide, by decide, by decide +kernel⟩, by decide⟩
set_option maxRecDepth 100000 in
theorem mbX12_takesSign : am_MB mX12_takesSign 1 := ⟨by decide, am_in8 99 rfl rfl, am_in1 13 rfl rfl, ⟨by decide, by decide, by decide +kernel⟩, by decide⟩
set_option maxRecDepth 100000 in
theorem mbX12_tells : am_MB mX12_tells 4 := ⟨by decide, am_in7 15 rfl rfl, am_in1 13 rfl rfl, ⟨by decide, by decide, by decide +kernel⟩, by decide⟩
set_option maxRecDepth 100000 in
theorem mbX12_toDo : am_MB mX12_toDo 1 := ⟨by decide, am_in8 138 rfl rfl, am_in1 13 rfl rfl, ⟨by decide, by decide, by decide +kernel⟩, by decide⟩
set_option maxRecDepth 100000 in
theorem mbX12_told : am_MB mX12_told 2 := ⟨by decide, am_in7 222 rfl rfl, am_in1 13 rfl rfl, ⟨by decide, by decide, by decide +kernel⟩, by decide⟩
set_option maxRecDepth 100000 in
theorem mbX12_water : am_MB mX12_water 1 := ⟨by decide, am_in7 230 rfl rfl, am_in1 13 rfl rfl, ⟨by decide, by decide, by decide +kernel⟩, by decide⟩
set_option maxRecDepth 100000 in
theorem mbX12_way : am_MB mX12_way 3 := ⟨by decide, am_in7 103 rfl rfl, am_in1 13 rfl rfl, ⟨by decide, by decide, by decide +kernel⟩, by decide⟩
set_option maxRecDepth 100000 in
theorem mbX12_ways : am_MB mX12_ways 3 := ⟨by decide, am_in7 107 rfl rfl, am_in1 13 rfl rfl, ⟨by decide, by decide, by decide +kernel⟩, by decide⟩
set_option maxRecDepth 100000 in
theorem mbX12_weeds : am_MB mX12_weeds 1 := ⟨by decide, am_in7 213 rfl rfl, am_in1 13 rfl rfl, ⟨by decide, by decide, by decide +kernel⟩, by decide⟩
set_option maxRecDepth 100000 in
theorem mbX12_word : am_MB mX12_word 0 := ⟨by decide, am_in8 68 rfl rfl, am_in1 13 rfl rfl, ⟨by decide, by decide, by decide +kernel⟩, by decide⟩
set_option maxRecDepth 100000 in
theorem mbX12_work : am_MB mX12_work 3 := ⟨by decide, am_in7 68 rfl rfl, am_in1 13 rfl rfl, ⟨by decide, by decide, by decide +kernel⟩, by decide⟩
set_option maxRecDepth 100000 in
theorem mbX12_works : am_MB mX12_works 1 := ⟨by decide, am_in7 177 rfl rfl, am_in1 13 rfl rfl, ⟨by decide, by decide, by decide +kernel⟩, by decide⟩
set_option maxRecDepth 100000 in
theorem mbX1_begin : am_MB mX1_begin 0 := ⟨by decide, am_in2 10 rfl rfl, am_in1 8 rfl rfl, ⟨by decide, by decide, by decide +kernel⟩, by decide⟩
set_option maxRecDepth 100000 in
theorem mbX1_bring : am_MB mX1_bring 1 := ⟨by decide, am_in3 1 rfl rfl, am_in1 8 rfl rfl, ⟨by decide, by decide, by decide +kernel⟩, by decide⟩
set_option maxRecDepth 100000 in
theorem mbX1_cartsStuck : am_MB mX1_cartsStuck 0 := ⟨by decide, am_in6 30 rfl rfl, am_in1 8 rfl rfl, ⟨by decide, by decide, by decide +kernel⟩, by decide⟩
set_option maxRecDepth 100000 in
theorem mbX1_factOfCart : am_MB mX1_factOfCart 2 := ⟨by decide, am_in4 112 rfl rfl, am_in1 8 rfl rfl, ⟨by decide, by decide, by decide +kernel⟩, by decide⟩
set_option maxRecDepth 100000 in
theorem mbX1_freeOneStuck : am_MB mX1_freeOneStuck 2 := ⟨by decide, am_in4 37 rfl rfl, am_in1 8 rfl rfl, ⟨by decide, by decide, by decide +kernel⟩, by decide⟩
set_option maxRecDepth 100000 in
theorem mbX1_hasPower : am_MB mX1_hasPower 1 := ⟨by decide, am_in3 179 rfl rfl, am_in1 8 rfl rfl, ⟨by decide, by decide, by decide +kernel⟩, by decide⟩
set_option maxRecDepth 100000 in
theorem mbX1_hearOf : am_MB mX1_hearOf 2 := ⟨by decide, am_in4 55 rfl rfl, am_in1 8 rfl rfl, ⟨by decide, by decide, by decide +kernel⟩, by decide⟩
set_option maxRecDepth 100000 in
theorem mbX1_isFlat : am_MB mX1_isFlat 1 := ⟨by decide, am_in3 13 rfl rfl, am_in1 8 rfl rfl, ⟨by decide, by decide, by decide +kernel⟩, by decide⟩
set_option maxRecDepth 100000 in
theorem mbX1_isHome : am_MB mX1_isHome 1 := ⟨by decide, am_in4 61 rfl rfl, am_in1 8 rfl rfl, ⟨by decide, by decide, by decide +kernel⟩, by decide⟩
set_option maxRecDepth 100000 in
theorem mbX1_isPlace : am_MB mX1_isPlace 1 := ⟨by decide, am_in3 4 rfl rfl, am_in1 8 rfl rfl, ⟨by decide, by decide, by decide +kernel⟩, by decide⟩
set_option maxRecDepth 100000 in
theorem mbX1_isReady : am_MB mX1_isReady 1 := ⟨by decide, am_in3 175 rfl rfl, am_in1 8 rfl rfl, ⟨by decide, by decide, by decide +kernel⟩, by decide⟩
set_option maxRecDepth 100000 in
theorem mbX1_plugIn : am_MB mX1_plugIn 1 := ⟨by decide, am_in4 5 rfl rfl, am_in1 8 rfl rfl, ⟨by decide, by decide, by decide +kernel⟩, by decide⟩
set_option maxRecDepth 100000 in
theorem mbX1_readyOnes : am_MB mX1_readyOnes 0 := ⟨by decide, am_in3 171 rfl rfl, am_in1 8 rfl rfl, ⟨by decide, by decide, by decide +kernel⟩, by decide⟩
set_option maxRecDepth 100000 in
theorem mbX1_refill : am_MB mX1_refill 1 := ⟨by decide, am_in3 9 rfl rfl, am_in1 8 rfl rfl, ⟨by decide, by decide, by decide +kernel⟩, by decide⟩
set_option maxRecDepth 100000 in
theorem mbX2_allWet : am_MB mX2_allWet 0 := ⟨by decide, am_in4 152 rfl rfl, am_in1 6 rfl rfl, ⟨by decide, by decide, by decide +kernel⟩, by decide⟩
set_option maxRecDepth 100000 in
theorem mbX2_begin : am_MB mX2_begin 0 := ⟨by decide, am_in1 238 rfl rfl, am_in1 6 rfl rfl, ⟨by decide, by decide, by decide +kernel⟩, by decide⟩
set_option maxRecDepth 100000 in
theorem mbX2_dry : am_MB mX2_dry 0 := ⟨by decide, am_in3 163 rfl rfl, am_in1 6 rfl rfl, ⟨by decide, by decide, by decide +kernel⟩, by decide⟩
set_option maxRecDepth 100000 in
theorem mbX2_flow : am_MB mX2_flow 0 := ⟨by decide, am_in3 152 rfl rfl, am_in1 6 rfl rfl, ⟨by decide, by decide, by decide +kernel⟩, by decide⟩
set_option maxRecDepth 100000 in
theorem mbX2_heavy : am_MB mX2_heavy 2 := ⟨by decide, am_in3 194 rfl rfl, am_in1 6 rfl rfl, ⟨by decide, by decide, by decide +kernel⟩, by decide⟩
set_option maxRecDepth 100000 in
theorem mbX2_lowestBeside : am_MB mX2_lowestBeside 1 := ⟨by decide, am_in3 156 rfl rfl, am_in1 6 rfl rfl, ⟨by decide, by decide, by decide +kernel⟩, by decide⟩
set_option maxRecDepth 100000 in
theorem mbX2_rainOn : am_MB mX2_rainOn 1 := ⟨by decide, am_in3 147 rfl rfl, am_in1 6 rfl rfl, ⟨by decide, by decide, by decide +kernel⟩, by decide⟩
set_option maxRecDepth 100000 in
theorem mbX2_shape : am_MB mX2_shape 3 := ⟨by decide, am_in2 223 rfl rfl, am_in1 6 rfl rfl, ⟨by decide, by decide, by decide +kernel⟩, by decide⟩
set_option maxRecDepth 100000 in
theorem mbX3_apply : am_MB mX3_apply 2 := ⟨by decide, am_in5 227 rfl rfl, am_in1 11 rfl rfl, ⟨by decide, by decide, by decide +kernel⟩, by decide⟩
set_option maxRecDepth 100000 in
theorem mbX3_decide : am_MB mX3_decide 1 := ⟨by decide, am_in5 215 rfl rfl, am_in1 11 rfl rfl, ⟨by decide, by decide, by decide +kernel⟩, by decide⟩
set_option maxRecDepth 100000 in
theorem mbX3_held : am_MB mX3_held 1 := ⟨by decide, am_in5 233 rfl rfl, am_in1 11 rfl rfl, ⟨by decide, by decide, by decide +kernel⟩, by decide⟩
set_option maxRecDepth 100000 in
theorem mbX3_joined : am_MB mX3_joined 3 := ⟨by decide, am_in5 230 rfl rfl, am_in1 11 rfl rfl, ⟨by decide, by decide, by decide +kernel⟩, by decide⟩
set_option maxRecDepth 100000 in
theorem mbX3_pop : am_MB mX3_pop 0 := ⟨by decide, am_in5 223 rfl rfl, am_in1 11 rfl rfl, ⟨by decide, by decide, by decide +kernel⟩, by decide⟩
set_option maxRecDepth 100000 in
theorem mbX3_push : am_MB mX3_push 1 := ⟨by decide, am_in5 219 rfl rfl, am_in1 11 rfl rfl, ⟨by decide, by decide, by decide +kernel⟩, by decide⟩
set_option maxRecDepth 100000 in
theorem mbX3_takeOver : am_MB mX3_takeOver 3 := ⟨by decide, am_in5 184 rfl rfl, am_in1 11 rfl rfl, ⟨by decide, by decide, by decide +kernel⟩, by decide⟩
set_option maxRecDepth 100000 in
theorem mbX4_cellNumbered : am_MB mX4_cellNumbered 2 := ⟨by decide, am_in4 183 rfl rfl, am_in1 16 rfl rfl, ⟨by decide, by decide, by decide +kernel⟩, by decide⟩
set_option maxRecDepth 100000 in
theorem mbX4_cellsReached : am_MB mX4_cellsReached 5 := ⟨by decide, am_in4 186 rfl rfl, am_in1 16 rfl rfl, ⟨by decide, by decide, by decide +kernel⟩, by decide⟩
set_option maxRecDepth 100000 in
theorem mbX4_pullOf : am_MB mX4_pullOf 5 := ⟨by decide, am_in4 177 rfl rfl, am_in1 16 rfl rfl, ⟨by decide, by decide, by decide +kernel⟩, by decide⟩
set_option maxRecDepth 100000 in
theorem mbX4_reached : am_MB mX4_reached 3 := ⟨by decide, am_in4 164 rfl rfl, am_in1 16 rfl rfl, ⟨by decide, by decide, by decide +kernel⟩, by decide⟩
set_option maxRecDepth 100000 in
theorem mbX4_spotOf : am_MB mX4_spotOf 4 := ⟨by decide, am_in4 160 rfl rfl, am_in1 16 rfl rfl, ⟨by decide, by decide, by decide +kernel⟩, by decide⟩
set_option maxRecDepth 100000 in
theorem mbX4_stepped : am_MB mX4_stepped 2 := ⟨by decide, am_in4 167 rfl rfl, am_in1 16 rfl rfl, ⟨by decide, by decide, by decide +kernel⟩, by decide⟩
set_option maxRecDepth 100000 in
theorem mbX5_costTo : am_MB mX5_costTo 2 := ⟨by decide, am_in3 233 rfl rfl, am_in1 4 rfl rfl, ⟨by decide, by decide, by decide +kernel⟩, by decide⟩
set_option maxRecDepth 100000 in
theorem mbX5_firstTo : am_MB mX5_firstTo 2 := ⟨by decide, am_in4 45 rfl rfl, am_in1 4 rfl rfl, ⟨by decide, by decide, by decide +kernel⟩, by decide⟩
set_option maxRecDepth 100000 in
theorem mbX5_goOnFrom : am_MB mX5_goOnFrom 3 := ⟨by decide, am_in3 204 rfl rfl, am_in1 4 rfl rfl, ⟨by decide, by decide, by decide +kernel⟩, by decide⟩
set_option maxRecDepth 100000 in
theorem mbX5_hasWay : am_MB mX5_hasWay 2 := ⟨by decide, am_in3 224 rfl rfl, am_in1 4 rfl rfl, ⟨by decide, by decide, by decide +kernel⟩, by decide⟩
set_option maxRecDepth 100000 in
theorem mbX5_isNearer : am_MB mX5_isNearer 3 := ⟨by decide, am_in3 228 rfl rfl, am_in1 4 rfl rfl, ⟨by decide, by decide, by decide +kernel⟩, by decide⟩
set_option maxRecDepth 100000 in
theorem mbX5_nearestBeside : am_MB mX5_nearestBeside 2 := ⟨by decide, am_in3 220 rfl rfl, am_in1 4 rfl rfl, ⟨by decide, by decide, by decide +kernel⟩, by decide⟩
set_option maxRecDepth 100000 in
theorem mbX5_search : am_MB mX5_search 5 := ⟨by decide, am_in3 187 rfl rfl, am_in1 4 rfl rfl, ⟨by decide, by decide, by decide +kernel⟩, by decide⟩
set_option maxRecDepth 100000 in
theorem mbX5_stepsTo : am_MB mX5_stepsTo 2 := ⟨by decide, am_in4 143 rfl rfl, am_in1 4 rfl rfl, ⟨by decide, by decide, by decide +kernel⟩, by decide⟩
set_option maxRecDepth 100000 in
theorem mbX5_takeNearest : am_MB mX5_takeNearest 1 := ⟨by decide, am_in3 200 rfl rfl, am_in1 4 rfl rfl, ⟨by decide, by decide, by decide +kernel⟩, by decide⟩
set_option maxRecDepth 100000 in
theorem mbX6_allGot : am_MB mX6_allGot 0 := ⟨by decide, am_in6 34 rfl rfl, am_in1 7 rfl rfl, ⟨by decide, by decide, by decide +kernel⟩, by decide⟩
set_option maxRecDepth 100000 in
theorem mbX6_begin : am_MB mX6_begin 0 := ⟨by decide, am_in2 5 rfl rfl, am_in1 7 rfl rfl, ⟨by decide, by decide, by decide +kernel⟩, by decide⟩
set_option maxRecDepth 100000 in
theorem mbX6_drawLot : am_MB mX6_drawLot 1 := ⟨by decide, am_in4 75 rfl rfl, am_in1 7 rfl rfl, ⟨by decide, by decide, by decide +kernel⟩, by decide⟩
set_option maxRecDepth 100000 in
theorem mbX6_drown : am_MB mX6_drown 1 := ⟨by decide, am_in4 65 rfl rfl, am_in1 7 rfl rfl, ⟨by decide, by decide, by decide +kernel⟩, by decide⟩
set_option maxRecDepth 100000 in
theorem mbX6_expose : am_MB mX6_expose 2 := ⟨by decide, am_in3 35 rfl rfl, am_in1 7 rfl rfl, ⟨by decide, by decide, by decide +kernel⟩, by decide⟩
set_option maxRecDepth 100000 in
theorem mbX6_grow : am_MB mX6_grow 1 := ⟨by decide, am_in4 79 rfl rfl, am_in1 7 rfl rfl, ⟨by decide, by decide, by decide +kernel⟩, by decide⟩
set_option maxRecDepth 100000 in
theorem mbX6_isIll : am_MB mX6_isIll 1 := ⟨by decide, am_in3 125 rfl rfl, am_in1 7 rfl rfl, ⟨by decide, by decide, by decide +kernel⟩, by decide⟩
set_option maxRecDepth 100000 in
theorem mbX6_marksOn : am_MB mX6_marksOn 1 := ⟨by decide, am_in4 25 rfl rfl, am_in1 7 rfl rfl, ⟨by decide, by decide, by decide +kernel⟩, by decide⟩
set_option maxRecDepth 100000 in
theorem mbX6_nourish : am_MB mX6_nourish 2 := ⟨by decide, am_in4 33 rfl rfl, am_in1 7 rfl rfl, ⟨by decide, by decide, by decide +kernel⟩, by decide⟩
set_option maxRecDepth 100000 in
theorem mbX6_remove : am_MB mX6_remove 2 := ⟨by decide, am_in4 29 rfl rfl, am_in1 7 rfl rfl, ⟨by decide, by decide, by decide +kernel⟩, by decide⟩
set_option maxRecDepth 100000 in
theorem mbX6_see : am_MB mX6_see 2 := ⟨by decide, am_in3 39 rfl rfl, am_in1 7 rfl rfl, ⟨by decide, by decide, by decide +kernel⟩, by decide⟩
set_option maxRecDepth 100000 in
theorem mbX6_shareOf : am_MB mX6_shareOf 2 := ⟨by decide, am_in4 98 rfl rfl, am_in1 7 rfl rfl, ⟨by decide, by decide, by decide +kernel⟩, by decide⟩
set_option maxRecDepth 100000 in
theorem mbX6_sicken : am_MB mX6_sicken 2 := ⟨by decide, am_in3 48 rfl rfl, am_in1 7 rfl rfl, ⟨by decide, by decide, by decide +kernel⟩, by decide⟩
set_option maxRecDepth 100000 in
theorem mbX6_sow : am_MB mX6_sow 2 := ⟨by decide, am_in3 21 rfl rfl, am_in1 7 rfl rfl, ⟨by decide, by decide, by decide +kernel⟩, by decide⟩
set_option maxRecDepth 100000 in
theorem mbX6_spread : am_MB mX6_spread 2 := ⟨by decide, am_in4 70 rfl rfl, am_in1 7 rfl rfl, ⟨by decide, by decide, by decide +kernel⟩, by decide⟩
set_option maxRecDepth 100000 in
theorem mbX6_standsOn : am_MB mX6_standsOn 1 := ⟨by decide, am_in3 26 rfl rfl, am_in1 7 rfl rfl, ⟨by decide, by decide, by decide +kernel⟩, by decide⟩
set_option maxRecDepth 100000 in
theorem mbX6_weedHundredths : am_MB mX6_weedHundredths 1 := ⟨by decide, am_in4 94 rfl rfl, am_in1 7 rfl rfl, ⟨by decide, by decide, by decide +kernel⟩, by decide⟩
set_option maxRecDepth 100000 in
theorem mbX6_weigh : am_MB mX6_weigh 3 := ⟨by decide, am_in3 43 rfl rfl, am_in1 7 rfl rfl, ⟨by decide, by decide, by decide +kernel⟩, by decide⟩
set_option maxRecDepth 100000 in
theorem mbX7_accept : am_MB mX7_accept 1 := ⟨by decide, am_in5 165 rfl rfl, am_in1 10 rfl rfl, ⟨by decide, by decide, by decide +kernel⟩, by decide⟩
set_option maxRecDepth 100000 in
theorem mbX7_addToken : am_MB mX7_addToken 2 := ⟨by decide, am_in5 140 rfl rfl, am_in1 10 rfl rfl, ⟨by decide, by decide, by decide +kernel⟩, by decide⟩
set_option maxRecDepth 100000 in
theorem mbX7_append : am_MB mX7_append 1 := ⟨by decide, am_in5 1 rfl rfl, am_in1 10 rfl rfl, ⟨by decide, by decide, by decide +kernel⟩, by decide⟩
set_option maxRecDepth 100000 in
theorem mbX7_emit : am_MB mX7_emit 1 := ⟨by decide, am_in5 153 rfl rfl, am_in1 10 rfl rfl, ⟨by decide, by decide, by decide +kernel⟩, by decide⟩
set_option maxRecDepth 100000 in
theorem mbX7_groupOf : am_MB mX7_groupOf 1 := ⟨by decide, am_in5 17 rfl rfl, am_in1 10 rfl rfl, ⟨by decide, by decide, by decide +kernel⟩, by decide⟩
set_option maxRecDepth 100000 in
theorem mbX7_hasRoomForFive : am_MB mX7_hasRoomForFive 0 := ⟨by decide, am_in4 237 rfl rfl, am_in1 10 rfl rfl, ⟨by decide, by decide, by decide +kernel⟩, by decide⟩
set_option maxRecDepth 100000 in
theorem mbX7_here : am_MB mX7_here 0 := ⟨by decide, am_in5 144 rfl rfl, am_in1 10 rfl rfl, ⟨by decide, by decide, by decide +kernel⟩, by decide⟩
set_option maxRecDepth 100000 in
theorem mbX7_isOperator : am_MB mX7_isOperator 1 := ⟨by decide, am_in5 168 rfl rfl, am_in1 10 rfl rfl, ⟨by decide, by decide, by decide +kernel⟩, by decide⟩
set_option maxRecDepth 100000 in
theorem mbX7_numberBetween : am_MB mX7_numberBetween 2 := ⟨by decide, am_in5 136 rfl rfl, am_in1 10 rfl rfl, ⟨by decide, by decide, by decide +kernel⟩, by decide⟩
set_option maxRecDepth 100000 in
theorem mbX7_placeHere : am_MB mX7_placeHere 0 := ⟨by decide, am_in5 180 rfl rfl, am_in1 10 rfl rfl, ⟨by decide, by decide, by decide +kernel⟩, by decide⟩
set_option maxRecDepth 100000 in
theorem mbX7_read : am_MB mX7_read 1 := ⟨by decide, am_in5 9 rfl rfl, am_in1 10 rfl rfl, ⟨by decide, by decide, by decide +kernel⟩, by decide⟩
set_option maxRecDepth 100000 in
theorem mbX7_readAny : am_MB mX7_readAny 1 := ⟨by decide, am_in5 172 rfl rfl, am_in1 10 rfl rfl, ⟨by decide, by decide, by decide +kernel⟩, by decide⟩
set_option maxRecDepth 100000 in
theorem mbX7_readAtom : am_MB mX7_readAtom 1 := ⟨by decide, am_in5 161 rfl rfl, am_in1 10 rfl rfl, ⟨by decide, by decide, by decide +kernel⟩, by decide⟩
set_option maxRecDepth 100000 in
theorem mbX7_readOne : am_MB mX7_readOne 1 := ⟨by decide, am_in5 176 rfl rfl, am_in1 10 rfl rfl, ⟨by decide, by decide, by decide +kernel⟩, by decide⟩
set_option maxRecDepth 100000 in
theorem mbX7_readStatement : am_MB mX7_readStatement 0 := ⟨by decide, am_in5 148 rfl rfl, am_in1 10 rfl rfl, ⟨by decide, by decide, by decide +kernel⟩, by decide⟩
set_option maxRecDepth 100000 in
theorem mbX7_readSum : am_MB mX7_readSum 1 := ⟨by decide, am_in5 157 rfl rfl, am_in1 10 rfl rfl, ⟨by decide, by decide, by decide +kernel⟩, by decide⟩
set_option maxRecDepth 100000 in
theorem mbX7_split : am_MB mX7_split 1 := ⟨by decide, am_in5 14 rfl rfl, am_in1 10 rfl rfl, ⟨by decide, by decide, by decide +kernel⟩, by decide⟩
set_option maxRecDepth 100000 in
theorem mbX7_tokenFrom : am_MB mX7_tokenFrom 3 := ⟨by decide, am_in5 21 rfl rfl, am_in1 10 rfl rfl, ⟨by decide, by decide, by decide +kernel⟩, by decide⟩
set_option maxRecDepth 100000 in
theorem mbX7_wordBetween : am_MB mX7_wordBetween 2 := ⟨by decide, am_in5 110 rfl rfl, am_in1 10 rfl rfl, ⟨by decide, by decide, by decide +kernel⟩, by decide⟩
set_option maxRecDepth 100000 in
theorem mbX8_allWays : am_MB mX8_allWays 0 := ⟨by decide, am_in4 226 rfl rfl, am_in1 12 rfl rfl, ⟨by decide, by decide, by decide +kernel⟩, by decide⟩
set_option maxRecDepth 100000 in
theorem mbX8_armsAsDealt : am_MB mX8_armsAsDealt 0 := ⟨by decide, am_in4 212 rfl rfl, am_in1 12 rfl rfl, ⟨by decide, by decide, by decide +kernel⟩, by decide⟩
set_option maxRecDepth 100000 in
theorem mbX8_lead : am_MB mX8_lead 0 := ⟨by decide, am_in4 208 rfl rfl, am_in1 12 rfl rfl, ⟨by decide, by decide, by decide +kernel⟩, by decide⟩
set_option maxRecDepth 100000 in
theorem mbX8_leadOf : am_MB mX8_leadOf 1 := ⟨by decide, am_in4 217 rfl rfl, am_in1 12 rfl rfl, ⟨by decide, by decide, by decide +kernel⟩, by decide⟩
set_option maxRecDepth 100000 in
theorem mbX8_waysAsGood : am_MB mX8_waysAsGood 0 := ⟨by decide, am_in4 204 rfl rfl, am_in1 12 rfl rfl, ⟨by decide, by decide, by decide +kernel⟩, by decide⟩
set_option maxRecDepth 100000 in
theorem mbX8_waysWithLead : am_MB mX8_waysWithLead 1 := ⟨by decide, am_in4 222 rfl rfl, am_in1 12 rfl rfl, ⟨by decide, by decide, by decide +kernel⟩, by decide⟩
set_option maxRecDepth 100000 in
theorem mbX9_add : am_MB mX9_add 6 := ⟨by decide, am_in2 202 rfl rfl, am_in1 3 rfl rfl, ⟨by decide, by decide, by decide +kernel⟩, by decide⟩
set_option maxRecDepth 100000 in
theorem mbX9_at : am_MB mX9_at 2 := ⟨by decide, am_in2 215 rfl rfl, am_in1 3 rfl rfl, ⟨by decide, by decide, by decide +kernel⟩, by decide⟩
set_option maxRecDepth 100000 in
theorem mbX9_has : am_MB mX9_has 1 := ⟨by decide, am_in3 81 rfl rfl, am_in1 3 rfl rfl, ⟨by decide, by decide, by decide +kernel⟩, by decide⟩
set_option maxRecDepth 100000 in
theorem mbX9_isFull : am_MB mX9_isFull 0 := ⟨by decide, am_in2 198 rfl rfl, am_in1 3 rfl rfl, ⟨by decide, by decide, by decide +kernel⟩, by decide⟩
set_option maxRecDepth 100000 in
theorem mbX9_put : am_MB mX9_put 2 := ⟨by decide, am_in2 207 rfl rfl, am_in1 3 rfl rfl, ⟨by decide, by decide, by decide +kernel⟩, by decide⟩
set_option maxRecDepth 100000 in
theorem msRJ0_335 : am_VS RJ0 335 mJ0_coder_7d493 := ⟨Or.inl (am_in5 41 rfl rfl), am_in5 42 rfl rfl, am_in5 43 rfl rfl⟩
set_option maxRecDepth 100000 in
theorem msRJ0_492 : am_VS RJ0 492 mJ0_isLatin1_aae02 := ⟨Or.inl (am_in5 31 rfl rfl), am_in5 32 rfl rfl, am_in5 33 rfl rfl⟩
set_option maxRecDepth 100000 in
theorem msRJ0_495 : am_SS RJ0 495 mJ1_charAt_3b067 := ⟨Or.inl (am_in5 117 rfl rfl), am_in5 118 rfl rfl⟩
set_option maxRecDepth 100000 in
theorem msRJ0_505 : am_VS RJ0 505 mJ0_length_8abf5 := ⟨Or.inl (am_in5 37 rfl rfl), am_in5 38 rfl rfl, am_in5 39 rfl rfl⟩
set_option maxRecDepth 100000 in
theorem msRJ0_633 : am_VS RJ0 633 mJ0_indexOf_7cf53 := ⟨Or.inl (am_in5 27 rfl rfl), am_in5 28 rfl rfl, am_in5 29 rfl rfl⟩
set_option maxRecDepth 100000 in
theorem msRJ0_637 : am_SS RJ0 637 mJ1_indexOf_4cfef := ⟨Or.inl (am_in5 45 rfl rfl), am_in5 46 rfl rfl⟩
set_option maxRecDepth 100000 in
theorem msRJ1_38 : am_SS RJ1 38 mJ9_min_7cf53 := ⟨Or.inl (am_in5 54 rfl rfl), am_in3 207 rfl rfl⟩
set_option maxRecDepth 100000 in
theorem msRJ1_88 : am_SS RJ1 88 mJ1_canEncode_9a6ad := ⟨Or.inl (am_in5 48 rfl rfl), am_in5 49 rfl rfl⟩
set_option maxRecDepth 100000 in
theorem msRJ1_92 : am_SS RJ1 92 mJ9_max_7cf53 := ⟨Or.inl (am_in5 51 rfl rfl), am_in5 52 rfl rfl⟩
set_option maxRecDepth 100000 in
theorem msRJ1_95 : am_SS RJ1 95 mJ1_indexOfChar_4cfef := ⟨Or.inl (am_in5 55 rfl rfl), am_in5 56 rfl rfl⟩
set_option maxRecDepth 100000 in
theorem msRX0_35 : am_VS RX0 35 mX9_isFull := ⟨Or.inl (am_in3 65 rfl rfl), am_in2 196 rfl rfl, am_in2 197 rfl rfl⟩
set_option maxRecDepth 100000 in
theorem msRX0_43 : am_VS RX0 43 mX9_at := ⟨Or.inl (am_in3 143 rfl rfl), am_in2 213 rfl rfl, am_in2 214 rfl rfl⟩
set_option maxRecDepth 100000 in
theorem msRX0_47 : am_SS RX0 47 mJ9_max_7cf53 := ⟨Or.inl (am_in5 210 rfl rfl), am_in5 52 rfl rfl⟩
set_option maxRecDepth 100000 in
theorem msRX0_52 : am_SS RX0 52 mJ9_min_7cf53 := ⟨Or.inl (am_in5 211 rfl rfl), am_in3 207 rfl rfl⟩
set_option maxRecDepth 100000 in
theorem msRX1_32 : am_SS RX1 32 mJ7_fill_53178 := ⟨Or.inl (am_in2 11 rfl rfl), am_in2 0 rfl rfl⟩
set_option maxRecDepth 100000 in
theorem msRX1_38 : am_SS RX1 38 mJ7_fill_d0a16 := ⟨Or.inl (am_in2 12 rfl rfl), am_in2 13 rfl rfl⟩
set_option maxRecDepth 100000 in
theorem msRX1_41 : am_SS RX1 41 mX1_isPlace := ⟨Or.inl (am_in3 2 rfl rfl), am_in3 3 rfl rfl⟩
set_option maxRecDepth 100000 in
theorem msRX1_51 : am_VS RX1 51 mX9_at := ⟨Or.inl (am_in3 5 rfl rfl), am_in2 213 rfl rfl, am_in2 214 rfl rfl⟩
set_option maxRecDepth 100000 in
theorem msRX1_57 : am_VS RX1 57 mX1_isFlat := ⟨Or.inl (am_in3 10 rfl rfl), am_in3 11 rfl rfl, am_in3 12 rfl rfl⟩
set_option maxRecDepth 100000 in
theorem msRX1_60 : am_SS RX1 60 mJ9_min_7cf53 := ⟨Or.inl (am_in4 6 rfl rfl), am_in3 207 rfl rfl⟩
set_option maxRecDepth 100000 in
theorem msRX1_65 : am_VS RX1 65 mX1_hasPower := ⟨Or.inl (am_in3 176 rfl rfl), am_in3 177 rfl rfl, am_in3 178 rfl rfl⟩
set_option maxRecDepth 100000 in
theorem msRX1_68 : am_VS RX1 68 mX1_isReady := ⟨Or.inl (am_in3 172 rfl rfl), am_in3 173 rfl rfl, am_in3 174 rfl rfl⟩
set_option maxRecDepth 100000 in
theorem msRX1_71 : am_SS RX1 71 mX11_far := ⟨Or.inr ⟨"PloughField", am_inN4 56 rfl rfl⟩, am_in4 13 rfl rfl⟩
set_option maxRecDepth 100000 in
theorem msRX1_74 : am_SS RX1 74 mX11_bit := ⟨Or.inr ⟨"PloughField", am_inN4 57 rfl rfl⟩, am_in3 28 rfl rfl⟩
set_option maxRecDepth 100000 in
theorem msRX1_78 : am_SS RX1 78 mJ13_bitCount_95d88 := ⟨Or.inl (am_in4 113 rfl rfl), am_in4 114 rfl rfl⟩
set_option maxRecDepth 100000 in
theorem msRX1_84 : am_SS RX1 84 mX11_within := ⟨Or.inr ⟨"PloughField", am_inN4 119 rfl rfl⟩, am_in2 189 rfl rfl⟩
set_option maxRecDepth 100000 in
theorem msRX10_56 : am_VS RX10 56 mX2_begin := ⟨Or.inl (am_in1 235 rfl rfl), am_in1 236 rfl rfl, am_in1 237 rfl rfl⟩
set_option maxRecDepth 100000 in
theorem msRX10_58 : am_VS RX10 58 mX6_begin := ⟨Or.inl (am_in2 2 rfl rfl), am_in2 3 rfl rfl, am_in2 4 rfl rfl⟩
set_option maxRecDepth 100000 in
theorem msRX10_59 : am_VS RX10 59 mX1_begin := ⟨Or.inl (am_in2 7 rfl rfl), am_in2 8 rfl rfl, am_in2 9 rfl rfl⟩
set_option maxRecDepth 100000 in
theorem msRX10_60 : am_SS RX10 60 mJ7_fill_53178 := ⟨Or.inl (am_in2 15 rfl rfl), am_in2 0 rfl rfl⟩
set_option maxRecDepth 100000 in
theorem msRX10_85 : am_VS RX10 85 mX10_hearTold := ⟨Or.inl (am_in3 134 rfl rfl), am_in2 209 rfl rfl, am_in2 210 rfl rfl⟩
set_option maxRecDepth 100000 in
theorem msRX10_88 : am_VS RX10 88 mX10_passHour := ⟨Or.inl (am_in3 135 rfl rfl), am_in3 137 rfl rfl, am_in0 9 rfl rfl⟩
set_option maxRecDepth 100000 in
theorem msRX10_102 : am_VS RX10 102 mX9_at := ⟨Or.inl (am_in2 212 rfl rfl), am_in2 213 rfl rfl, am_in2 214 rfl rfl⟩
set_option maxRecDepth 100000 in
theorem msRX10_106 : am_VS RX10 106 mX10_hear := ⟨Or.inl (am_in2 216 rfl rfl), am_in2 218 rfl rfl, am_in0 2 rfl rfl⟩
set_option maxRecDepth 100000 in
theorem msRX10_110 : am_VS RX10 110 mX2_shape := ⟨Or.inl (am_in2 220 rfl rfl), am_in2 221 rfl rfl, am_in2 222 rfl rfl⟩
set_option maxRecDepth 100000 in
theorem msRX10_114 : am_VS RX10 114 mX10_adjust := ⟨Or.inl (am_in2 225 rfl rfl), am_in2 227 rfl rfl, am_in0 3 rfl rfl⟩
set_option maxRecDepth 100000 in
theorem msRX10_117 : am_VS RX10 117 mX10_bringCart := ⟨Or.inl (am_in2 230 rfl rfl), am_in2 232 rfl rfl, am_in0 4 rfl rfl⟩
set_option maxRecDepth 100000 in
theorem msRX10_120 : am_VS RX10 120 mX1_refill := ⟨Or.inl (am_in3 6 rfl rfl), am_in3 7 rfl rfl, am_in3 8 rfl rfl⟩
set_option maxRecDepth 100000 in
theorem msRX10_123 : am_VS RX10 123 mX10_openWork := ⟨Or.inl (am_in3 14 rfl rfl), am_in3 16 rfl rfl, am_in0 5 rfl rfl⟩
set_option maxRecDepth 100000 in
theorem msRX10_126 : am_VS RX10 126 mX6_sow := ⟨Or.inl (am_in3 18 rfl rfl), am_in3 19 rfl rfl, am_in3 20 rfl rfl⟩
set_option maxRecDepth 100000 in
theorem msRX10_129 : am_VS RX10 129 mX6_expose := ⟨Or.inl (am_in3 32 rfl rfl), am_in3 33 rfl rfl, am_in3 34 rfl rfl⟩
set_option maxRecDepth 100000 in
theorem msRX10_132 : am_VS RX10 132 mX6_see := ⟨Or.inl (am_in3 36 rfl rfl), am_in3 37 rfl rfl, am_in3 38 rfl rfl⟩
set_option maxRecDepth 100000 in
theorem msRX10_135 : am_VS RX10 135 mX6_sicken := ⟨Or.inl (am_in3 45 rfl rfl), am_in3 46 rfl rfl, am_in3 47 rfl rfl⟩
set_option maxRecDepth 100000 in
theorem msRX10_139 : am_SS RX10 139 mX11_within := ⟨Or.inr ⟨"PloughField", am_inN2 229 rfl rfl⟩, am_in2 189 rfl rfl⟩
set_option maxRecDepth 100000 in
theorem msRX10_143 : am_VS RX10 143 mX10_leavesOut := ⟨Or.inl (am_in2 234 rfl rfl), am_in2 235 rfl rfl, am_in2 236 rfl rfl⟩
set_option maxRecDepth 100000 in
theorem msRX10_147 : am_VS RX10 147 mX1_bring := ⟨Or.inl (am_in2 238 rfl rfl), am_in2 239 rfl rfl, am_in3 0 rfl rfl⟩
set_option maxRecDepth 100000 in
theorem msRX10_150 : am_VS RX10 150 mX0_fallingAt := ⟨Or.inl (am_in3 139 rfl rfl), am_in3 140 rfl rfl, am_in3 141 rfl rfl⟩
set_option maxRecDepth 100000 in
theorem msRX10_153 : am_VS RX10 153 mX2_rainOn := ⟨Or.inl (am_in3 144 rfl rfl), am_in3 145 rfl rfl, am_in3 146 rfl rfl⟩
set_option maxRecDepth 100000 in
theorem msRX10_156 : am_VS RX10 156 mX2_flow := ⟨Or.inl (am_in3 149 rfl rfl), am_in3 150 rfl rfl, am_in3 151 rfl rfl⟩
set_option maxRecDepth 100000 in
theorem msRX10_159 : am_VS RX10 159 mX2_dry := ⟨Or.inl (am_in3 160 rfl rfl), am_in3 161 rfl rfl, am_in3 162 rfl rfl⟩
set_option maxRecDepth 100000 in
theorem msRX10_162 : am_VS RX10 162 mX10_makeOffers := ⟨Or.inl (am_in3 164 rfl rfl), am_in3 166 rfl rfl, am_in0 11 rfl rfl⟩
set_option maxRecDepth 100000 in
theorem msRX10_165 : am_VS RX10 165 mX10_takeTurn := ⟨Or.inl (am_in3 238 rfl rfl), am_in4 0 rfl rfl, am_in0 19 rfl rfl⟩
set_option maxRecDepth 100000 in
theorem msRX10_168 : am_VS RX10 168 mX6_drown := ⟨Or.inl (am_in4 62 rfl rfl), am_in4 63 rfl rfl, am_in4 64 rfl rfl⟩
set_option maxRecDepth 100000 in
theorem msRX10_172 : am_VS RX10 172 mX6_spread := ⟨Or.inl (am_in4 67 rfl rfl), am_in4 68 rfl rfl, am_in4 69 rfl rfl⟩
set_option maxRecDepth 100000 in
theorem msRX10_175 : am_VS RX10 175 mX6_grow := ⟨Or.inl (am_in4 76 rfl rfl), am_in4 77 rfl rfl, am_in4 78 rfl rfl⟩
set_option maxRecDepth 100000 in
theorem msRX10_178 : am_VS RX10 178 mX1_readyOnes := ⟨Or.inl (am_in3 168 rfl rfl), am_in3 169 rfl rfl, am_in3 170 rfl rfl⟩
set_option maxRecDepth 100000 in
theorem msRX10_185 : am_VS RX10 185 mX10_ofKind := ⟨Or.inl (am_in3 180 rfl rfl), am_in3 182 rfl rfl, am_in0 12 rfl rfl⟩
set_option maxRecDepth 100000 in
theorem msRX10_192 : am_VS RX10 192 mX5_search := ⟨Or.inl (am_in3 184 rfl rfl), am_in3 185 rfl rfl, am_in3 186 rfl rfl⟩
set_option maxRecDepth 100000 in
theorem msRX10_198 : am_VS RX10 198 mX10_cheapest := ⟨Or.inl (am_in3 209 rfl rfl), am_in3 211 rfl rfl, am_in0 15 rfl rfl⟩
set_option maxRecDepth 100000 in
theorem msRX10_201 : am_VS RX10 201 mX10_takeOn := ⟨Or.inl (am_in3 234 rfl rfl), am_in3 236 rfl rfl, am_in0 18 rfl rfl⟩
set_option maxRecDepth 100000 in
theorem msRX10_204 : am_VS RX10 204 mX10_goalOf := ⟨Or.inl (am_in3 213 rfl rfl), am_in3 215 rfl rfl, am_in0 16 rfl rfl⟩
set_option maxRecDepth 100000 in
theorem msRX10_207 : am_VS RX10 207 mX5_hasWay := ⟨Or.inl (am_in3 229 rfl rfl), am_in3 222 rfl rfl, am_in3 223 rfl rfl⟩
set_option maxRecDepth 100000 in
theorem msRX10_210 : am_VS RX10 210 mX5_costTo := ⟨Or.inl (am_in3 230 rfl rfl), am_in3 231 rfl rfl, am_in3 232 rfl rfl⟩
set_option maxRecDepth 100000 in
theorem msRX10_213 : am_VS RX10 213 mX5_nearestBeside := ⟨Or.inl (am_in3 217 rfl rfl), am_in3 218 rfl rfl, am_in3 219 rfl rfl⟩
set_option maxRecDepth 100000 in
theorem msRX10_222 : am_VS RX10 222 mX1_plugIn := ⟨Or.inl (am_in4 2 rfl rfl), am_in4 3 rfl rfl, am_in4 4 rfl rfl⟩
set_option maxRecDepth 100000 in
theorem msRX10_225 : am_VS RX10 225 mX1_hasPower := ⟨Or.inl (am_in4 7 rfl rfl), am_in3 177 rfl rfl, am_in3 178 rfl rfl⟩
set_option maxRecDepth 100000 in
theorem msRX10_229 : am_VS RX10 229 mX10_isAtWork := ⟨Or.inl (am_in4 8 rfl rfl), am_in4 10 rfl rfl, am_in0 20 rfl rfl⟩
set_option maxRecDepth 100000 in
theorem msRX10_232 : am_VS RX10 232 mX10_doWork := ⟨Or.inl (am_in4 18 rfl rfl), am_in4 20 rfl rfl, am_in0 21 rfl rfl⟩
set_option maxRecDepth 100000 in
theorem msRX10_235 : am_VS RX10 235 mX10_move := ⟨Or.inl (am_in4 38 rfl rfl), am_in4 40 rfl rfl, am_in0 22 rfl rfl⟩
set_option maxRecDepth 100000 in
theorem msRX10_238 : am_VS RX10 238 mX1_isHome := ⟨Or.inl (am_in4 58 rfl rfl), am_in4 59 rfl rfl, am_in4 60 rfl rfl⟩
set_option maxRecDepth 100000 in
theorem msRX10_244 : am_SS RX10 244 mX11_far := ⟨Or.inr ⟨"PloughField", am_inN4 12 rfl rfl⟩, am_in4 13 rfl rfl⟩
set_option maxRecDepth 100000 in
theorem msRX10_247 : am_VS RX10 247 mX6_marksOn := ⟨Or.inl (am_in4 22 rfl rfl), am_in4 23 rfl rfl, am_in4 24 rfl rfl⟩
set_option maxRecDepth 100000 in
theorem msRX10_250 : am_VS RX10 250 mX6_remove := ⟨Or.inl (am_in4 26 rfl rfl), am_in4 27 rfl rfl, am_in4 28 rfl rfl⟩
set_option maxRecDepth 100000 in
theorem msRX10_253 : am_VS RX10 253 mX6_nourish := ⟨Or.inl (am_in4 30 rfl rfl), am_in4 31 rfl rfl, am_in4 32 rfl rfl⟩
set_option maxRecDepth 100000 in
theorem msRX10_256 : am_VS RX10 256 mX1_freeOneStuck := ⟨Or.inl (am_in4 34 rfl rfl), am_in4 35 rfl rfl, am_in4 36 rfl rfl⟩
set_option maxRecDepth 100000 in
theorem msRX10_259 : am_VS RX10 259 mX5_firstTo := ⟨Or.inl (am_in4 42 rfl rfl), am_in4 43 rfl rfl, am_in4 44 rfl rfl⟩
set_option maxRecDepth 100000 in
theorem msRX10_262 : am_SS RX10 262 mX11_isCell := ⟨Or.inr ⟨"PloughField", am_inN4 46 rfl rfl⟩, am_in2 186 rfl rfl⟩
set_option maxRecDepth 100000 in
theorem msRX10_265 : am_VS RX10 265 mX10_leaveWork := ⟨Or.inl (am_in4 47 rfl rfl), am_in4 49 rfl rfl, am_in0 23 rfl rfl⟩
set_option maxRecDepth 100000 in
theorem msRX10_274 : am_VS RX10 274 mX2_heavy := ⟨Or.inl (am_in4 51 rfl rfl), am_in3 192 rfl rfl, am_in3 193 rfl rfl⟩
set_option maxRecDepth 100000 in
theorem msRX10_280 : am_VS RX10 280 mX1_hearOf := ⟨Or.inl (am_in4 52 rfl rfl), am_in4 53 rfl rfl, am_in4 54 rfl rfl⟩
set_option maxRecDepth 100000 in
theorem msRX10_283 : am_VS RX10 283 mX6_standsOn := ⟨Or.inl (am_in4 89 rfl rfl), am_in3 24 rfl rfl, am_in3 25 rfl rfl⟩
set_option maxRecDepth 100000 in
theorem msRX10_291 : am_VS RX10 291 mX6_isIll := ⟨Or.inl (am_in4 90 rfl rfl), am_in3 123 rfl rfl, am_in3 124 rfl rfl⟩
set_option maxRecDepth 100000 in
theorem msRX10_300 : am_VS RX10 300 mX6_weedHundredths := ⟨Or.inl (am_in4 91 rfl rfl), am_in4 92 rfl rfl, am_in4 93 rfl rfl⟩
set_option maxRecDepth 100000 in
theorem msRX10_308 : am_VS RX10 308 mX0_hoursToRain := ⟨Or.inl (am_in5 206 rfl rfl), am_in5 207 rfl rfl, am_in5 208 rfl rfl⟩
set_option maxRecDepth 100000 in
theorem msRX11_67 : am_SS RX11 67 mX11_isCell := ⟨Or.inl (am_in2 185 rfl rfl), am_in2 186 rfl rfl⟩
set_option maxRecDepth 100000 in
theorem msRX11_71 : am_SS RX11 71 mX11_within := ⟨Or.inl (am_in2 188 rfl rfl), am_in2 189 rfl rfl⟩
set_option maxRecDepth 100000 in
theorem msRX11_75 : am_VS RX11 75 mX11_tell := ⟨Or.inl (am_in2 191 rfl rfl), am_in2 193 rfl rfl, am_in0 0 rfl rfl⟩
set_option maxRecDepth 100000 in
theorem msRX11_79 : am_SS RX11 79 mX11_isSetting := ⟨Or.inl (am_in3 54 rfl rfl), am_in3 55 rfl rfl⟩
set_option maxRecDepth 100000 in
theorem msRX11_90 : am_VS RX11 90 mX0_hasRoom := ⟨Or.inl (am_in3 61 rfl rfl), am_in3 62 rfl rfl, am_in3 63 rfl rfl⟩
set_option maxRecDepth 100000 in
theorem msRX11_94 : am_VS RX11 94 mX9_add := ⟨Or.inl (am_in2 199 rfl rfl), am_in2 200 rfl rfl, am_in2 201 rfl rfl⟩
set_option maxRecDepth 100000 in
theorem msRX11_100 : am_VS RX11 100 mX11_tellNewest := ⟨Or.inl (am_in3 66 rfl rfl), am_in3 68 rfl rfl, am_in0 7 rfl rfl⟩
set_option maxRecDepth 100000 in
theorem msRX11_107 : am_VS RX11 107 mX9_has := ⟨Or.inl (am_in3 78 rfl rfl), am_in3 79 rfl rfl, am_in3 80 rfl rfl⟩
set_option maxRecDepth 100000 in
theorem msRX11_114 : am_VS RX11 114 mX1_isFlat := ⟨Or.inl (am_in3 82 rfl rfl), am_in3 11 rfl rfl, am_in3 12 rfl rfl⟩
set_option maxRecDepth 100000 in
theorem msRX11_119 : am_VS RX11 119 mX11_addWork := ⟨Or.inl (am_in3 87 rfl rfl), am_in3 89 rfl rfl, am_in0 8 rfl rfl⟩
set_option maxRecDepth 100000 in
theorem msRX11_126 : am_SS RX11 126 mX11_isOdds := ⟨Or.inl (am_in3 99 rfl rfl), am_in3 100 rfl rfl⟩
set_option maxRecDepth 100000 in
theorem msRX11_136 : am_VS RX11 136 mX6_standsOn := ⟨Or.inl (am_in3 106 rfl rfl), am_in3 24 rfl rfl, am_in3 25 rfl rfl⟩
set_option maxRecDepth 100000 in
theorem msRX11_144 : am_SS RX11 144 mX11_areMarks := ⟨Or.inl (am_in3 111 rfl rfl), am_in3 112 rfl rfl⟩
set_option maxRecDepth 100000 in
theorem msRX11_147 : am_VS RX11 147 mX6_isIll := ⟨Or.inl (am_in3 122 rfl rfl), am_in3 123 rfl rfl, am_in3 124 rfl rfl⟩
set_option maxRecDepth 100000 in
theorem msRX11_150 : am_VS RX11 150 mX10_playTo := ⟨Or.inl (am_in3 130 rfl rfl), am_in3 131 rfl rfl, am_in3 132 rfl rfl⟩
set_option maxRecDepth 100000 in
theorem msRX11_154 : am_VS RX11 154 mX10_factOfCell := ⟨Or.inl (am_in4 85 rfl rfl), am_in4 86 rfl rfl, am_in4 87 rfl rfl⟩
set_option maxRecDepth 100000 in
theorem msRX11_158 : am_VS RX11 158 mX6_shareOf := ⟨Or.inl (am_in4 104 rfl rfl), am_in4 96 rfl rfl, am_in4 97 rfl rfl⟩
set_option maxRecDepth 100000 in
theorem msRX11_161 : am_VS RX11 161 mX1_factOfCart := ⟨Or.inl (am_in4 109 rfl rfl), am_in4 110 rfl rfl, am_in4 111 rfl rfl⟩
set_option maxRecDepth 100000 in
theorem msRX11_167 : am_VS RX11 167 mX9_at := ⟨Or.inl (am_in4 124 rfl rfl), am_in2 213 rfl rfl, am_in2 214 rfl rfl⟩
set_option maxRecDepth 100000 in
theorem msRX11_170 : am_VS RX11 170 mX10_stateOfWork := ⟨Or.inl (am_in4 125 rfl rfl), am_in4 126 rfl rfl, am_in4 127 rfl rfl⟩
set_option maxRecDepth 100000 in
theorem msRX11_174 : am_VS RX11 174 mX10_doerOfWork := ⟨Or.inl (am_in4 129 rfl rfl), am_in4 130 rfl rfl, am_in4 131 rfl rfl⟩
set_option maxRecDepth 100000 in
theorem msRX11_184 : am_VS RX11 184 mX5_search := ⟨Or.inl (am_in4 137 rfl rfl), am_in3 185 rfl rfl, am_in3 186 rfl rfl⟩
set_option maxRecDepth 100000 in
theorem msRX11_188 : am_VS RX11 188 mX5_hasWay := ⟨Or.inl (am_in4 138 rfl rfl), am_in3 222 rfl rfl, am_in3 223 rfl rfl⟩
set_option maxRecDepth 100000 in
theorem msRX11_191 : am_VS RX11 191 mX5_costTo := ⟨Or.inl (am_in4 139 rfl rfl), am_in3 231 rfl rfl, am_in3 232 rfl rfl⟩
set_option maxRecDepth 100000 in
theorem msRX11_194 : am_VS RX11 194 mX5_stepsTo := ⟨Or.inl (am_in4 140 rfl rfl), am_in4 141 rfl rfl, am_in4 142 rfl rfl⟩
set_option maxRecDepth 100000 in
theorem msRX11_197 : am_VS RX11 197 mX5_firstTo := ⟨Or.inl (am_in4 144 rfl rfl), am_in4 43 rfl rfl, am_in4 44 rfl rfl⟩
set_option maxRecDepth 100000 in
theorem msRX11_200 : am_VS RX11 200 mX2_allWet := ⟨Or.inl (am_in4 149 rfl rfl), am_in4 150 rfl rfl, am_in4 151 rfl rfl⟩
set_option maxRecDepth 100000 in
theorem msRX11_221 : am_SS RX11 221 mX4_spotOf := ⟨Or.inl (am_in4 158 rfl rfl), am_in4 159 rfl rfl⟩
set_option maxRecDepth 100000 in
theorem msRX11_227 : am_SS RX11 227 mX4_pullOf := ⟨Or.inl (am_in4 175 rfl rfl), am_in4 176 rfl rfl⟩
set_option maxRecDepth 100000 in
theorem msRX11_234 : am_VS RX11 234 mX9_isFull := ⟨Or.inl (am_in2 195 rfl rfl), am_in2 196 rfl rfl, am_in2 197 rfl rfl⟩
set_option maxRecDepth 100000 in
theorem msRX11_238 : am_VS RX11 238 mX8_waysAsGood := ⟨Or.inl (am_in4 201 rfl rfl), am_in4 202 rfl rfl, am_in4 203 rfl rfl⟩
set_option maxRecDepth 100000 in
theorem msRX11_242 : am_VS RX11 242 mX8_allWays := ⟨Or.inl (am_in4 223 rfl rfl), am_in4 224 rfl rfl, am_in4 225 rfl rfl⟩
set_option maxRecDepth 100000 in
theorem msRX11_245 : am_VS RX11 245 mX8_lead := ⟨Or.inl (am_in4 228 rfl rfl), am_in4 206 rfl rfl, am_in4 207 rfl rfl⟩
set_option maxRecDepth 100000 in
theorem msRX11_249 : am_VS RX11 249 mX7_hasRoomForFive := ⟨Or.inl (am_in4 234 rfl rfl), am_in4 235 rfl rfl, am_in4 236 rfl rfl⟩
set_option maxRecDepth 100000 in
theorem msRX11_252 : am_VS RX11 252 mX7_append := ⟨Or.inl (am_in4 238 rfl rfl), am_in4 239 rfl rfl, am_in5 0 rfl rfl⟩
set_option maxRecDepth 100000 in
theorem msRX11_258 : am_VS RX11 258 mX7_read := ⟨Or.inl (am_in5 6 rfl rfl), am_in5 7 rfl rfl, am_in5 8 rfl rfl⟩
set_option maxRecDepth 100000 in
theorem msRX11_270 : am_VS RX11 270 mX3_takeOver := ⟨Or.inl (am_in5 181 rfl rfl), am_in5 182 rfl rfl, am_in5 183 rfl rfl⟩
set_option maxRecDepth 100000 in
theorem msRX11_274 : am_VS RX11 274 mX11_findsAct := ⟨Or.inl (am_in5 198 rfl rfl), am_in5 200 rfl rfl, am_in0 42 rfl rfl⟩
set_option maxRecDepth 100000 in
theorem msRX11_286 : am_SS RX11 286 mJ9_min_7cf53 := ⟨Or.inl (am_in6 6 rfl rfl), am_in3 207 rfl rfl⟩
set_option maxRecDepth 100000 in
theorem msRX11_291 : am_SS RX11 291 mJ9_max_7cf53 := ⟨Or.inl (am_in6 7 rfl rfl), am_in5 52 rfl rfl⟩
set_option maxRecDepth 100000 in
theorem msRX11_294 : am_VS RX11 294 mX11_canLeaveOut := ⟨Or.inl (am_in6 12 rfl rfl), am_in6 14 rfl rfl, am_in0 46 rfl rfl⟩
set_option maxRecDepth 100000 in
theorem msRX11_297 : am_VS RX11 297 mX10_leavesOut := ⟨Or.inl (am_in6 16 rfl rfl), am_in2 235 rfl rfl, am_in2 236 rfl rfl⟩
set_option maxRecDepth 100000 in
theorem msRX11_300 : am_VS RX11 300 mX10_begin := ⟨Or.inl (am_in6 17 rfl rfl), am_in1 232 rfl rfl, am_in1 233 rfl rfl⟩
set_option maxRecDepth 100000 in
theorem msRX11_307 : am_VS RX11 307 mX10_worksThatAre := ⟨Or.inl (am_in6 22 rfl rfl), am_in6 23 rfl rfl, am_in6 24 rfl rfl⟩
set_option maxRecDepth 100000 in
theorem msRX11_310 : am_SS RX11 310 mJ13_bitCount_95d88 := ⟨Or.inl (am_in6 26 rfl rfl), am_in4 114 rfl rfl⟩
set_option maxRecDepth 100000 in
theorem msRX11_317 : am_VS RX11 317 mX1_cartsStuck := ⟨Or.inl (am_in6 27 rfl rfl), am_in6 28 rfl rfl, am_in6 29 rfl rfl⟩
set_option maxRecDepth 100000 in
theorem msRX11_320 : am_VS RX11 320 mX6_allGot := ⟨Or.inl (am_in6 31 rfl rfl), am_in6 32 rfl rfl, am_in6 33 rfl rfl⟩
set_option maxRecDepth 100000 in
theorem msRX11_323 : am_VS RX11 323 mX10_hearTold := ⟨Or.inl (am_in2 208 rfl rfl), am_in2 209 rfl rfl, am_in2 210 rfl rfl⟩
set_option maxRecDepth 100000 in
theorem msRX11_326 : am_VS RX11 326 mX10_gatherFacts := ⟨Or.inl (am_in5 202 rfl rfl), am_in5 203 rfl rfl, am_in5 204 rfl rfl⟩
set_option maxRecDepth 100000 in
theorem msRX11_330 : am_VS RX11 330 mX3_decide := ⟨Or.inl (am_in5 212 rfl rfl), am_in5 213 rfl rfl, am_in5 214 rfl rfl⟩
set_option maxRecDepth 100000 in
theorem msRX11_334 : am_SS RX11 334 mJ9_abs_0f7a4 := ⟨Or.inl (am_in4 15 rfl rfl), am_in4 16 rfl rfl⟩
set_option maxRecDepth 100000 in
theorem msRX12_152 : am_VS RX12 152 mX12_begins := ⟨Or.inl (am_in6 41 rfl rfl), am_in6 43 rfl rfl, am_in0 47 rfl rfl⟩
set_option maxRecDepth 100000 in
theorem msRX12_162 : am_SS RX12 162 mX12_isIn := ⟨Or.inl (am_in7 9 rfl rfl), am_in7 10 rfl rfl⟩
set_option maxRecDepth 100000 in
theorem msRX12_166 : am_SS RX12 166 mJ9_abs_0f7a4 := ⟨Or.inl (am_in7 114 rfl rfl), am_in4 16 rfl rfl⟩
set_option maxRecDepth 100000 in
theorem msRX12_178 : am_VS RX12 178 mX12_does := ⟨Or.inl (am_in7 16 rfl rfl), am_in7 18 rfl rfl, am_in0 49 rfl rfl⟩
set_option maxRecDepth 100000 in
theorem msRX12_182 : am_VS RX12 182 mX12_comes := ⟨Or.inl (am_in7 20 rfl rfl), am_in7 22 rfl rfl, am_in0 50 rfl rfl⟩
set_option maxRecDepth 100000 in
theorem msRX12_185 : am_VS RX12 185 mX12_charged := ⟨Or.inl (am_in7 24 rfl rfl), am_in7 26 rfl rfl, am_in0 51 rfl rfl⟩
set_option maxRecDepth 100000 in
theorem msRX12_188 : am_VS RX12 188 mX12_isBut := ⟨Or.inl (am_in7 28 rfl rfl), am_in7 30 rfl rfl, am_in0 52 rfl rfl⟩
set_option maxRecDepth 100000 in
theorem msRX12_192 : am_VS RX12 192 mX12_grows := ⟨Or.inl (am_in7 32 rfl rfl), am_in7 34 rfl rfl, am_in0 53 rfl rfl⟩
set_option maxRecDepth 100000 in
theorem msRX12_195 : am_VS RX12 195 mX12_seen := ⟨Or.inl (am_in7 37 rfl rfl), am_in7 39 rfl rfl, am_in0 54 rfl rfl⟩
set_option maxRecDepth 100000 in
theorem msRX12_199 : am_SS RX12 199 mX12_isCell := ⟨Or.inl (am_in7 6 rfl rfl), am_in7 7 rfl rfl⟩
set_option maxRecDepth 100000 in
theorem msRX12_203 : am_VS RX12 203 mX12_tells := ⟨Or.inl (am_in7 12 rfl rfl), am_in7 14 rfl rfl, am_in0 48 rfl rfl⟩
set_option maxRecDepth 100000 in
theorem msRX12_207 : am_SS RX12 207 mX12_isSet := ⟨Or.inl (am_in7 46 rfl rfl), am_in7 47 rfl rfl⟩
set_option maxRecDepth 100000 in
theorem msRX12_216 : am_VS RX12 216 mX12_isCart := ⟨Or.inl (am_in7 61 rfl rfl), am_in7 63 rfl rfl, am_in0 55 rfl rfl⟩
set_option maxRecDepth 100000 in
theorem msRX12_228 : am_VS RX12 228 mX12_has := ⟨Or.inl (am_in7 81 rfl rfl), am_in7 83 rfl rfl, am_in0 56 rfl rfl⟩
set_option maxRecDepth 100000 in
theorem msRX12_231 : am_SS RX12 231 mX12_one := ⟨Or.inl (am_in7 97 rfl rfl), am_in7 98 rfl rfl⟩
set_option maxRecDepth 100000 in
theorem msRX12_241 : am_VS RX12 241 mX12_heavy := ⟨Or.inl (am_in7 120 rfl rfl), am_in7 122 rfl rfl, am_in0 59 rfl rfl⟩
set_option maxRecDepth 100000 in
theorem msRX12_245 : am_SS RX12 245 mX12_far := ⟨Or.inl (am_in7 111 rfl rfl), am_in7 112 rfl rfl⟩
set_option maxRecDepth 100000 in
theorem msRX12_248 : am_SS RX12 248 mX12_isGoal := ⟨Or.inl (am_in7 108 rfl rfl), am_in7 109 rfl rfl⟩
set_option maxRecDepth 100000 in
theorem msRX12_254 : am_VS RX12 254 mX12_mayEnter := ⟨Or.inl (am_in7 116 rfl rfl), am_in7 118 rfl rfl, am_in0 58 rfl rfl⟩
set_option maxRecDepth 100000 in
theorem msRX12_257 : am_SS RX12 257 mX12_beside := ⟨Or.inl (am_in7 124 rfl rfl), am_in7 125 rfl rfl⟩
set_option maxRecDepth 100000 in
theorem msRX12_262 : am_SS RX12 262 mJ9_min_f86c9 := ⟨Or.inl (am_in7 128 rfl rfl), am_in5 237 rfl rfl⟩
set_option maxRecDepth 100000 in
theorem msRX12_266 : am_VS RX12 266 mX12_ways := ⟨Or.inl (am_in7 104 rfl rfl), am_in7 106 rfl rfl, am_in0 57 rfl rfl⟩
set_option maxRecDepth 100000 in
theorem msRX12_270 : am_VS RX12 270 mX12_nextOf := ⟨Or.inl (am_in7 129 rfl rfl), am_in7 131 rfl rfl, am_in0 60 rfl rfl⟩
set_option maxRecDepth 100000 in
theorem msRX12_273 : am_VS RX12 273 mX12_mayTake := ⟨Or.inl (am_in7 157 rfl rfl), am_in7 159 rfl rfl, am_in0 66 rfl rfl⟩
set_option maxRecDepth 100000 in
theorem msRX12_276 : am_SS RX12 276 mJ9_min_7cf53 := ⟨Or.inl (am_in7 169 rfl rfl), am_in3 207 rfl rfl⟩
set_option maxRecDepth 100000 in
theorem msRX12_278 : am_VS RX12 278 mX12_dies := ⟨Or.inl (am_in7 178 rfl rfl), am_in7 180 rfl rfl, am_in0 71 rfl rfl⟩
set_option maxRecDepth 100000 in
theorem msRX12_281 : am_VS RX12 281 mX12_pulls := ⟨Or.inl (am_in7 182 rfl rfl), am_in7 184 rfl rfl, am_in0 72 rfl rfl⟩
set_option maxRecDepth 100000 in
theorem msRX12_284 : am_VS RX12 284 mX12_gives := ⟨Or.inl (am_in7 165 rfl rfl), am_in7 167 rfl rfl, am_in0 68 rfl rfl⟩
set_option maxRecDepth 100000 in
theorem msRX12_287 : am_VS RX12 287 mX12_works := ⟨Or.inl (am_in7 174 rfl rfl), am_in7 176 rfl rfl, am_in0 70 rfl rfl⟩
set_option maxRecDepth 100000 in
theorem msRX12_289 : am_VS RX12 289 mX12_drops := ⟨Or.inl (am_in7 186 rfl rfl), am_in7 188 rfl rfl, am_in0 73 rfl rfl⟩
set_option maxRecDepth 100000 in
theorem msRX12_292 : am_VS RX12 292 mX12_enters := ⟨Or.inl (am_in7 190 rfl rfl), am_in7 192 rfl rfl, am_in0 74 rfl rfl⟩
set_option maxRecDepth 100000 in
theorem msRX12_295 : am_VS RX12 295 mX12_moves := ⟨Or.inl (am_in7 170 rfl rfl), am_in7 172 rfl rfl, am_in0 69 rfl rfl⟩
set_option maxRecDepth 100000 in
theorem msRX12_298 : am_VS RX12 298 mX12_lotIsLow := ⟨Or.inl (am_in7 198 rfl rfl), am_in7 200 rfl rfl, am_in0 76 rfl rfl⟩
set_option maxRecDepth 100000 in
theorem msRX12_302 : am_VS RX12 302 mX12_rains := ⟨Or.inl (am_in7 141 rfl rfl), am_in7 143 rfl rfl, am_in0 62 rfl rfl⟩
set_option maxRecDepth 100000 in
theorem msRX12_304 : am_VS RX12 304 mX12_flows := ⟨Or.inl (am_in7 145 rfl rfl), am_in7 147 rfl rfl, am_in0 63 rfl rfl⟩
set_option maxRecDepth 100000 in
theorem msRX12_307 : am_VS RX12 307 mX12_dries := ⟨Or.inl (am_in7 149 rfl rfl), am_in7 151 rfl rfl, am_in0 64 rfl rfl⟩
set_option maxRecDepth 100000 in
theorem msRX12_310 : am_VS RX12 310 mX12_offers := ⟨Or.inl (am_in7 153 rfl rfl), am_in7 155 rfl rfl, am_in0 65 rfl rfl⟩
set_option maxRecDepth 100000 in
theorem msRX12_313 : am_VS RX12 313 mX12_acts := ⟨Or.inl (am_in7 161 rfl rfl), am_in7 163 rfl rfl, am_in0 67 rfl rfl⟩
set_option maxRecDepth 100000 in
theorem msRX12_316 : am_VS RX12 316 mX12_ends := ⟨Or.inl (am_in7 194 rfl rfl), am_in7 196 rfl rfl, am_in0 75 rfl rfl⟩
set_option maxRecDepth 100000 in
theorem msRX12_319 : am_VS RX12 319 mX12_hour := ⟨Or.inl (am_in7 137 rfl rfl), am_in7 139 rfl rfl, am_in0 61 rfl rfl⟩
set_option maxRecDepth 100000 in
theorem msRX12_322 : am_VS RX12 322 mX12_weeds := ⟨Or.inl (am_in7 210 rfl rfl), am_in7 212 rfl rfl, am_in0 78 rfl rfl⟩
set_option maxRecDepth 100000 in
theorem msRX12_325 : am_VS RX12 325 mX12_cellOf := ⟨Or.inl (am_in7 206 rfl rfl), am_in7 208 rfl rfl, am_in0 77 rfl rfl⟩
set_option maxRecDepth 100000 in
theorem msRX12_330 : am_VS RX12 330 mX12_spreads := ⟨Or.inl (am_in8 4 rfl rfl), am_in8 6 rfl rfl, am_in0 81 rfl rfl⟩
set_option maxRecDepth 100000 in
theorem msRX12_334 : am_VS RX12 334 mX12_illMany := ⟨Or.inl (am_in7 236 rfl rfl), am_in7 238 rfl rfl, am_in0 79 rfl rfl⟩
set_option maxRecDepth 100000 in
theorem msRX12_338 : am_VS RX12 338 mX12_isSpot := ⟨Or.inl (am_in8 0 rfl rfl), am_in8 2 rfl rfl, am_in0 80 rfl rfl⟩
set_option maxRecDepth 100000 in
theorem msRX12_344 : am_VS RX12 344 mX12_finds := ⟨Or.inl (am_in8 12 rfl rfl), am_in8 14 rfl rfl, am_in0 82 rfl rfl⟩
set_option maxRecDepth 100000 in
theorem msRX12_347 : am_VS RX12 347 mX12_reached := ⟨Or.inl (am_in8 16 rfl rfl), am_in8 18 rfl rfl, am_in0 83 rfl rfl⟩
set_option maxRecDepth 100000 in
theorem msRX12_350 : am_SS RX12 350 mX12_bits := ⟨Or.inl (am_in8 20 rfl rfl), am_in8 21 rfl rfl⟩
set_option maxRecDepth 100000 in
theorem msRX12_356 : am_VS RX12 356 mX12_leadOf := ⟨Or.inl (am_in8 31 rfl rfl), am_in8 33 rfl rfl, am_in0 84 rfl rfl⟩
set_option maxRecDepth 100000 in
theorem msRX12_363 : am_VS RX12 363 mX12_four := ⟨Or.inl (am_in8 44 rfl rfl), am_in8 46 rfl rfl, am_in0 85 rfl rfl⟩
set_option maxRecDepth 100000 in
theorem msRX12_372 : am_VS RX12 372 mX12_blanks := ⟨Or.inl (am_in8 52 rfl rfl), am_in8 54 rfl rfl, am_in0 86 rfl rfl⟩
set_option maxRecDepth 100000 in
theorem msRX12_378 : am_VS RX12 378 mX12_word := ⟨Or.inl (am_in8 65 rfl rfl), am_in8 67 rfl rfl, am_in0 89 rfl rfl⟩
set_option maxRecDepth 100000 in
theorem msRX12_407 : am_VS RX12 407 mX12_takesNumber := ⟨Or.inl (am_in8 84 rfl rfl), am_in8 86 rfl rfl, am_in0 93 rfl rfl⟩
set_option maxRecDepth 100000 in
theorem msRX12_410 : am_VS RX12 410 mX12_puts := ⟨Or.inl (am_in8 88 rfl rfl), am_in8 90 rfl rfl, am_in0 94 rfl rfl⟩
set_option maxRecDepth 100000 in
theorem msRX12_413 : am_VS RX12 413 mX12_opens := ⟨Or.inl (am_in8 92 rfl rfl), am_in8 94 rfl rfl, am_in0 95 rfl rfl⟩
set_option maxRecDepth 100000 in
theorem msRX12_416 : am_VS RX12 416 mX12_ex := ⟨Or.inl (am_in8 72 rfl rfl), am_in8 74 rfl rfl, am_in0 90 rfl rfl⟩
set_option maxRecDepth 100000 in
theorem msRX12_419 : am_VS RX12 419 mX12_takesSign := ⟨Or.inl (am_in8 96 rfl rfl), am_in8 98 rfl rfl, am_in0 96 rfl rfl⟩
set_option maxRecDepth 100000 in
theorem msRX12_422 : am_SS RX12 422 mX12_asked := ⟨Or.inl (am_in8 100 rfl rfl), am_in8 101 rfl rfl⟩
set_option maxRecDepth 100000 in
theorem msRX12_426 : am_VS RX12 426 mX12_atom := ⟨Or.inl (am_in8 80 rfl rfl), am_in8 82 rfl rfl, am_in0 92 rfl rfl⟩
set_option maxRecDepth 100000 in
theorem msRX12_429 : am_VS RX12 429 mX12_product := ⟨Or.inl (am_in8 76 rfl rfl), am_in8 78 rfl rfl, am_in0 91 rfl rfl⟩
set_option maxRecDepth 100000 in
theorem msRX12_434 : am_VS RX12 434 mX12_single := ⟨Or.inl (am_in8 120 rfl rfl), am_in8 122 rfl rfl, am_in0 99 rfl rfl⟩
set_option maxRecDepth 100000 in
theorem msRX12_437 : am_VS RX12 437 mX12_any := ⟨Or.inl (am_in8 112 rfl rfl), am_in8 114 rfl rfl, am_in0 97 rfl rfl⟩
set_option maxRecDepth 100000 in
theorem msRX12_442 : am_VS RX12 442 mX12_takes := ⟨Or.inl (am_in8 61 rfl rfl), am_in8 63 rfl rfl, am_in0 88 rfl rfl⟩
set_option maxRecDepth 100000 in
theorem msRX12_446 : am_VS RX12 446 mX12_all := ⟨Or.inl (am_in8 116 rfl rfl), am_in8 118 rfl rfl, am_in0 98 rfl rfl⟩
set_option maxRecDepth 100000 in
theorem msRX12_464 : am_VS RX12 464 mX12_statement := ⟨Or.inl (am_in8 56 rfl rfl), am_in8 58 rfl rfl, am_in0 87 rfl rfl⟩
set_option maxRecDepth 100000 in
theorem msRX12_469 : am_SS RX12 469 mJ9_max_f86c9 := ⟨Or.inl (am_in8 155 rfl rfl), am_in6 0 rfl rfl⟩
set_option maxRecDepth 100000 in
theorem msRX12_472 : am_SS RX12 472 mX12_held := ⟨Or.inl (am_in8 151 rfl rfl), am_in8 152 rfl rfl⟩
set_option maxRecDepth 100000 in
theorem msRX12_476 : am_SS RX12 476 mX12_bit := ⟨Or.inl (am_in8 156 rfl rfl), am_in8 157 rfl rfl⟩
set_option maxRecDepth 100000 in
theorem msRX12_482 : am_SS RX12 482 mX12_both := ⟨Or.inl (am_in8 148 rfl rfl), am_in8 149 rfl rfl⟩
set_option maxRecDepth 100000 in
theorem msRX12_486 : am_SS RX12 486 mJ9_max_7cf53 := ⟨Or.inl (am_in8 143 rfl rfl), am_in5 52 rfl rfl⟩
set_option maxRecDepth 100000 in
theorem msRX12_488 : am_VS RX12 488 mX12_nextRain := ⟨Or.inl (am_in8 139 rfl rfl), am_in8 141 rfl rfl, am_in0 101 rfl rfl⟩
set_option maxRecDepth 100000 in
theorem msRX12_491 : am_VS RX12 491 mX12_runs := ⟨Or.inl (am_in8 144 rfl rfl), am_in8 146 rfl rfl, am_in0 102 rfl rfl⟩
set_option maxRecDepth 100000 in
theorem msRX12_495 : am_VS RX12 495 mX12_toDo := ⟨Or.inl (am_in8 135 rfl rfl), am_in8 137 rfl rfl, am_in0 100 rfl rfl⟩
set_option maxRecDepth 100000 in
theorem msRX12_498 : am_VS RX12 498 mX12_work := ⟨Or.inl (am_in8 164 rfl rfl), am_in7 66 rfl rfl, am_in7 67 rfl rfl⟩
set_option maxRecDepth 100000 in
theorem msRX12_504 : am_VS RX12 504 mX12_manyOf := ⟨Or.inl (am_in8 170 rfl rfl), am_in8 172 rfl rfl, am_in0 103 rfl rfl⟩
set_option maxRecDepth 100000 in
theorem msRX2_24 : am_SS RX2 24 mJ7_fill_53178 := ⟨Or.inl (am_in1 239 rfl rfl), am_in2 0 rfl rfl⟩
set_option maxRecDepth 100000 in
theorem msRX2_37 : am_SS RX2 37 mX11_isCell := ⟨Or.inr ⟨"PloughField", am_inN2 224 rfl rfl⟩, am_in2 186 rfl rfl⟩
set_option maxRecDepth 100000 in
theorem msRX2_43 : am_VS RX2 43 mX2_lowestBeside := ⟨Or.inl (am_in3 153 rfl rfl), am_in3 155 rfl rfl, am_in0 10 rfl rfl⟩
set_option maxRecDepth 100000 in
theorem msRX2_47 : am_SS RX2 47 mX11_beside := ⟨Or.inr ⟨"PloughField", am_inN3 157 rfl rfl⟩, am_in3 158 rfl rfl⟩
set_option maxRecDepth 100000 in
theorem msRX3_18 : am_SS RX3 18 mJ9_min_7cf53 := ⟨Or.inl (am_in5 185 rfl rfl), am_in3 207 rfl rfl⟩
set_option maxRecDepth 100000 in
theorem msRX3_43 : am_VS RX3 43 mX3_push := ⟨Or.inl (am_in5 216 rfl rfl), am_in5 218 rfl rfl, am_in0 43 rfl rfl⟩
set_option maxRecDepth 100000 in
theorem msRX3_47 : am_VS RX3 47 mX3_pop := ⟨Or.inl (am_in5 220 rfl rfl), am_in5 222 rfl rfl, am_in0 44 rfl rfl⟩
set_option maxRecDepth 100000 in
theorem msRX3_57 : am_VS RX3 57 mX3_apply := ⟨Or.inl (am_in5 224 rfl rfl), am_in5 226 rfl rfl, am_in0 45 rfl rfl⟩
set_option maxRecDepth 100000 in
theorem msRX3_61 : am_SS RX3 61 mX3_joined := ⟨Or.inl (am_in5 228 rfl rfl), am_in5 229 rfl rfl⟩
set_option maxRecDepth 100000 in
theorem msRX3_65 : am_SS RX3 65 mX3_held := ⟨Or.inl (am_in5 231 rfl rfl), am_in5 232 rfl rfl⟩
set_option maxRecDepth 100000 in
theorem msRX3_73 : am_SS RX3 73 mJ9_min_f86c9 := ⟨Or.inl (am_in5 236 rfl rfl), am_in5 237 rfl rfl⟩
set_option maxRecDepth 100000 in
theorem msRX3_76 : am_SS RX3 76 mJ9_max_f86c9 := ⟨Or.inl (am_in5 239 rfl rfl), am_in6 0 rfl rfl⟩
set_option maxRecDepth 100000 in
theorem msRX4_9 : am_SS RX4 9 mX11_bit := ⟨Or.inr ⟨"PloughField", am_inN4 161 rfl rfl⟩, am_in3 28 rfl rfl⟩
set_option maxRecDepth 100000 in
theorem msRX4_13 : am_SS RX4 13 mX4_reached := ⟨Or.inl (am_in4 162 rfl rfl), am_in4 163 rfl rfl⟩
set_option maxRecDepth 100000 in
theorem msRX4_21 : am_SS RX4 21 mX4_stepped := ⟨Or.inl (am_in4 165 rfl rfl), am_in4 166 rfl rfl⟩
set_option maxRecDepth 100000 in
theorem msRX4_25 : am_SS RX4 25 mJ13_bitCount_95d88 := ⟨Or.inl (am_in4 178 rfl rfl), am_in4 114 rfl rfl⟩
set_option maxRecDepth 100000 in
theorem msRX4_31 : am_SS RX4 31 mJ9_min_7cf53 := ⟨Or.inl (am_in4 179 rfl rfl), am_in3 207 rfl rfl⟩
set_option maxRecDepth 100000 in
theorem msRX4_37 : am_SS RX4 37 mX11_within := ⟨Or.inr ⟨"PloughField", am_inN4 180 rfl rfl⟩, am_in2 189 rfl rfl⟩
set_option maxRecDepth 100000 in
theorem msRX4_41 : am_SS RX4 41 mX4_cellNumbered := ⟨Or.inl (am_in4 181 rfl rfl), am_in4 182 rfl rfl⟩
set_option maxRecDepth 100000 in
theorem msRX4_45 : am_SS RX4 45 mX4_cellsReached := ⟨Or.inl (am_in4 184 rfl rfl), am_in4 185 rfl rfl⟩
set_option maxRecDepth 100000 in
theorem msRX4_49 : am_SS RX4 49 mJ6_bitCount_0f7a4 := ⟨Or.inl (am_in4 187 rfl rfl), am_in4 188 rfl rfl⟩
set_option maxRecDepth 100000 in
theorem msRX5_24 : am_SS RX5 24 mX11_within := ⟨Or.inr ⟨"PloughField", am_inN3 188 rfl rfl⟩, am_in2 189 rfl rfl⟩
set_option maxRecDepth 100000 in
theorem msRX5_30 : am_VS RX5 30 mX9_at := ⟨Or.inl (am_in3 189 rfl rfl), am_in2 213 rfl rfl, am_in2 214 rfl rfl⟩
set_option maxRecDepth 100000 in
theorem msRX5_37 : am_VS RX5 37 mX2_heavy := ⟨Or.inl (am_in3 191 rfl rfl), am_in3 192 rfl rfl, am_in3 193 rfl rfl⟩
set_option maxRecDepth 100000 in
theorem msRX5_48 : am_SS RX5 48 mX11_bit := ⟨Or.inr ⟨"PloughField", am_inN3 195 rfl rfl⟩, am_in3 28 rfl rfl⟩
set_option maxRecDepth 100000 in
theorem msRX5_58 : am_SS RX5 58 mX11_isCell := ⟨Or.inr ⟨"PloughField", am_inN3 196 rfl rfl⟩, am_in2 186 rfl rfl⟩
set_option maxRecDepth 100000 in
theorem msRX5_66 : am_VS RX5 66 mX5_takeNearest := ⟨Or.inl (am_in3 197 rfl rfl), am_in3 199 rfl rfl, am_in0 13 rfl rfl⟩
set_option maxRecDepth 100000 in
theorem msRX5_70 : am_VS RX5 70 mX5_goOnFrom := ⟨Or.inl (am_in3 201 rfl rfl), am_in3 203 rfl rfl, am_in0 14 rfl rfl⟩
set_option maxRecDepth 100000 in
theorem msRX5_74 : am_SS RX5 74 mX11_beside := ⟨Or.inr ⟨"PloughField", am_inN3 205 rfl rfl⟩, am_in3 158 rfl rfl⟩
set_option maxRecDepth 100000 in
theorem msRX5_77 : am_SS RX5 77 mJ9_min_7cf53 := ⟨Or.inl (am_in3 206 rfl rfl), am_in3 207 rfl rfl⟩
set_option maxRecDepth 100000 in
theorem msRX5_82 : am_VS RX5 82 mX5_hasWay := ⟨Or.inl (am_in3 221 rfl rfl), am_in3 222 rfl rfl, am_in3 223 rfl rfl⟩
set_option maxRecDepth 100000 in
theorem msRX5_86 : am_VS RX5 86 mX5_isNearer := ⟨Or.inl (am_in3 225 rfl rfl), am_in3 227 rfl rfl, am_in0 17 rfl rfl⟩
set_option maxRecDepth 100000 in
theorem msRX6_38 : am_SS RX6 38 mJ7_fill_53178 := ⟨Or.inl (am_in2 6 rfl rfl), am_in2 0 rfl rfl⟩
set_option maxRecDepth 100000 in
theorem msRX6_55 : am_SS RX6 55 mX11_isCell := ⟨Or.inr ⟨"PloughField", am_inN3 22 rfl rfl⟩, am_in2 186 rfl rfl⟩
set_option maxRecDepth 100000 in
theorem msRX6_59 : am_SS RX6 59 mX11_bit := ⟨Or.inr ⟨"PloughField", am_inN3 27 rfl rfl⟩, am_in3 28 rfl rfl⟩
set_option maxRecDepth 100000 in
theorem msRX6_63 : am_VS RX6 63 mX6_standsOn := ⟨Or.inl (am_in3 23 rfl rfl), am_in3 24 rfl rfl, am_in3 25 rfl rfl⟩
set_option maxRecDepth 100000 in
theorem msRX6_72 : am_VS RX6 72 mX9_at := ⟨Or.inl (am_in3 30 rfl rfl), am_in2 213 rfl rfl, am_in2 214 rfl rfl⟩
set_option maxRecDepth 100000 in
theorem msRX6_80 : am_VS RX6 80 mX6_weigh := ⟨Or.inl (am_in3 40 rfl rfl), am_in3 42 rfl rfl, am_in0 6 rfl rfl⟩
set_option maxRecDepth 100000 in
theorem msRX6_86 : am_SS RX6 86 mX11_within := ⟨Or.inr ⟨"PloughField", am_inN4 80 rfl rfl⟩, am_in2 189 rfl rfl⟩
set_option maxRecDepth 100000 in
theorem msRX6_90 : am_VS RX6 90 mX6_shareOf := ⟨Or.inl (am_in4 95 rfl rfl), am_in4 96 rfl rfl, am_in4 97 rfl rfl⟩
set_option maxRecDepth 100000 in
theorem msRX6_102 : am_VS RX6 102 mX6_remove := ⟨Or.inl (am_in4 66 rfl rfl), am_in4 27 rfl rfl, am_in4 28 rfl rfl⟩
set_option maxRecDepth 100000 in
theorem msRX6_106 : am_SS RX6 106 mX11_beside := ⟨Or.inr ⟨"PloughField", am_inN4 71 rfl rfl⟩, am_in3 158 rfl rfl⟩
set_option maxRecDepth 100000 in
theorem msRX6_109 : am_VS RX6 109 mX6_drawLot := ⟨Or.inl (am_in4 72 rfl rfl), am_in4 74 rfl rfl, am_in0 24 rfl rfl⟩
set_option maxRecDepth 100000 in
theorem msRX7_28 : am_SS RX7 28 mJ9_min_7cf53 := ⟨Or.inl (am_in5 10 rfl rfl), am_in3 207 rfl rfl⟩
set_option maxRecDepth 100000 in
theorem msRX7_34 : am_VS RX7 34 mX7_split := ⟨Or.inl (am_in5 11 rfl rfl), am_in5 13 rfl rfl, am_in0 28 rfl rfl⟩
set_option maxRecDepth 100000 in
theorem msRX7_47 : am_VS RX7 47 mX7_here := ⟨Or.inl (am_in5 141 rfl rfl), am_in5 143 rfl rfl, am_in0 33 rfl rfl⟩
set_option maxRecDepth 100000 in
theorem msRX7_51 : am_VS RX7 51 mX7_readStatement := ⟨Or.inl (am_in5 145 rfl rfl), am_in5 147 rfl rfl, am_in0 34 rfl rfl⟩
set_option maxRecDepth 100000 in
theorem msRX7_55 : am_VS RX7 55 mX7_placeHere := ⟨Or.inl (am_in5 177 rfl rfl), am_in5 179 rfl rfl, am_in0 41 rfl rfl⟩
set_option maxRecDepth 100000 in
theorem msRX7_61 : am_SS RX7 61 mX7_groupOf := ⟨Or.inl (am_in5 15 rfl rfl), am_in5 16 rfl rfl⟩
set_option maxRecDepth 100000 in
theorem msRX7_65 : am_VS RX7 65 mX7_tokenFrom := ⟨Or.inl (am_in5 18 rfl rfl), am_in5 20 rfl rfl, am_in0 29 rfl rfl⟩
set_option maxRecDepth 100000 in
theorem msRX7_69 : am_VS RX7 69 mX7_addToken := ⟨Or.inl (am_in5 137 rfl rfl), am_in5 139 rfl rfl, am_in0 32 rfl rfl⟩
set_option maxRecDepth 100000 in
theorem msRX7_75 : am_VS RX7 75 mJ0_indexOf_0f7a4 := ⟨Or.inl (am_in5 23 rfl rfl), am_in5 24 rfl rfl, am_in5 25 rfl rfl⟩
set_option maxRecDepth 100000 in
theorem msRX7_80 : am_VS RX7 80 mX7_wordBetween := ⟨Or.inl (am_in5 107 rfl rfl), am_in5 109 rfl rfl, am_in0 30 rfl rfl⟩
set_option maxRecDepth 100000 in
theorem msRX7_83 : am_VS RX7 83 mX7_numberBetween := ⟨Or.inl (am_in5 133 rfl rfl), am_in5 135 rfl rfl, am_in0 31 rfl rfl⟩
set_option maxRecDepth 100000 in
theorem msRX7_88 : am_VS RX7 88 mJ0_length_8abf5 := ⟨Or.inl (am_in5 112 rfl rfl), am_in5 38 rfl rfl, am_in5 39 rfl rfl⟩
set_option maxRecDepth 100000 in
theorem msRX7_91 : am_VS RX7 91 mJ0_charAt_5068e := ⟨Or.inl (am_in5 113 rfl rfl), am_in5 114 rfl rfl, am_in5 115 rfl rfl⟩
set_option maxRecDepth 100000 in
theorem msRX7_95 : am_SS RX7 95 mX11_within := ⟨Or.inr ⟨"PloughField", am_inN5 149 rfl rfl⟩, am_in2 189 rfl rfl⟩
set_option maxRecDepth 100000 in
theorem msRX7_99 : am_VS RX7 99 mX7_emit := ⟨Or.inl (am_in5 150 rfl rfl), am_in5 152 rfl rfl, am_in0 35 rfl rfl⟩
set_option maxRecDepth 100000 in
theorem msRX7_102 : am_VS RX7 102 mX7_readSum := ⟨Or.inl (am_in5 154 rfl rfl), am_in5 156 rfl rfl, am_in0 36 rfl rfl⟩
set_option maxRecDepth 100000 in
theorem msRX7_106 : am_VS RX7 106 mX7_accept := ⟨Or.inl (am_in5 162 rfl rfl), am_in5 164 rfl rfl, am_in0 38 rfl rfl⟩
set_option maxRecDepth 100000 in
theorem msRX7_109 : am_VS RX7 109 mX7_readAny := ⟨Or.inl (am_in5 169 rfl rfl), am_in5 171 rfl rfl, am_in0 39 rfl rfl⟩
set_option maxRecDepth 100000 in
theorem msRX7_112 : am_VS RX7 112 mX7_readOne := ⟨Or.inl (am_in5 173 rfl rfl), am_in5 175 rfl rfl, am_in0 40 rfl rfl⟩
set_option maxRecDepth 100000 in
theorem msRX7_115 : am_VS RX7 115 mX7_readAtom := ⟨Or.inl (am_in5 158 rfl rfl), am_in5 160 rfl rfl, am_in0 37 rfl rfl⟩
set_option maxRecDepth 100000 in
theorem msRX7_118 : am_SS RX7 118 mX7_isOperator := ⟨Or.inl (am_in5 166 rfl rfl), am_in5 167 rfl rfl⟩
set_option maxRecDepth 100000 in
theorem msRX8_18 : am_VS RX8 18 mX8_armsAsDealt := ⟨Or.inl (am_in4 209 rfl rfl), am_in4 211 rfl rfl, am_in0 25 rfl rfl⟩
set_option maxRecDepth 100000 in
theorem msRX8_22 : am_VS RX8 22 mX8_leadOf := ⟨Or.inl (am_in4 214 rfl rfl), am_in4 216 rfl rfl, am_in0 26 rfl rfl⟩
set_option maxRecDepth 100000 in
theorem msRX8_27 : am_VS RX8 27 mX8_waysWithLead := ⟨Or.inl (am_in4 219 rfl rfl), am_in4 221 rfl rfl, am_in0 27 rfl rfl⟩
set_option maxRecDepth 100000 in
theorem msRX8_30 : am_VS RX8 30 mX8_lead := ⟨Or.inl (am_in4 205 rfl rfl), am_in4 206 rfl rfl, am_in4 207 rfl rfl⟩
set_option maxRecDepth 100000 in
theorem msRX8_33 : am_SS RX8 33 mJ6_bitCount_0f7a4 := ⟨Or.inl (am_in4 218 rfl rfl), am_in4 188 rfl rfl⟩
set_option maxRecDepth 100000 in
theorem msRX8_42 : am_VS RX8 42 mX9_at := ⟨Or.inl (am_in4 213 rfl rfl), am_in2 213 rfl rfl, am_in2 214 rfl rfl⟩
set_option maxRecDepth 100000 in
theorem msRX9_23 : am_VS RX9 23 mX9_isFull := ⟨Or.inl (am_in2 203 rfl rfl), am_in2 196 rfl rfl, am_in2 197 rfl rfl⟩
set_option maxRecDepth 100000 in
theorem msRX9_27 : am_VS RX9 27 mX9_put := ⟨Or.inl (am_in2 204 rfl rfl), am_in2 206 rfl rfl, am_in0 1 rfl rfl⟩
set_option maxRecDepth 100000 in
theorem cw_615 : Jvm.Cond.constantLong "PloughField$Plants" 78 (1000000000) ∈ am_tb := am_in3 31 rfl rfl
set_option maxRecDepth 100000 in
theorem cw_628 : Jvm.Cond.constantLong "PloughField$Plants" 84 (100) ∈ am_tb := am_in3 44 rfl rfl
set_option maxRecDepth 100000 in
theorem cw_633 : Jvm.Cond.constantLong "PloughField$Plants" 95 (-1) ∈ am_tb := am_in3 49 rfl rfl
set_option maxRecDepth 100000 in
theorem cw_732 : Jvm.Cond.constantLong "PloughField$Ground" 41 (64) ∈ am_tb := am_in3 148 rfl rfl
set_option maxRecDepth 100000 in
theorem cw_774 : Jvm.Cond.constant "PloughField$Paths" 36 (2000000000) ∈ am_tb := am_in3 190 rfl rfl
set_option maxRecDepth 100000 in
theorem cw_923 : Jvm.Cond.constantLong "PloughField$Plants" 93 (10000000) ∈ am_tb := am_in4 99 rfl rfl
set_option maxRecDepth 100000 in
theorem cw_940 : Jvm.Cond.constantLong "java/lang/Long" 314 (6148914691236517205) ∈ am_tb := am_in4 116 rfl rfl
set_option maxRecDepth 100000 in
theorem cw_941 : Jvm.Cond.constantLong "java/lang/Long" 316 (3689348814741910323) ∈ am_tb := am_in4 117 rfl rfl
set_option maxRecDepth 100000 in
theorem cw_942 : Jvm.Cond.constantLong "java/lang/Long" 318 (1085102592571150095) ∈ am_tb := am_in4 118 rfl rfl
set_option maxRecDepth 100000 in
theorem cw_977 : Jvm.Cond.constantLong "PloughField" 213 (-1) ∈ am_tb := am_in4 153 rfl rfl
set_option maxRecDepth 100000 in
theorem cw_992 : Jvm.Cond.constantLong "PloughField$Outbreak" 54 (9187201950435737471) ∈ am_tb := am_in4 168 rfl rfl
set_option maxRecDepth 100000 in
theorem cw_993 : Jvm.Cond.constantLong "PloughField$Outbreak" 56 (-72340172838076674) ∈ am_tb := am_in4 169 rfl rfl
set_option maxRecDepth 100000 in
theorem cw_994 : Jvm.Cond.constantLong "PloughField$Outbreak" 19 (-1) ∈ am_tb := am_in4 170 rfl rfl
set_option maxRecDepth 100000 in
theorem cw_1014 : Jvm.Cond.constant "java/lang/Integer" 265 (1431655765) ∈ am_tb := am_in4 190 rfl rfl
set_option maxRecDepth 100000 in
theorem cw_1015 : Jvm.Cond.constant "java/lang/Integer" 266 (858993459) ∈ am_tb := am_in4 191 rfl rfl
set_option maxRecDepth 100000 in
theorem cw_1016 : Jvm.Cond.constant "java/lang/Integer" 267 (252645135) ∈ am_tb := am_in4 192 rfl rfl
set_option maxRecDepth 100000 in
theorem cw_1051 : Jvm.Cond.constant "PloughField$Strips" 26 (-2000000000) ∈ am_tb := am_in4 227 rfl rfl
set_option maxRecDepth 100000 in
theorem cw_1053 : Jvm.Cond.constant "PloughField" 248 (-2000000000) ∈ am_tb := am_in4 229 rfl rfl
set_option maxRecDepth 100000 in
theorem cw_1298 : Jvm.Cond.constantLong "PloughField$Machine" 69 (-1000000000) ∈ am_tb := am_in5 234 rfl rfl
set_option maxRecDepth 100000 in
theorem cw_1299 : Jvm.Cond.constantLong "PloughField$Machine" 71 (1000000000) ∈ am_tb := am_in5 235 rfl rfl
set_option maxRecDepth 100000 in
theorem cw_1580 : Jvm.Cond.constantLong "PloughFieldModel" 235 (1000000000) ∈ am_tb := am_in7 36 rfl rfl
set_option maxRecDepth 100000 in
theorem cw_1585 : Jvm.Cond.constantLong "PloughFieldModel" 237 (100) ∈ am_tb := am_in7 41 rfl rfl
set_option maxRecDepth 100000 in
theorem cw_1659 : Jvm.Cond.constantLong "PloughFieldModel" 252 (1000000000000000) ∈ am_tb := am_in7 115 rfl rfl
set_option maxRecDepth 100000 in
theorem cw_1671 : Jvm.Cond.constantLong "PloughFieldModel" 260 (1000000) ∈ am_tb := am_in7 127 rfl rfl
set_option maxRecDepth 100000 in
theorem cw_1758 : Jvm.Cond.constantLong "PloughFieldModel" 239 (10000000) ∈ am_tb := am_in7 214 rfl rfl
set_option maxRecDepth 100000 in
theorem cw_1775 : Jvm.Cond.constantLong "PloughFieldModel" 328 (-1) ∈ am_tb := am_in7 231 rfl rfl
set_option maxRecDepth 100000 in
theorem cw_1819 : Jvm.Cond.constant "PloughFieldModel" 359 (-2000000000) ∈ am_tb := am_in8 35 rfl rfl
set_option maxRecDepth 100000 in
theorem cw_1844 : Jvm.Cond.constantLong "PloughFieldModel" 451 (1952541541) ∈ am_tb := am_in8 60 rfl rfl
set_option maxRecDepth 100000 in
theorem cw_1853 : Jvm.Cond.constantLong "PloughFieldModel" 453 (1819242347) ∈ am_tb := am_in8 69 rfl rfl
set_option maxRecDepth 100000 in
theorem cw_1854 : Jvm.Cond.constantLong "PloughFieldModel" 455 (465557354085) ∈ am_tb := am_in8 70 rfl rfl
set_option maxRecDepth 100000 in
theorem cw_1855 : Jvm.Cond.constantLong "PloughFieldModel" 457 (1734964837) ∈ am_tb := am_in8 71 rfl rfl
set_option maxRecDepth 100000 in
theorem cw_1887 : Jvm.Cond.constantLong "PloughFieldModel" 385 (2003133796) ∈ am_tb := am_in8 103 rfl rfl
set_option maxRecDepth 100000 in
theorem cw_1888 : Jvm.Cond.constantLong "PloughFieldModel" 387 (7824756) ∈ am_tb := am_in8 104 rfl rfl
set_option maxRecDepth 100000 in
theorem cw_1889 : Jvm.Cond.constantLong "PloughFieldModel" 389 (482955588467) ∈ am_tb := am_in8 105 rfl rfl
set_option maxRecDepth 100000 in
theorem cw_1890 : Jvm.Cond.constantLong "PloughFieldModel" 391 (465726040947) ∈ am_tb := am_in8 106 rfl rfl
set_option maxRecDepth 100000 in
theorem cw_1891 : Jvm.Cond.constantLong "PloughFieldModel" 393 (1936292453) ∈ am_tb := am_in8 107 rfl rfl
set_option maxRecDepth 100000 in
theorem cw_1892 : Jvm.Cond.constantLong "PloughFieldModel" 395 (6909036) ∈ am_tb := am_in8 108 rfl rfl
set_option maxRecDepth 100000 in
theorem cw_1893 : Jvm.Cond.constantLong "PloughFieldModel" 397 (1918986606) ∈ am_tb := am_in8 109 rfl rfl
set_option maxRecDepth 100000 in
theorem cw_1894 : Jvm.Cond.constantLong "PloughFieldModel" 399 (444150998382) ∈ am_tb := am_in8 110 rfl rfl
set_option maxRecDepth 100000 in
theorem cw_1895 : Jvm.Cond.constantLong "PloughFieldModel" 459 (26982) ∈ am_tb := am_in8 111 rfl rfl
set_option maxRecDepth 100000 in
theorem cw_1908 : Jvm.Cond.constantLong "PloughFieldModel" 432 (7237492) ∈ am_tb := am_in8 124 rfl rfl
set_option maxRecDepth 100000 in
theorem cw_1909 : Jvm.Cond.constantLong "PloughFieldModel" 440 (6385252) ∈ am_tb := am_in8 125 rfl rfl
set_option maxRecDepth 100000 in
theorem cw_1910 : Jvm.Cond.constantLong "PloughFieldModel" 449 (28530) ∈ am_tb := am_in8 126 rfl rfl
set_option maxRecDepth 100000 in
theorem cw_1938 : Jvm.Cond.constantLong "PloughFieldModel" 467 (-1000000000) ∈ am_tb := am_in8 154 rfl rfl
set_option maxRecDepth 100000 in
theorem cw_1943 : Jvm.Cond.constantLong "PloughFieldModel" 480 (2) ∈ am_tb := am_in8 159 rfl rfl
set_option maxRecDepth 100000 in
theorem cw_1949 : Jvm.Cond.constantLong "PloughFieldModel" 502 (999) ∈ am_tb := am_in8 165 rfl rfl

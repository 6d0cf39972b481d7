/-! the methods, and the words that their instructions need (written by wip/whole/gen_code.py) -/
abbrev m_X0_init : am_M := (RX0, yX0_init, cX0_init, 1, none, (0, 0), [])
abbrev m_X0_begin : am_M := (RX0, yX0_begin, cX0_begin, 4, none, (0, 0), [])
abbrev m_X0_copyFrom : am_M := (RX0, yX0_copyFrom, cX0_copyFrom, 2, none, (0, 0), [])
abbrev m_X0_covers : am_M := (RX0, yX0_covers, cX0_covers, 2, (some .boolean), (0, 0), [])
abbrev m_X0_takes : am_M := (RX0, yX0_takes, cX0_takes, 1, (some .boolean), (0, 0), [])
abbrev m_X0_property : am_M := (RX0, yX0_property, cX0_property, 2, (some .int), (0, 0), [])
abbrev m_X1_init : am_M := (RX1, yX1_init, cX1_init, 1, none, (1, 3000), [])
abbrev m_X1_keep : am_M := (RX1, yX1_keep, cX1_keep, 4, none, (0, 0), [])
abbrev m_X1_propertyOf : am_M := (RX1, yX1_propertyOf, cX1_propertyOf, 3, (some .int), (0, 0), [])
abbrev m_X2_init : am_M := (RX2, yX2_init, cX2_init, 1, none, (0, 0), [])
abbrev m_X2_begin : am_M := (RX2, yX2_begin, cX2_begin, 3, none, (0, 0), [])
abbrev m_X2_copyFrom : am_M := (RX2, yX2_copyFrom, cX2_copyFrom, 2, none, (0, 0), [])
abbrev m_X2_tail : am_M := (RX2, yX2_tail, cX2_tail, 1, (some .int), (0, 0), [])
abbrev m_X2_middle : am_M := (RX2, yX2_middle, cX2_middle, 1, (some .int), (0, 0), [])
abbrev m_X2_accept : am_M := (RX2, yX2_accept, cX2_accept, 4, none, (0, 0), [])
abbrev m_X2_reason : am_M := (RX2, yX2_reason, cX2_reason, 1, (some .int), (0, 0), [])
abbrev m_X2_property : am_M := (RX2, yX2_property, cX2_property, 2, (some .int), (0, 0), [])
abbrev m_X3_init : am_M := (RX3, yX3_init, cX3_init, 1, none, (2, 60), [])
abbrev m_X3_copyFrom : am_M := (RX3, yX3_copyFrom, cX3_copyFrom, 2, none, (0, 0), [])
abbrev m_X3_placeFor : am_M := (RX3, yX3_placeFor, cX3_placeFor, 3, (some .int), (0, 0), [])
abbrev m_X3_laneOf : am_M := (RX3, yX3_laneOf, cX3_laneOf, 3, (some .int), (0, 0), [])
abbrev m_X3_put : am_M := (RX3, yX3_put, cX3_put, 6, none, (0, 0), [])
abbrev m_X3_drop : am_M := (RX3, yX3_drop, cX3_drop, 4, none, (0, 0), [])
abbrev m_X3_countTo : am_M := (RX3, yX3_countTo, cX3_countTo, 4, (some .int), (0, 0), [])
abbrev m_X3_codeAndLane : am_M := (RX3, yX3_codeAndLane, cX3_codeAndLane, 2, (some .int), (0, 0), [])
abbrev m_X4_init : am_M := (RX4, yX4_init, cX4_init, 1, none, (4, 320), [])
abbrev m_X4_restart : am_M := (RX4, yX4_restart, cX4_restart, 1, none, (0, 0), [])
abbrev m_X4_addLeaf : am_M := (RX4, yX4_addLeaf, cX4_addLeaf, 2, none, (0, 0), [])
abbrev m_X4_addCondition : am_M := (RX4, yX4_addCondition, cX4_addCondition, 4, (some .int), (0, 0), [])
abbrev m_X4_addNode : am_M := (RX4, yX4_addNode, cX4_addNode, 4, (some .int), (0, 0), [])
abbrev m_X4_otherwise : am_M := (RX4, yX4_otherwise, cX4_otherwise, 2, none, (0, 0), [])
abbrev m_X4_laneBy : am_M := (RX4, yX4_laneBy, cX4_laneBy, 5, (some .int), (0, 0), [])
abbrev m_X4_holds : am_M := (RX4, yX4_holds, cX4_holds, 5, (some .boolean), (0, 0), [])
abbrev m_X5_init : am_M := (RX5, yX5_init, cX5_init, 1, none, (1, 80), [])
abbrev m_X5_add : am_M := (RX5, yX5_add, cX5_add, 2, none, (0, 0), [])
abbrev m_X5_parseInto : am_M := (RX5, yX5_parseInto, cX5_parseInto, 2, (some .int), (0, 0), [])
abbrev m_X5_takesRule : am_M := (RX5, yX5_takesRule, cX5_takesRule, 4, (some .boolean), (0, 0), [])
abbrev m_X5_takesChoice : am_M := (RX5, yX5_takesChoice, cX5_takesChoice, 4, (some .boolean), (0, 0), [])
abbrev m_X5_takeCondition : am_M := (RX5, yX5_takeCondition, cX5_takeCondition, 5, (some .int), (0, 0), [])
abbrev m_X5_takeNumber : am_M := (RX5, yX5_takeNumber, cX5_takeNumber, 4, (some .int), (0, 0), [])
abbrev m_X5_takesSign : am_M := (RX5, yX5_takesSign, cX5_takesSign, 2, (some .boolean), (0, 0), [])
abbrev m_X5_nextSign : am_M := (RX5, yX5_nextSign, cX5_nextSign, 1, (some .int), (0, 0), [])
abbrev m_X6_init : am_M := (RX6, yX6_init, cX6_init, 3, none, (32, 365), [])
abbrev m_X6_copyFrom : am_M := (RX6, yX6_copyFrom, cX6_copyFrom, 3, none, (0, 0), [])
abbrev m_X6_hasLane : am_M := (RX6, yX6_hasLane, cX6_hasLane, 2, (some .boolean), (0, 0), [])
abbrev m_X6_placeOf : am_M := (RX6, yX6_placeOf, cX6_placeOf, 3, (some .int), (0, 0), [])
abbrev m_X6_gapBetween : am_M := (RX6, yX6_gapBetween, cX6_gapBetween, 3, (some .int), (0, 0), [])
abbrev m_X6_freeAtEntry : am_M := (RX6, yX6_freeAtEntry, cX6_freeAtEntry, 1, (some .int), (0, 0), [])
abbrev m_X6_beginPart : am_M := (RX6, yX6_beginPart, cX6_beginPart, 4, (some .int), (0, 0), [])
abbrev m_X6_ownerOfRead : am_M := (RX6, yX6_ownerOfRead, cX6_ownerOfRead, 7, (some (.object "PickScanner$Part")), (0, 0), [])
abbrev m_X6_laneOf : am_M := (RX6, yX6_laneOf, cX6_laneOf, 2, (some .int), (0, 0), [])
abbrev m_X6_laneGiven : am_M := (RX6, yX6_laneGiven, cX6_laneGiven, 4, (some .int), (0, 0), [])
abbrev m_X6_aimParts : am_M := (RX6, yX6_aimParts, cX6_aimParts, 2, none, (0, 0), [])
abbrev m_X6_stride : am_M := (RX6, yX6_stride, cX6_stride, 4, (some .int), (0, 0), [])
abbrev m_X6_quietMillimeters : am_M := (RX6, yX6_quietMillimeters, cX6_quietMillimeters, 5, (some .int), (0, 0), [])
abbrev m_X6_advance : am_M := (RX6, yX6_advance, cX6_advance, 3, none, (0, 0), [])
abbrev m_X6_divertParts : am_M := (RX6, yX6_divertParts, cX6_divertParts, 3, none, (0, 0), [])
abbrev m_X6_diverts : am_M := (RX6, yX6_diverts, cX6_diverts, 4, (some .boolean), (0, 0), [])
abbrev m_X6_hasGaps : am_M := (RX6, yX6_hasGaps, cX6_hasGaps, 2, (some .boolean), (0, 0), [])
abbrev m_X6_loseParts : am_M := (RX6, yX6_loseParts, cX6_loseParts, 2, none, (0, 0), [])
abbrev m_X6_leave : am_M := (RX6, yX6_leave, cX6_leave, 5, none, (0, 0), [])
abbrev m_X6_rankOf : am_M := (RX6, yX6_rankOf, cX6_rankOf, 6, (some .int), (0, 0), [])
abbrev m_X6_distanceToLane : am_M := (RX6, yX6_distanceToLane, cX6_distanceToLane, 3, (some .int), (0, 0), [])
abbrev m_X7_init : am_M := (RX7, yX7_init, cX7_init, 3, none, (279, 6750), [])
abbrev m_X7_set : am_M := (RX7, yX7_set, cX7_set, 4, (some .int), (1, 6), [])
abbrev m_X7_addLane : am_M := (RX7, yX7_addLane, cX7_addLane, 5, (some .int), (1, 6), [])
abbrev m_X7_emptyLane : am_M := (RX7, yX7_emptyLane, cX7_emptyLane, 3, (some .int), (1, 6), [])
abbrev m_X7_route : am_M := (RX7, yX7_route, cX7_route, 4, (some .int), (1, 6), [])
abbrev m_X7_removeRoute : am_M := (RX7, yX7_removeRoute, cX7_removeRoute, 3, (some .int), (1, 6), [])
abbrev m_X7_enter : am_M := (RX7, yX7_enter, cX7_enter, 2, (some .int), (1, 6), [])
abbrev m_X7_read : am_M := (RX7, yX7_read, cX7_read, 3, (some .int), (1, 6), [])
abbrev m_X7_move : am_M := (RX7, yX7_move, cX7_move, 5, (some .int), (1, 6), [])
abbrev m_X7_takeOff : am_M := (RX7, yX7_takeOff, cX7_takeOff, 5, (some .int), (1, 6), [])
abbrev m_X7_undo : am_M := (RX7, yX7_undo, cX7_undo, 1, (some .int), (1, 6), [])
abbrev m_X7_part : am_M := (RX7, yX7_part, cX7_part, 3, (some .int), (1, 6), [])
abbrev m_X7_lane : am_M := (RX7, yX7_lane, cX7_lane, 3, (some .int), (1, 6), [])
abbrev m_X7_total : am_M := (RX7, yX7_total, cX7_total, 2, (some .int), (1, 6), [])
abbrev m_X7_lost : am_M := (RX7, yX7_lost, cX7_lost, 2, (some .int), (1, 6), [])
abbrev m_X7_setting : am_M := (RX7, yX7_setting, cX7_setting, 2, (some .int), (1, 6), [])
abbrev m_X7_routeAt : am_M := (RX7, yX7_routeAt, cX7_routeAt, 2, (some .int), (1, 6), [])
abbrev m_X7_gapAhead : am_M := (RX7, yX7_gapAhead, cX7_gapAhead, 3, (some .int), (1, 6), [])
abbrev m_X7_ranked : am_M := (RX7, yX7_ranked, cX7_ranked, 3, (some .int), (1, 6), [])
abbrev m_X7_share : am_M := (RX7, yX7_share, cX7_share, 2, (some .double), (0, 0), [])
abbrev m_X7_fateOf : am_M := (RX7, yX7_fateOf, cX7_fateOf, 5, (some .int), (1, 6), [])
abbrev m_X7_entryIn : am_M := (RX7, yX7_entryIn, cX7_entryIn, 4, (some .int), (0, 0), [])
abbrev m_X7_nextLeaving : am_M := (RX7, yX7_nextLeaving, cX7_nextLeaving, 4, (some .int), (0, 0), [])
abbrev m_X7_laneFor : am_M := (RX7, yX7_laneFor, cX7_laneFor, 3, (some .int), (1, 6), [])
abbrev m_X7_append : am_M := (RX7, yX7_append, cX7_append, 2, (some .int), (1, 6), [])
abbrev m_X7_clear : am_M := (RX7, yX7_clear, cX7_clear, 2, (some .int), (0, 0), [])
abbrev m_X7_errorPosition : am_M := (RX7, yX7_errorPosition, cX7_errorPosition, 1, (some .int), (0, 0), [])
abbrev m_X7_load : am_M := (RX7, yX7_load, cX7_load, 1, (some .int), (5, 326), [])
abbrev m_X7_save : am_M := (RX7, yX7_save, cX7_save, 1, none, (0, 0), [])
abbrev m_X7_dropOldestSaved : am_M := (RX7, yX7_dropOldestSaved, cX7_dropOldestSaved, 3, none, (0, 0), [])
abbrev m_X7_hasEntered : am_M := (RX7, yX7_hasEntered, cX7_hasEntered, 2, (some .boolean), (0, 0), [])
abbrev m_X7_keepDeparted : am_M := (RX7, yX7_keepDeparted, cX7_keepDeparted, 3, none, (0, 0), [])
abbrev m_X7_partProperty : am_M := (RX7, yX7_partProperty, cX7_partProperty, 4, (some .int), (0, 0), [])
abbrev m_X7_sumOverParts : am_M := (RX7, yX7_sumOverParts, cX7_sumOverParts, 4, (some .int), (0, 0), [])
abbrev m_X7_countFates : am_M := (RX7, yX7_countFates, cX7_countFates, 6, (some .int), (0, 0), [])
abbrev m_X7_startTrial : am_M := (RX7, yX7_startTrial, cX7_startTrial, 1, none, (0, 0), [])
abbrev m_X8_init : am_M := (RX8, yX8_init, cX8_init, 1, none, (5, 25688), [])
abbrev m_X8_thrown : am_M := (RX8, yX8_thrown, cX8_thrown, 1, (some .int), (0, 0), [])
abbrev m_X8_refuse : am_M := (RX8, yX8_refuse, cX8_refuse, 2, (some .int), (0, 0), [])
abbrev m_X8_in : am_M := (RX8, yX8_in, cX8_in, 3, (some .boolean), (0, 0), [])
abbrev m_X8_one : am_M := (RX8, yX8_one, cX8_one, 1, (some .int), (0, 0), [])
abbrev m_X8_save : am_M := (RX8, yX8_save, cX8_save, 2, none, (0, 0), [])
abbrev m_X8_isOn : am_M := (RX8, yX8_isOn, cX8_isOn, 2, (some .boolean), (0, 0), [])
abbrev m_X8_onBelt : am_M := (RX8, yX8_onBelt, cX8_onBelt, 3, (some .int), (0, 0), [])
abbrev m_X8_isLane : am_M := (RX8, yX8_isLane, cX8_isLane, 2, (some .boolean), (0, 0), [])
abbrev m_X8_isPart : am_M := (RX8, yX8_isPart, cX8_isPart, 2, (some .boolean), (0, 0), [])
abbrev m_X8_isCode : am_M := (RX8, yX8_isCode, cX8_isCode, 1, (some .boolean), (0, 0), [])
abbrev m_X8_least : am_M := (RX8, yX8_least, cX8_least, 1, (some .int), (0, 0), [])
abbrev m_X8_most : am_M := (RX8, yX8_most, cX8_most, 1, (some .int), (0, 0), [])
abbrev m_X8_set : am_M := (RX8, yX8_set, cX8_set, 4, (some .int), (0, 0), [])
abbrev m_X8_addLane : am_M := (RX8, yX8_addLane, cX8_addLane, 5, (some .int), (0, 0), [])
abbrev m_X8_emptyLane : am_M := (RX8, yX8_emptyLane, cX8_emptyLane, 3, (some .int), (0, 0), [])
abbrev m_X8_placeOf : am_M := (RX8, yX8_placeOf, cX8_placeOf, 3, (some .int), (0, 0), [])
abbrev m_X8_hasRoute : am_M := (RX8, yX8_hasRoute, cX8_hasRoute, 3, (some .boolean), (0, 0), [])
abbrev m_X8_route : am_M := (RX8, yX8_route, cX8_route, 7, (some .int), (0, 0), [])
abbrev m_X8_removeRoute : am_M := (RX8, yX8_removeRoute, cX8_removeRoute, 5, (some .int), (0, 0), [])
abbrev m_X8_numberAt : am_M := (RX8, yX8_numberAt, cX8_numberAt, 2, (some .int), (0, 0), [])
abbrev m_X8_holds : am_M := (RX8, yX8_holds, cX8_holds, 6, (some .boolean), (0, 0), [])
abbrev m_X8_skip : am_M := (RX8, yX8_skip, cX8_skip, 4, none, (0, 0), [])
abbrev m_X8_byRule : am_M := (RX8, yX8_byRule, cX8_byRule, 4, (some .int), (0, 0), [])
abbrev m_X8_laneBy : am_M := (RX8, yX8_laneBy, cX8_laneBy, 3, (some .int), (0, 0), [])
abbrev m_X8_laneOf : am_M := (RX8, yX8_laneOf, cX8_laneOf, 2, (some .int), (0, 0), [])
abbrev m_X8_tail : am_M := (RX8, yX8_tail, cX8_tail, 2, (some .int), (0, 0), [])
abbrev m_X8_middle : am_M := (RX8, yX8_middle, cX8_middle, 2, (some .int), (0, 0), [])
abbrev m_X8_ahead : am_M := (RX8, yX8_ahead, cX8_ahead, 3, (some .int), (0, 0), [])
abbrev m_X8_behind : am_M := (RX8, yX8_behind, cX8_behind, 3, (some .int), (0, 0), [])
abbrev m_X8_latest : am_M := (RX8, yX8_latest, cX8_latest, 1, (some .int), (0, 0), [])
abbrev m_X8_enter : am_M := (RX8, yX8_enter, cX8_enter, 4, (some .int), (0, 0), [])
abbrev m_X8_caster : am_M := (RX8, yX8_caster, cX8_caster, 4, (some .int), (0, 0), [])
abbrev m_X8_atScanner : am_M := (RX8, yX8_atScanner, cX8_atScanner, 3, (some .int), (0, 0), [])
abbrev m_X8_readFor : am_M := (RX8, yX8_readFor, cX8_readFor, 3, none, (0, 0), [])
abbrev m_X8_read : am_M := (RX8, yX8_read, cX8_read, 5, (some .int), (0, 0), [])
abbrev m_X8_attempt : am_M := (RX8, yX8_attempt, cX8_attempt, 6, none, (0, 0), [])
abbrev m_X8_reasonOf : am_M := (RX8, yX8_reasonOf, cX8_reasonOf, 2, (some .int), (0, 0), [])
abbrev m_X8_go : am_M := (RX8, yX8_go, cX8_go, 3, none, (0, 0), [])
abbrev m_X8_move : am_M := (RX8, yX8_move, cX8_move, 4, (some .int), (0, 0), [])
abbrev m_X8_takeOff : am_M := (RX8, yX8_takeOff, cX8_takeOff, 2, (some .int), (0, 0), [])
abbrev m_X8_undo : am_M := (RX8, yX8_undo, cX8_undo, 2, (some .int), (0, 0), [])
abbrev m_X8_part : am_M := (RX8, yX8_part, cX8_part, 3, (some .int), (0, 0), [])
abbrev m_X8_routesTo : am_M := (RX8, yX8_routesTo, cX8_routesTo, 4, (some .int), (0, 0), [])
abbrev m_X8_lane : am_M := (RX8, yX8_lane, cX8_lane, 3, (some .int), (0, 0), [])
abbrev m_X8_fates : am_M := (RX8, yX8_fates, cX8_fates, 5, (some .int), (0, 0), [])
abbrev m_X8_sum : am_M := (RX8, yX8_sum, cX8_sum, 4, (some .int), (0, 0), [])
abbrev m_X8_total : am_M := (RX8, yX8_total, cX8_total, 2, (some .int), (0, 0), [])
abbrev m_X8_lost : am_M := (RX8, yX8_lost, cX8_lost, 2, (some .int), (0, 0), [])
abbrev m_X8_setting : am_M := (RX8, yX8_setting, cX8_setting, 2, (some .int), (0, 0), [])
abbrev m_X8_routeAt : am_M := (RX8, yX8_routeAt, cX8_routeAt, 2, (some .int), (0, 0), [])
abbrev m_X8_gapAhead : am_M := (RX8, yX8_gapAhead, cX8_gapAhead, 3, (some .int), (0, 0), [])
abbrev m_X8_isRankedBefore : am_M := (RX8, yX8_isRankedBefore, cX8_isRankedBefore, 7, (some .boolean), (0, 0), [])
abbrev m_X8_ranked : am_M := (RX8, yX8_ranked, cX8_ranked, 5, (some .int), (0, 0), [])
abbrev m_X8_share : am_M := (RX8, yX8_share, cX8_share, 2, (some .double), (0, 0), [])
abbrev m_X8_beginTrial : am_M := (RX8, yX8_beginTrial, cX8_beginTrial, 2, none, (0, 0), [])
abbrev m_X8_endTrial : am_M := (RX8, yX8_endTrial, cX8_endTrial, 2, none, (0, 0), [])
abbrev m_X8_fateOf : am_M := (RX8, yX8_fateOf, cX8_fateOf, 3, (some .int), (0, 0), [])
abbrev m_X8_canEnter : am_M := (RX8, yX8_canEnter, cX8_canEnter, 2, (some .boolean), (0, 0), [])
abbrev m_X8_entryIn : am_M := (RX8, yX8_entryIn, cX8_entryIn, 2, (some .int), (0, 0), [])
abbrev m_X8_nextLeaving : am_M := (RX8, yX8_nextLeaving, cX8_nextLeaving, 3, (some .int), (0, 0), [])
abbrev m_X8_laneFor : am_M := (RX8, yX8_laneFor, cX8_laneFor, 3, (some .int), (0, 0), [])
abbrev m_X8_append : am_M := (RX8, yX8_append, cX8_append, 2, (some .int), (0, 0), [])
abbrev m_X8_clear : am_M := (RX8, yX8_clear, cX8_clear, 2, (some .int), (0, 0), [])
abbrev m_X8_endRule : am_M := (RX8, yX8_endRule, cX8_endRule, 2, none, (0, 0), [])
abbrev m_X8_takesRule : am_M := (RX8, yX8_takesRule, cX8_takesRule, 2, (some .boolean), (0, 0), [])
abbrev m_X8_takesNumber : am_M := (RX8, yX8_takesNumber, cX8_takesNumber, 2, (some .boolean), (0, 0), [])
abbrev m_X8_takes : am_M := (RX8, yX8_takes, cX8_takes, 2, (some .boolean), (0, 0), [])
abbrev m_X8_error : am_M := (RX8, yX8_error, cX8_error, 2, (some .int), (0, 0), [])
abbrev m_X8_errorPosition : am_M := (RX8, yX8_errorPosition, cX8_errorPosition, 1, (some .int), (0, 0), [])
abbrev m_X8_load : am_M := (RX8, yX8_load, cX8_load, 2, (some .int), (0, 0), [])
abbrev m_L_set : am_M := (RL, yL_set, cL_set, 5, (some .int), (1, 6), [(0, 10, 13, 13), (0, 10, 17, 15), (0, 10, 21, 17)])
abbrev m_L_addLane : am_M := (RL, yL_addLane, cL_addLane, 6, (some .int), (1, 6), [(0, 12, 15, 15), (0, 12, 19, 17)])
abbrev m_L_emptyLane : am_M := (RL, yL_emptyLane, cL_emptyLane, 4, (some .int), (1, 6), [(0, 9, 12, 13)])
abbrev m_L_route : am_M := (RL, yL_route, cL_route, 5, (some .int), (1, 6), [(0, 10, 13, 15), (0, 10, 17, 13), (0, 10, 21, 17)])
abbrev m_L_removeRoute : am_M := (RL, yL_removeRoute, cL_removeRoute, 4, (some .int), (1, 6), [(0, 9, 12, 15), (0, 9, 15, 17)])
abbrev m_L_enter : am_M := (RL, yL_enter, cL_enter, 4, (some .int), (1, 6), [(0, 9, 12, 15), (0, 9, 15, 17)])
abbrev m_L_read : am_M := (RL, yL_read, cL_read, 4, (some .int), (1, 6), [(0, 9, 12, 15)])
abbrev m_L_move : am_M := (RL, yL_move, cL_move, 4, (some .int), (1, 6), [(0, 9, 12, 15), (0, 9, 15, 17)])
abbrev m_L_takeOff : am_M := (RL, yL_takeOff, cL_takeOff, 4, (some .int), (1, 6), [(0, 9, 12, 13), (0, 9, 15, 17)])
abbrev m_L_undo : am_M := (RL, yL_undo, cL_undo, 3, (some .int), (1, 6), [(0, 8, 11, 17)])
abbrev m_L_part : am_M := (RL, yL_part, cL_part, 5, (some .int), (1, 6), [(0, 10, 13, 13), (0, 10, 17, 15)])
abbrev m_L_lane : am_M := (RL, yL_lane, cL_lane, 5, (some .int), (1, 6), [(0, 10, 13, 13), (0, 10, 17, 15)])
abbrev m_L_total : am_M := (RL, yL_total, cL_total, 4, (some .int), (1, 6), [(0, 9, 12, 15)])
abbrev m_L_lost : am_M := (RL, yL_lost, cL_lost, 4, (some .int), (1, 6), [(0, 9, 12, 15)])
abbrev m_L_setting : am_M := (RL, yL_setting, cL_setting, 4, (some .int), (1, 6), [(0, 9, 12, 13)])
abbrev m_L_routeAt : am_M := (RL, yL_routeAt, cL_routeAt, 4, (some .int), (1, 6), [(0, 9, 12, 15)])
abbrev m_L_gapAhead : am_M := (RL, yL_gapAhead, cL_gapAhead, 4, (some .int), (1, 6), [(0, 9, 12, 13), (0, 9, 15, 17)])
abbrev m_L_ranked : am_M := (RL, yL_ranked, cL_ranked, 4, (some .int), (1, 6), [(0, 9, 12, 15)])
abbrev m_L_fateOf : am_M := (RL, yL_fateOf, cL_fateOf, 4, (some .int), (1, 6), [(0, 9, 12, 13)])
abbrev m_L_laneFor : am_M := (RL, yL_laneFor, cL_laneFor, 5, (some .int), (1, 6), [(0, 10, 13, 15)])
abbrev m_L_append : am_M := (RL, yL_append, cL_append, 4, (some .int), (1, 6), [(0, 9, 12, 15), (0, 9, 15, 17)])
abbrev m_L_load : am_M := (RL, yL_load, cL_load, 3, (some .int), (5, 326), [(0, 8, 11, 17)])
abbrev m_L_law : am_M := (RL, yL_law, cL_law, 9, (some .boolean), (601024, 7293033), [])
set_option maxRecDepth 100000 in
theorem ok_X0_init : am_okM m_X0_init 0 := ⟨rfl, by decide, am_memI 190 rfl rfl, am_memI 68 rfl rfl, ⟨by decide, by decide⟩, by decide +kernel, by decide⟩
set_option maxRecDepth 100000 in
theorem ok_X0_begin : am_okM m_X0_begin 3 := ⟨rfl, by decide, am_memI 672 rfl rfl, am_memI 68 rfl rfl, ⟨by decide, by decide⟩, by decide +kernel, by decide⟩
set_option maxRecDepth 100000 in
theorem ok_X0_copyFrom : am_okM m_X0_copyFrom 1 := ⟨rfl, by decide, am_memI 400 rfl rfl, am_memI 68 rfl rfl, ⟨by decide, by decide⟩, by decide +kernel, by decide⟩
set_option maxRecDepth 100000 in
theorem ok_X0_covers : am_okM m_X0_covers 1 := ⟨rfl, by decide, am_memI 458 rfl rfl, am_memI 68 rfl rfl, ⟨by decide, by decide⟩, by decide +kernel, by decide⟩
set_option maxRecDepth 100000 in
theorem ok_X0_takes : am_okM m_X0_takes 0 := ⟨rfl, by decide, am_memI 470 rfl rfl, am_memI 68 rfl rfl, ⟨by decide, by decide⟩, by decide +kernel, by decide⟩
set_option maxRecDepth 100000 in
theorem ok_X0_property : am_okM m_X0_property 1 := ⟨rfl, by decide, am_memI 805 rfl rfl, am_memI 68 rfl rfl, ⟨by decide, by decide⟩, by decide +kernel, by decide⟩
set_option maxRecDepth 100000 in
theorem ok_X1_init : am_okM m_X1_init 0 := ⟨rfl, by decide, am_memI 93 rfl rfl, am_memI 63 rfl rfl, ⟨by decide, by decide⟩, by decide +kernel, by decide⟩
set_option maxRecDepth 100000 in
theorem ok_X1_keep : am_okM m_X1_keep 1 := ⟨rfl, by decide, am_memI 759 rfl rfl, am_memI 63 rfl rfl, ⟨by decide, by decide⟩, by decide +kernel, by decide⟩
set_option maxRecDepth 100000 in
theorem ok_X1_propertyOf : am_okM m_X1_propertyOf 2 := ⟨rfl, by decide, am_memI 350 rfl rfl, am_memI 63 rfl rfl, ⟨by decide, by decide⟩, by decide +kernel, by decide⟩
set_option maxRecDepth 100000 in
theorem ok_X2_init : am_okM m_X2_init 0 := ⟨rfl, by decide, am_memI 213 rfl rfl, am_memI 69 rfl rfl, ⟨by decide, by decide⟩, by decide +kernel, by decide⟩
set_option maxRecDepth 100000 in
theorem ok_X2_begin : am_okM m_X2_begin 2 := ⟨rfl, by decide, am_memI 725 rfl rfl, am_memI 69 rfl rfl, ⟨by decide, by decide⟩, by decide +kernel, by decide⟩
set_option maxRecDepth 100000 in
theorem ok_X2_copyFrom : am_okM m_X2_copyFrom 1 := ⟨rfl, by decide, am_memI 409 rfl rfl, am_memI 69 rfl rfl, ⟨by decide, by decide⟩, by decide +kernel, by decide⟩
set_option maxRecDepth 100000 in
theorem ok_X2_tail : am_okM m_X2_tail 0 := ⟨rfl, by decide, am_memI 423 rfl rfl, am_memI 69 rfl rfl, ⟨by decide, by decide⟩, by decide +kernel, by decide⟩
set_option maxRecDepth 100000 in
theorem ok_X2_middle : am_okM m_X2_middle 0 := ⟨rfl, by decide, am_memI 439 rfl rfl, am_memI 69 rfl rfl, ⟨by decide, by decide⟩, by decide +kernel, by decide⟩
set_option maxRecDepth 100000 in
theorem ok_X2_accept : am_okM m_X2_accept 3 := ⟨rfl, by decide, am_memI 741 rfl rfl, am_memI 69 rfl rfl, ⟨by decide, by decide⟩, by decide +kernel, by decide⟩
set_option maxRecDepth 100000 in
theorem ok_X2_reason : am_okM m_X2_reason 0 := ⟨rfl, by decide, am_memI 482 rfl rfl, am_memI 69 rfl rfl, ⟨by decide, by decide⟩, by decide +kernel, by decide⟩
set_option maxRecDepth 100000 in
theorem ok_X2_property : am_okM m_X2_property 1 := ⟨rfl, by decide, am_memI 381 rfl rfl, am_memI 69 rfl rfl, ⟨by decide, by decide⟩, by decide +kernel, by decide⟩
set_option maxRecDepth 100000 in
theorem ok_X3_init : am_okM m_X3_init 0 := ⟨rfl, by decide, am_memI 172 rfl rfl, am_memI 67 rfl rfl, ⟨by decide, by decide⟩, by decide +kernel, by decide⟩
set_option maxRecDepth 100000 in
theorem ok_X3_copyFrom : am_okM m_X3_copyFrom 1 := ⟨rfl, by decide, am_memI 404 rfl rfl, am_memI 67 rfl rfl, ⟨by decide, by decide⟩, by decide +kernel, by decide⟩
set_option maxRecDepth 100000 in
theorem ok_X3_placeFor : am_okM m_X3_placeFor 1 := ⟨rfl, by decide, am_memI 366 rfl rfl, am_memI 67 rfl rfl, ⟨by decide, by decide⟩, by decide +kernel, by decide⟩
set_option maxRecDepth 100000 in
theorem ok_X3_laneOf : am_okM m_X3_laneOf 1 := ⟨rfl, by decide, am_memI 362 rfl rfl, am_memI 67 rfl rfl, ⟨by decide, by decide⟩, by decide +kernel, by decide⟩
set_option maxRecDepth 100000 in
theorem ok_X3_put : am_okM m_X3_put 2 := ⟨rfl, by decide, am_memI 695 rfl rfl, am_memI 67 rfl rfl, ⟨by decide, by decide⟩, by decide +kernel, by decide⟩
set_option maxRecDepth 100000 in
theorem ok_X3_drop : am_okM m_X3_drop 1 := ⟨rfl, by decide, am_memI 707 rfl rfl, am_memI 67 rfl rfl, ⟨by decide, by decide⟩, by decide +kernel, by decide⟩
set_option maxRecDepth 100000 in
theorem ok_X3_countTo : am_okM m_X3_countTo 1 := ⟨rfl, by decide, am_memI 801 rfl rfl, am_memI 67 rfl rfl, ⟨by decide, by decide⟩, by decide +kernel, by decide⟩
set_option maxRecDepth 100000 in
theorem ok_X3_codeAndLane : am_okM m_X3_codeAndLane 1 := ⟨rfl, by decide, am_memI 844 rfl rfl, am_memI 67 rfl rfl, ⟨by decide, by decide⟩, by decide +kernel, by decide⟩
set_option maxRecDepth 100000 in
theorem ok_X4_init : am_okM m_X4_init 0 := ⟨rfl, by decide, am_memI 122 rfl rfl, am_memI 65 rfl rfl, ⟨by decide, by decide⟩, by decide +kernel, by decide⟩
set_option maxRecDepth 100000 in
theorem ok_X4_restart : am_okM m_X4_restart 0 := ⟨rfl, by decide, am_memI 502 rfl rfl, am_memI 65 rfl rfl, ⟨by decide, by decide⟩, by decide +kernel, by decide⟩
set_option maxRecDepth 100000 in
theorem ok_X4_addLeaf : am_okM m_X4_addLeaf 1 := ⟨rfl, by decide, am_memI 147 rfl rfl, am_memI 65 rfl rfl, ⟨by decide, by decide⟩, by decide +kernel, by decide⟩
set_option maxRecDepth 100000 in
theorem ok_X4_addCondition : am_okM m_X4_addCondition 3 := ⟨rfl, by decide, am_memI 531 rfl rfl, am_memI 65 rfl rfl, ⟨by decide, by decide⟩, by decide +kernel, by decide⟩
set_option maxRecDepth 100000 in
theorem ok_X4_addNode : am_okM m_X4_addNode 3 := ⟨rfl, by decide, am_memI 151 rfl rfl, am_memI 65 rfl rfl, ⟨by decide, by decide⟩, by decide +kernel, by decide⟩
set_option maxRecDepth 100000 in
theorem ok_X4_otherwise : am_okM m_X4_otherwise 1 := ⟨rfl, by decide, am_memI 535 rfl rfl, am_memI 65 rfl rfl, ⟨by decide, by decide⟩, by decide +kernel, by decide⟩
set_option maxRecDepth 100000 in
theorem ok_X4_laneBy : am_okM m_X4_laneBy 2 := ⟨rfl, by decide, am_memI 370 rfl rfl, am_memI 65 rfl rfl, ⟨by decide, by decide⟩, by decide +kernel, by decide⟩
set_option maxRecDepth 100000 in
theorem ok_X4_holds : am_okM m_X4_holds 5 := ⟨rfl, by decide, am_memI 373 rfl rfl, am_memI 65 rfl rfl, ⟨by decide, by decide⟩, by decide +kernel, by decide⟩
set_option maxRecDepth 100000 in
theorem ok_X5_init : am_okM m_X5_init 0 := ⟨rfl, by decide, am_memI 104 rfl rfl, am_memI 64 rfl rfl, ⟨by decide, by decide⟩, by decide +kernel, by decide⟩
set_option maxRecDepth 100000 in
theorem ok_X5_add : am_okM m_X5_add 1 := ⟨rfl, by decide, am_memI 896 rfl rfl, am_memI 64 rfl rfl, ⟨by decide, by decide⟩, by decide +kernel, by decide⟩
set_option maxRecDepth 100000 in
theorem ok_X5_parseInto : am_okM m_X5_parseInto 1 := ⟨rfl, by decide, am_memI 498 rfl rfl, am_memI 64 rfl rfl, ⟨by decide, by decide⟩, by decide +kernel, by decide⟩
set_option maxRecDepth 100000 in
theorem ok_X5_takesRule : am_okM m_X5_takesRule 2 := ⟨rfl, by decide, am_memI 506 rfl rfl, am_memI 64 rfl rfl, ⟨by decide, by decide⟩, by decide +kernel, by decide⟩
set_option maxRecDepth 100000 in
theorem ok_X5_takesChoice : am_okM m_X5_takesChoice 2 := ⟨rfl, by decide, am_memI 515 rfl rfl, am_memI 64 rfl rfl, ⟨by decide, by decide⟩, by decide +kernel, by decide⟩
set_option maxRecDepth 100000 in
theorem ok_X5_takeCondition : am_okM m_X5_takeCondition 1 := ⟨rfl, by decide, am_memI 523 rfl rfl, am_memI 64 rfl rfl, ⟨by decide, by decide⟩, by decide +kernel, by decide⟩
set_option maxRecDepth 100000 in
theorem ok_X5_takeNumber : am_okM m_X5_takeNumber 0 := ⟨rfl, by decide, am_memI 527 rfl rfl, am_memI 64 rfl rfl, ⟨by decide, by decide⟩, by decide +kernel, by decide⟩
set_option maxRecDepth 100000 in
theorem ok_X5_takesSign : am_okM m_X5_takesSign 1 := ⟨rfl, by decide, am_memI 519 rfl rfl, am_memI 64 rfl rfl, ⟨by decide, by decide⟩, by decide +kernel, by decide⟩
set_option maxRecDepth 100000 in
theorem ok_X5_nextSign : am_okM m_X5_nextSign 0 := ⟨rfl, by decide, am_memI 510 rfl rfl, am_memI 64 rfl rfl, ⟨by decide, by decide⟩, by decide +kernel, by decide⟩
set_option maxRecDepth 100000 in
theorem ok_X6_init : am_okM m_X6_init 1 := ⟨rfl, by decide, am_memI 155 rfl rfl, am_memI 66 rfl rfl, ⟨by decide, by decide⟩, by decide +kernel, by decide⟩
set_option maxRecDepth 100000 in
theorem ok_X6_copyFrom : am_okM m_X6_copyFrom 1 := ⟨rfl, by decide, am_memI 393 rfl rfl, am_memI 66 rfl rfl, ⟨by decide, by decide⟩, by decide +kernel, by decide⟩
set_option maxRecDepth 100000 in
theorem ok_X6_hasLane : am_okM m_X6_hasLane 1 := ⟨rfl, by decide, am_memI 377 rfl rfl, am_memI 66 rfl rfl, ⟨by decide, by decide⟩, by decide +kernel, by decide⟩
set_option maxRecDepth 100000 in
theorem ok_X6_placeOf : am_okM m_X6_placeOf 1 := ⟨rfl, by decide, am_memI 346 rfl rfl, am_memI 66 rfl rfl, ⟨by decide, by decide⟩, by decide +kernel, by decide⟩
set_option maxRecDepth 100000 in
theorem ok_X6_gapBetween : am_okM m_X6_gapBetween 2 := ⟨rfl, by decide, am_memI 466 rfl rfl, am_memI 66 rfl rfl, ⟨by decide, by decide⟩, by decide +kernel, by decide⟩
set_option maxRecDepth 100000 in
theorem ok_X6_freeAtEntry : am_okM m_X6_freeAtEntry 0 := ⟨rfl, by decide, am_memI 419 rfl rfl, am_memI 66 rfl rfl, ⟨by decide, by decide⟩, by decide +kernel, by decide⟩
set_option maxRecDepth 100000 in
theorem ok_X6_beginPart : am_okM m_X6_beginPart 1 := ⟨rfl, by decide, am_memI 721 rfl rfl, am_memI 66 rfl rfl, ⟨by decide, by decide⟩, by decide +kernel, by decide⟩
set_option maxRecDepth 100000 in
theorem ok_X6_ownerOfRead : am_okM m_X6_ownerOfRead 0 := ⟨rfl, by decide, am_memI 737 rfl rfl, am_memI 66 rfl rfl, ⟨by decide, by decide⟩, by decide +kernel, by decide⟩
set_option maxRecDepth 100000 in
theorem ok_X6_laneOf : am_okM m_X6_laneOf 1 := ⟨rfl, by decide, am_memI 354 rfl rfl, am_memI 66 rfl rfl, ⟨by decide, by decide⟩, by decide +kernel, by decide⟩
set_option maxRecDepth 100000 in
theorem ok_X6_laneGiven : am_okM m_X6_laneGiven 2 := ⟨rfl, by decide, am_memI 358 rfl rfl, am_memI 66 rfl rfl, ⟨by decide, by decide⟩, by decide +kernel, by decide⟩
set_option maxRecDepth 100000 in
theorem ok_X6_aimParts : am_okM m_X6_aimParts 0 := ⟨rfl, by decide, am_memI 413 rfl rfl, am_memI 66 rfl rfl, ⟨by decide, by decide⟩, by decide +kernel, by decide⟩
set_option maxRecDepth 100000 in
theorem ok_X6_stride : am_okM m_X6_stride 1 := ⟨rfl, by decide, am_memI 428 rfl rfl, am_memI 66 rfl rfl, ⟨by decide, by decide⟩, by decide +kernel, by decide⟩
set_option maxRecDepth 100000 in
theorem ok_X6_quietMillimeters : am_okM m_X6_quietMillimeters 0 := ⟨rfl, by decide, am_memI 432 rfl rfl, am_memI 66 rfl rfl, ⟨by decide, by decide⟩, by decide +kernel, by decide⟩
set_option maxRecDepth 100000 in
theorem ok_X6_advance : am_okM m_X6_advance 1 := ⟨rfl, by decide, am_memI 446 rfl rfl, am_memI 66 rfl rfl, ⟨by decide, by decide⟩, by decide +kernel, by decide⟩
set_option maxRecDepth 100000 in
theorem ok_X6_divertParts : am_okM m_X6_divertParts 0 := ⟨rfl, by decide, am_memI 450 rfl rfl, am_memI 66 rfl rfl, ⟨by decide, by decide⟩, by decide +kernel, by decide⟩
set_option maxRecDepth 100000 in
theorem ok_X6_diverts : am_okM m_X6_diverts 1 := ⟨rfl, by decide, am_memI 454 rfl rfl, am_memI 66 rfl rfl, ⟨by decide, by decide⟩, by decide +kernel, by decide⟩
set_option maxRecDepth 100000 in
theorem ok_X6_hasGaps : am_okM m_X6_hasGaps 1 := ⟨rfl, by decide, am_memI 462 rfl rfl, am_memI 66 rfl rfl, ⟨by decide, by decide⟩, by decide +kernel, by decide⟩
set_option maxRecDepth 100000 in
theorem ok_X6_loseParts : am_okM m_X6_loseParts 0 := ⟨rfl, by decide, am_memI 478 rfl rfl, am_memI 66 rfl rfl, ⟨by decide, by decide⟩, by decide +kernel, by decide⟩
set_option maxRecDepth 100000 in
theorem ok_X6_leave : am_okM m_X6_leave 2 := ⟨rfl, by decide, am_memI 474 rfl rfl, am_memI 66 rfl rfl, ⟨by decide, by decide⟩, by decide +kernel, by decide⟩
set_option maxRecDepth 100000 in
theorem ok_X6_rankOf : am_okM m_X6_rankOf 1 := ⟨rfl, by decide, am_memI 864 rfl rfl, am_memI 66 rfl rfl, ⟨by decide, by decide⟩, by decide +kernel, by decide⟩
set_option maxRecDepth 100000 in
theorem ok_X6_distanceToLane : am_okM m_X6_distanceToLane 1 := ⟨rfl, by decide, am_memI 868 rfl rfl, am_memI 66 rfl rfl, ⟨by decide, by decide⟩, by decide +kernel, by decide⟩
set_option maxRecDepth 100000 in
theorem ok_X7_init : am_okM m_X7_init 0 := ⟨rfl, by decide, am_memI 83 rfl rfl, am_memI 62 rfl rfl, ⟨by decide, by decide⟩, by decide +kernel, by decide⟩
set_option maxRecDepth 100000 in
theorem ok_X7_set : am_okM m_X7_set 2 := ⟨rfl, by decide, am_memI 545 rfl rfl, am_memI 62 rfl rfl, ⟨by decide, by decide⟩, by decide +kernel, by decide⟩
set_option maxRecDepth 100000 in
theorem ok_X7_addLane : am_okM m_X7_addLane 3 := ⟨rfl, by decide, am_memI 664 rfl rfl, am_memI 62 rfl rfl, ⟨by decide, by decide⟩, by decide +kernel, by decide⟩
set_option maxRecDepth 100000 in
theorem ok_X7_emptyLane : am_okM m_X7_emptyLane 1 := ⟨rfl, by decide, am_memI 679 rfl rfl, am_memI 62 rfl rfl, ⟨by decide, by decide⟩, by decide +kernel, by decide⟩
set_option maxRecDepth 100000 in
theorem ok_X7_route : am_okM m_X7_route 2 := ⟨rfl, by decide, am_memI 688 rfl rfl, am_memI 62 rfl rfl, ⟨by decide, by decide⟩, by decide +kernel, by decide⟩
set_option maxRecDepth 100000 in
theorem ok_X7_removeRoute : am_okM m_X7_removeRoute 1 := ⟨rfl, by decide, am_memI 702 rfl rfl, am_memI 62 rfl rfl, ⟨by decide, by decide⟩, by decide +kernel, by decide⟩
set_option maxRecDepth 100000 in
theorem ok_X7_enter : am_okM m_X7_enter 1 := ⟨rfl, by decide, am_memI 714 rfl rfl, am_memI 62 rfl rfl, ⟨by decide, by decide⟩, by decide +kernel, by decide⟩
set_option maxRecDepth 100000 in
theorem ok_X7_read : am_okM m_X7_read 1 := ⟨rfl, by decide, am_memI 733 rfl rfl, am_memI 62 rfl rfl, ⟨by decide, by decide⟩, by decide +kernel, by decide⟩
set_option maxRecDepth 100000 in
theorem ok_X7_move : am_okM m_X7_move 1 := ⟨rfl, by decide, am_memI 748 rfl rfl, am_memI 62 rfl rfl, ⟨by decide, by decide⟩, by decide +kernel, by decide⟩
set_option maxRecDepth 100000 in
theorem ok_X7_takeOff : am_okM m_X7_takeOff 1 := ⟨rfl, by decide, am_memI 767 rfl rfl, am_memI 62 rfl rfl, ⟨by decide, by decide⟩, by decide +kernel, by decide⟩
set_option maxRecDepth 100000 in
theorem ok_X7_undo : am_okM m_X7_undo 0 := ⟨rfl, by decide, am_memI 781 rfl rfl, am_memI 62 rfl rfl, ⟨by decide, by decide⟩, by decide +kernel, by decide⟩
set_option maxRecDepth 100000 in
theorem ok_X7_part : am_okM m_X7_part 2 := ⟨rfl, by decide, am_memI 789 rfl rfl, am_memI 62 rfl rfl, ⟨by decide, by decide⟩, by decide +kernel, by decide⟩
set_option maxRecDepth 100000 in
theorem ok_X7_lane : am_okM m_X7_lane 2 := ⟨rfl, by decide, am_memI 797 rfl rfl, am_memI 62 rfl rfl, ⟨by decide, by decide⟩, by decide +kernel, by decide⟩
set_option maxRecDepth 100000 in
theorem ok_X7_total : am_okM m_X7_total 1 := ⟨rfl, by decide, am_memI 812 rfl rfl, am_memI 62 rfl rfl, ⟨by decide, by decide⟩, by decide +kernel, by decide⟩
set_option maxRecDepth 100000 in
theorem ok_X7_lost : am_okM m_X7_lost 1 := ⟨rfl, by decide, am_memI 824 rfl rfl, am_memI 62 rfl rfl, ⟨by decide, by decide⟩, by decide +kernel, by decide⟩
set_option maxRecDepth 100000 in
theorem ok_X7_setting : am_okM m_X7_setting 1 := ⟨rfl, by decide, am_memI 832 rfl rfl, am_memI 62 rfl rfl, ⟨by decide, by decide⟩, by decide +kernel, by decide⟩
set_option maxRecDepth 100000 in
theorem ok_X7_routeAt : am_okM m_X7_routeAt 1 := ⟨rfl, by decide, am_memI 839 rfl rfl, am_memI 62 rfl rfl, ⟨by decide, by decide⟩, by decide +kernel, by decide⟩
set_option maxRecDepth 100000 in
theorem ok_X7_gapAhead : am_okM m_X7_gapAhead 1 := ⟨rfl, by decide, am_memI 851 rfl rfl, am_memI 62 rfl rfl, ⟨by decide, by decide⟩, by decide +kernel, by decide⟩
set_option maxRecDepth 100000 in
theorem ok_X7_ranked : am_okM m_X7_ranked 1 := ⟨rfl, by decide, am_memI 859 rfl rfl, am_memI 62 rfl rfl, ⟨by decide, by decide⟩, by decide +kernel, by decide⟩
set_option maxRecDepth 100000 in
theorem ok_X7_share : am_okM m_X7_share 0 := ⟨rfl, by decide, am_memI 334 rfl rfl, am_memI 62 rfl rfl, ⟨by decide, by decide⟩, by decide +kernel, by decide⟩
set_option maxRecDepth 100000 in
theorem ok_X7_fateOf : am_okM m_X7_fateOf 1 := ⟨rfl, by decide, am_memI 875 rfl rfl, am_memI 62 rfl rfl, ⟨by decide, by decide⟩, by decide +kernel, by decide⟩
set_option maxRecDepth 100000 in
theorem ok_X7_entryIn : am_okM m_X7_entryIn 0 := ⟨rfl, by decide, am_memI 385 rfl rfl, am_memI 62 rfl rfl, ⟨by decide, by decide⟩, by decide +kernel, by decide⟩
set_option maxRecDepth 100000 in
theorem ok_X7_nextLeaving : am_okM m_X7_nextLeaving 0 := ⟨rfl, by decide, am_memI 486 rfl rfl, am_memI 62 rfl rfl, ⟨by decide, by decide⟩, by decide +kernel, by decide⟩
set_option maxRecDepth 100000 in
theorem ok_X7_laneFor : am_okM m_X7_laneFor 2 := ⟨rfl, by decide, am_memI 882 rfl rfl, am_memI 62 rfl rfl, ⟨by decide, by decide⟩, by decide +kernel, by decide⟩
set_option maxRecDepth 100000 in
theorem ok_X7_append : am_okM m_X7_append 1 := ⟨rfl, by decide, am_memI 890 rfl rfl, am_memI 62 rfl rfl, ⟨by decide, by decide⟩, by decide +kernel, by decide⟩
set_option maxRecDepth 100000 in
theorem ok_X7_clear : am_okM m_X7_clear 0 := ⟨rfl, by decide, am_memI 490 rfl rfl, am_memI 62 rfl rfl, ⟨by decide, by decide⟩, by decide +kernel, by decide⟩
set_option maxRecDepth 100000 in
theorem ok_X7_errorPosition : am_okM m_X7_errorPosition 0 := ⟨rfl, by decide, am_memI 494 rfl rfl, am_memI 62 rfl rfl, ⟨by decide, by decide⟩, by decide +kernel, by decide⟩
set_option maxRecDepth 100000 in
theorem ok_X7_load : am_okM m_X7_load 0 := ⟨rfl, by decide, am_memI 903 rfl rfl, am_memI 62 rfl rfl, ⟨by decide, by decide⟩, by decide +kernel, by decide⟩
set_option maxRecDepth 100000 in
theorem ok_X7_save : am_okM m_X7_save 0 := ⟨rfl, by decide, am_memI 653 rfl rfl, am_memI 62 rfl rfl, ⟨by decide, by decide⟩, by decide +kernel, by decide⟩
set_option maxRecDepth 100000 in
theorem ok_X7_dropOldestSaved : am_okM m_X7_dropOldestSaved 0 := ⟨rfl, by decide, am_memI 657 rfl rfl, am_memI 62 rfl rfl, ⟨by decide, by decide⟩, by decide +kernel, by decide⟩
set_option maxRecDepth 100000 in
theorem ok_X7_hasEntered : am_okM m_X7_hasEntered 1 := ⟨rfl, by decide, am_memI 771 rfl rfl, am_memI 62 rfl rfl, ⟨by decide, by decide⟩, by decide +kernel, by decide⟩
set_option maxRecDepth 100000 in
theorem ok_X7_keepDeparted : am_okM m_X7_keepDeparted 1 := ⟨rfl, by decide, am_memI 755 rfl rfl, am_memI 62 rfl rfl, ⟨by decide, by decide⟩, by decide +kernel, by decide⟩
set_option maxRecDepth 100000 in
theorem ok_X7_partProperty : am_okM m_X7_partProperty 2 := ⟨rfl, by decide, am_memI 342 rfl rfl, am_memI 62 rfl rfl, ⟨by decide, by decide⟩, by decide +kernel, by decide⟩
set_option maxRecDepth 100000 in
theorem ok_X7_sumOverParts : am_okM m_X7_sumOverParts 1 := ⟨rfl, by decide, am_memI 816 rfl rfl, am_memI 62 rfl rfl, ⟨by decide, by decide⟩, by decide +kernel, by decide⟩
set_option maxRecDepth 100000 in
theorem ok_X7_countFates : am_okM m_X7_countFates 2 := ⟨rfl, by decide, am_memI 338 rfl rfl, am_memI 62 rfl rfl, ⟨by decide, by decide⟩, by decide +kernel, by decide⟩
set_option maxRecDepth 100000 in
theorem ok_X7_startTrial : am_okM m_X7_startTrial 0 := ⟨rfl, by decide, am_memI 389 rfl rfl, am_memI 62 rfl rfl, ⟨by decide, by decide⟩, by decide +kernel, by decide⟩
set_option maxRecDepth 100000 in
theorem ok_X8_init : am_okM m_X8_init 0 := ⟨rfl, by decide, am_memI 909 rfl rfl, am_memI 70 rfl rfl, ⟨by decide, by decide⟩, by decide +kernel, by decide⟩
set_option maxRecDepth 100000 in
theorem ok_X8_thrown : am_okM m_X8_thrown 0 := ⟨rfl, by decide, am_memI 957 rfl rfl, am_memI 70 rfl rfl, ⟨by decide, by decide⟩, by decide +kernel, by decide⟩
set_option maxRecDepth 100000 in
theorem ok_X8_refuse : am_okM m_X8_refuse 1 := ⟨rfl, by decide, am_memI 968 rfl rfl, am_memI 70 rfl rfl, ⟨by decide, by decide⟩, by decide +kernel, by decide⟩
set_option maxRecDepth 100000 in
theorem ok_X8_in : am_okM m_X8_in 3 := ⟨rfl, by decide, am_memI 964 rfl rfl, am_memI 70 rfl rfl, ⟨by decide, by decide⟩, by decide +kernel, by decide⟩
set_option maxRecDepth 100000 in
theorem ok_X8_one : am_okM m_X8_one 1 := ⟨rfl, by decide, am_memI 985 rfl rfl, am_memI 70 rfl rfl, ⟨by decide, by decide⟩, by decide +kernel, by decide⟩
set_option maxRecDepth 100000 in
theorem ok_X8_save : am_okM m_X8_save 0 := ⟨rfl, by decide, am_memI 989 rfl rfl, am_memI 70 rfl rfl, ⟨by decide, by decide⟩, by decide +kernel, by decide⟩
set_option maxRecDepth 100000 in
theorem ok_X8_isOn : am_okM m_X8_isOn 1 := ⟨rfl, by decide, am_memI 982 rfl rfl, am_memI 70 rfl rfl, ⟨by decide, by decide⟩, by decide +kernel, by decide⟩
set_option maxRecDepth 100000 in
theorem ok_X8_onBelt : am_okM m_X8_onBelt 0 := ⟨rfl, by decide, am_memI 978 rfl rfl, am_memI 70 rfl rfl, ⟨by decide, by decide⟩, by decide +kernel, by decide⟩
set_option maxRecDepth 100000 in
theorem ok_X8_isLane : am_okM m_X8_isLane 1 := ⟨rfl, by decide, am_memI 1001 rfl rfl, am_memI 70 rfl rfl, ⟨by decide, by decide⟩, by decide +kernel, by decide⟩
set_option maxRecDepth 100000 in
theorem ok_X8_isPart : am_okM m_X8_isPart 1 := ⟨rfl, by decide, am_memI 1109 rfl rfl, am_memI 70 rfl rfl, ⟨by decide, by decide⟩, by decide +kernel, by decide⟩
set_option maxRecDepth 100000 in
theorem ok_X8_isCode : am_okM m_X8_isCode 1 := ⟨rfl, by decide, am_memI 1008 rfl rfl, am_memI 70 rfl rfl, ⟨by decide, by decide⟩, by decide +kernel, by decide⟩
set_option maxRecDepth 100000 in
theorem ok_X8_least : am_okM m_X8_least 1 := ⟨rfl, by decide, am_memI 971 rfl rfl, am_memI 70 rfl rfl, ⟨by decide, by decide⟩, by decide +kernel, by decide⟩
set_option maxRecDepth 100000 in
theorem ok_X8_most : am_okM m_X8_most 1 := ⟨rfl, by decide, am_memI 974 rfl rfl, am_memI 70 rfl rfl, ⟨by decide, by decide⟩, by decide +kernel, by decide⟩
set_option maxRecDepth 100000 in
theorem ok_X8_set : am_okM m_X8_set 2 := ⟨rfl, by decide, am_memI 961 rfl rfl, am_memI 70 rfl rfl, ⟨by decide, by decide⟩, by decide +kernel, by decide⟩
set_option maxRecDepth 100000 in
theorem ok_X8_addLane : am_okM m_X8_addLane 3 := ⟨rfl, by decide, am_memI 993 rfl rfl, am_memI 70 rfl rfl, ⟨by decide, by decide⟩, by decide +kernel, by decide⟩
set_option maxRecDepth 100000 in
theorem ok_X8_emptyLane : am_okM m_X8_emptyLane 1 := ⟨rfl, by decide, am_memI 997 rfl rfl, am_memI 70 rfl rfl, ⟨by decide, by decide⟩, by decide +kernel, by decide⟩
set_option maxRecDepth 100000 in
theorem ok_X8_placeOf : am_okM m_X8_placeOf 1 := ⟨rfl, by decide, am_memI 1016 rfl rfl, am_memI 70 rfl rfl, ⟨by decide, by decide⟩, by decide +kernel, by decide⟩
set_option maxRecDepth 100000 in
theorem ok_X8_hasRoute : am_okM m_X8_hasRoute 1 := ⟨rfl, by decide, am_memI 1012 rfl rfl, am_memI 70 rfl rfl, ⟨by decide, by decide⟩, by decide +kernel, by decide⟩
set_option maxRecDepth 100000 in
theorem ok_X8_route : am_okM m_X8_route 2 := ⟨rfl, by decide, am_memI 1005 rfl rfl, am_memI 70 rfl rfl, ⟨by decide, by decide⟩, by decide +kernel, by decide⟩
set_option maxRecDepth 100000 in
theorem ok_X8_removeRoute : am_okM m_X8_removeRoute 1 := ⟨rfl, by decide, am_memI 1020 rfl rfl, am_memI 70 rfl rfl, ⟨by decide, by decide⟩, by decide +kernel, by decide⟩
set_option maxRecDepth 100000 in
theorem ok_X8_numberAt : am_okM m_X8_numberAt 0 := ⟨rfl, by decide, am_memI 1081 rfl rfl, am_memI 70 rfl rfl, ⟨by decide, by decide⟩, by decide +kernel, by decide⟩
set_option maxRecDepth 100000 in
theorem ok_X8_holds : am_okM m_X8_holds 2 := ⟨rfl, by decide, am_memI 1077 rfl rfl, am_memI 70 rfl rfl, ⟨by decide, by decide⟩, by decide +kernel, by decide⟩
set_option maxRecDepth 100000 in
theorem ok_X8_skip : am_okM m_X8_skip 0 := ⟨rfl, by decide, am_memI 1085 rfl rfl, am_memI 70 rfl rfl, ⟨by decide, by decide⟩, by decide +kernel, by decide⟩
set_option maxRecDepth 100000 in
theorem ok_X8_byRule : am_okM m_X8_byRule 2 := ⟨rfl, by decide, am_memI 1073 rfl rfl, am_memI 70 rfl rfl, ⟨by decide, by decide⟩, by decide +kernel, by decide⟩
set_option maxRecDepth 100000 in
theorem ok_X8_laneBy : am_okM m_X8_laneBy 2 := ⟨rfl, by decide, am_memI 1069 rfl rfl, am_memI 70 rfl rfl, ⟨by decide, by decide⟩, by decide +kernel, by decide⟩
set_option maxRecDepth 100000 in
theorem ok_X8_laneOf : am_okM m_X8_laneOf 1 := ⟨rfl, by decide, am_memI 1065 rfl rfl, am_memI 70 rfl rfl, ⟨by decide, by decide⟩, by decide +kernel, by decide⟩
set_option maxRecDepth 100000 in
theorem ok_X8_tail : am_okM m_X8_tail 1 := ⟨rfl, by decide, am_memI 1036 rfl rfl, am_memI 70 rfl rfl, ⟨by decide, by decide⟩, by decide +kernel, by decide⟩
set_option maxRecDepth 100000 in
theorem ok_X8_middle : am_okM m_X8_middle 1 := ⟨rfl, by decide, am_memI 1089 rfl rfl, am_memI 70 rfl rfl, ⟨by decide, by decide⟩, by decide +kernel, by decide⟩
set_option maxRecDepth 100000 in
theorem ok_X8_ahead : am_okM m_X8_ahead 1 := ⟨rfl, by decide, am_memI 1032 rfl rfl, am_memI 70 rfl rfl, ⟨by decide, by decide⟩, by decide +kernel, by decide⟩
set_option maxRecDepth 100000 in
theorem ok_X8_behind : am_okM m_X8_behind 1 := ⟨rfl, by decide, am_memI 1097 rfl rfl, am_memI 70 rfl rfl, ⟨by decide, by decide⟩, by decide +kernel, by decide⟩
set_option maxRecDepth 100000 in
theorem ok_X8_latest : am_okM m_X8_latest 0 := ⟨rfl, by decide, am_memI 1028 rfl rfl, am_memI 70 rfl rfl, ⟨by decide, by decide⟩, by decide +kernel, by decide⟩
set_option maxRecDepth 100000 in
theorem ok_X8_enter : am_okM m_X8_enter 1 := ⟨rfl, by decide, am_memI 1024 rfl rfl, am_memI 70 rfl rfl, ⟨by decide, by decide⟩, by decide +kernel, by decide⟩
set_option maxRecDepth 100000 in
theorem ok_X8_caster : am_okM m_X8_caster 0 := ⟨rfl, by decide, am_memI 1044 rfl rfl, am_memI 70 rfl rfl, ⟨by decide, by decide⟩, by decide +kernel, by decide⟩
set_option maxRecDepth 100000 in
theorem ok_X8_atScanner : am_okM m_X8_atScanner 0 := ⟨rfl, by decide, am_memI 1048 rfl rfl, am_memI 70 rfl rfl, ⟨by decide, by decide⟩, by decide +kernel, by decide⟩
set_option maxRecDepth 100000 in
theorem ok_X8_readFor : am_okM m_X8_readFor 2 := ⟨rfl, by decide, am_memI 1052 rfl rfl, am_memI 70 rfl rfl, ⟨by decide, by decide⟩, by decide +kernel, by decide⟩
set_option maxRecDepth 100000 in
theorem ok_X8_read : am_okM m_X8_read 1 := ⟨rfl, by decide, am_memI 1040 rfl rfl, am_memI 70 rfl rfl, ⟨by decide, by decide⟩, by decide +kernel, by decide⟩
set_option maxRecDepth 100000 in
theorem ok_X8_attempt : am_okM m_X8_attempt 2 := ⟨rfl, by decide, am_memI 1093 rfl rfl, am_memI 70 rfl rfl, ⟨by decide, by decide⟩, by decide +kernel, by decide⟩
set_option maxRecDepth 100000 in
theorem ok_X8_reasonOf : am_okM m_X8_reasonOf 1 := ⟨rfl, by decide, am_memI 1101 rfl rfl, am_memI 70 rfl rfl, ⟨by decide, by decide⟩, by decide +kernel, by decide⟩
set_option maxRecDepth 100000 in
theorem ok_X8_go : am_okM m_X8_go 0 := ⟨rfl, by decide, am_memI 1061 rfl rfl, am_memI 70 rfl rfl, ⟨by decide, by decide⟩, by decide +kernel, by decide⟩
set_option maxRecDepth 100000 in
theorem ok_X8_move : am_okM m_X8_move 1 := ⟨rfl, by decide, am_memI 1056 rfl rfl, am_memI 70 rfl rfl, ⟨by decide, by decide⟩, by decide +kernel, by decide⟩
set_option maxRecDepth 100000 in
theorem ok_X8_takeOff : am_okM m_X8_takeOff 1 := ⟨rfl, by decide, am_memI 1105 rfl rfl, am_memI 70 rfl rfl, ⟨by decide, by decide⟩, by decide +kernel, by decide⟩
set_option maxRecDepth 100000 in
theorem ok_X8_undo : am_okM m_X8_undo 0 := ⟨rfl, by decide, am_memI 1113 rfl rfl, am_memI 70 rfl rfl, ⟨by decide, by decide⟩, by decide +kernel, by decide⟩
set_option maxRecDepth 100000 in
theorem ok_X8_part : am_okM m_X8_part 2 := ⟨rfl, by decide, am_memI 1117 rfl rfl, am_memI 70 rfl rfl, ⟨by decide, by decide⟩, by decide +kernel, by decide⟩
set_option maxRecDepth 100000 in
theorem ok_X8_routesTo : am_okM m_X8_routesTo 1 := ⟨rfl, by decide, am_memI 1125 rfl rfl, am_memI 70 rfl rfl, ⟨by decide, by decide⟩, by decide +kernel, by decide⟩
set_option maxRecDepth 100000 in
theorem ok_X8_lane : am_okM m_X8_lane 2 := ⟨rfl, by decide, am_memI 1121 rfl rfl, am_memI 70 rfl rfl, ⟨by decide, by decide⟩, by decide +kernel, by decide⟩
set_option maxRecDepth 100000 in
theorem ok_X8_fates : am_okM m_X8_fates 2 := ⟨rfl, by decide, am_memI 1133 rfl rfl, am_memI 70 rfl rfl, ⟨by decide, by decide⟩, by decide +kernel, by decide⟩
set_option maxRecDepth 100000 in
theorem ok_X8_sum : am_okM m_X8_sum 1 := ⟨rfl, by decide, am_memI 1137 rfl rfl, am_memI 70 rfl rfl, ⟨by decide, by decide⟩, by decide +kernel, by decide⟩
set_option maxRecDepth 100000 in
theorem ok_X8_total : am_okM m_X8_total 1 := ⟨rfl, by decide, am_memI 1129 rfl rfl, am_memI 70 rfl rfl, ⟨by decide, by decide⟩, by decide +kernel, by decide⟩
set_option maxRecDepth 100000 in
theorem ok_X8_lost : am_okM m_X8_lost 1 := ⟨rfl, by decide, am_memI 1141 rfl rfl, am_memI 70 rfl rfl, ⟨by decide, by decide⟩, by decide +kernel, by decide⟩
set_option maxRecDepth 100000 in
theorem ok_X8_setting : am_okM m_X8_setting 1 := ⟨rfl, by decide, am_memI 1145 rfl rfl, am_memI 70 rfl rfl, ⟨by decide, by decide⟩, by decide +kernel, by decide⟩
set_option maxRecDepth 100000 in
theorem ok_X8_routeAt : am_okM m_X8_routeAt 1 := ⟨rfl, by decide, am_memI 1149 rfl rfl, am_memI 70 rfl rfl, ⟨by decide, by decide⟩, by decide +kernel, by decide⟩
set_option maxRecDepth 100000 in
theorem ok_X8_gapAhead : am_okM m_X8_gapAhead 1 := ⟨rfl, by decide, am_memI 1153 rfl rfl, am_memI 70 rfl rfl, ⟨by decide, by decide⟩, by decide +kernel, by decide⟩
set_option maxRecDepth 100000 in
theorem ok_X8_isRankedBefore : am_okM m_X8_isRankedBefore 2 := ⟨rfl, by decide, am_memI 1161 rfl rfl, am_memI 70 rfl rfl, ⟨by decide, by decide⟩, by decide +kernel, by decide⟩
set_option maxRecDepth 100000 in
theorem ok_X8_ranked : am_okM m_X8_ranked 1 := ⟨rfl, by decide, am_memI 1157 rfl rfl, am_memI 70 rfl rfl, ⟨by decide, by decide⟩, by decide +kernel, by decide⟩
set_option maxRecDepth 100000 in
theorem ok_X8_share : am_okM m_X8_share 0 := ⟨rfl, by decide, am_memI 1165 rfl rfl, am_memI 70 rfl rfl, ⟨by decide, by decide⟩, by decide +kernel, by decide⟩
set_option maxRecDepth 100000 in
theorem ok_X8_beginTrial : am_okM m_X8_beginTrial 0 := ⟨rfl, by decide, am_memI 1173 rfl rfl, am_memI 70 rfl rfl, ⟨by decide, by decide⟩, by decide +kernel, by decide⟩
set_option maxRecDepth 100000 in
theorem ok_X8_endTrial : am_okM m_X8_endTrial 0 := ⟨rfl, by decide, am_memI 1177 rfl rfl, am_memI 70 rfl rfl, ⟨by decide, by decide⟩, by decide +kernel, by decide⟩
set_option maxRecDepth 100000 in
theorem ok_X8_fateOf : am_okM m_X8_fateOf 1 := ⟨rfl, by decide, am_memI 1169 rfl rfl, am_memI 70 rfl rfl, ⟨by decide, by decide⟩, by decide +kernel, by decide⟩
set_option maxRecDepth 100000 in
theorem ok_X8_canEnter : am_okM m_X8_canEnter 0 := ⟨rfl, by decide, am_memI 1185 rfl rfl, am_memI 70 rfl rfl, ⟨by decide, by decide⟩, by decide +kernel, by decide⟩
set_option maxRecDepth 100000 in
theorem ok_X8_entryIn : am_okM m_X8_entryIn 0 := ⟨rfl, by decide, am_memI 1181 rfl rfl, am_memI 70 rfl rfl, ⟨by decide, by decide⟩, by decide +kernel, by decide⟩
set_option maxRecDepth 100000 in
theorem ok_X8_nextLeaving : am_okM m_X8_nextLeaving 0 := ⟨rfl, by decide, am_memI 1189 rfl rfl, am_memI 70 rfl rfl, ⟨by decide, by decide⟩, by decide +kernel, by decide⟩
set_option maxRecDepth 100000 in
theorem ok_X8_laneFor : am_okM m_X8_laneFor 2 := ⟨rfl, by decide, am_memI 1193 rfl rfl, am_memI 70 rfl rfl, ⟨by decide, by decide⟩, by decide +kernel, by decide⟩
set_option maxRecDepth 100000 in
theorem ok_X8_append : am_okM m_X8_append 1 := ⟨rfl, by decide, am_memI 1197 rfl rfl, am_memI 70 rfl rfl, ⟨by decide, by decide⟩, by decide +kernel, by decide⟩
set_option maxRecDepth 100000 in
theorem ok_X8_clear : am_okM m_X8_clear 0 := ⟨rfl, by decide, am_memI 1201 rfl rfl, am_memI 70 rfl rfl, ⟨by decide, by decide⟩, by decide +kernel, by decide⟩
set_option maxRecDepth 100000 in
theorem ok_X8_endRule : am_okM m_X8_endRule 0 := ⟨rfl, by decide, am_memI 1221 rfl rfl, am_memI 70 rfl rfl, ⟨by decide, by decide⟩, by decide +kernel, by decide⟩
set_option maxRecDepth 100000 in
theorem ok_X8_takesRule : am_okM m_X8_takesRule 1 := ⟨rfl, by decide, am_memI 1217 rfl rfl, am_memI 70 rfl rfl, ⟨by decide, by decide⟩, by decide +kernel, by decide⟩
set_option maxRecDepth 100000 in
theorem ok_X8_takesNumber : am_okM m_X8_takesNumber 1 := ⟨rfl, by decide, am_memI 1225 rfl rfl, am_memI 70 rfl rfl, ⟨by decide, by decide⟩, by decide +kernel, by decide⟩
set_option maxRecDepth 100000 in
theorem ok_X8_takes : am_okM m_X8_takes 1 := ⟨rfl, by decide, am_memI 1213 rfl rfl, am_memI 70 rfl rfl, ⟨by decide, by decide⟩, by decide +kernel, by decide⟩
set_option maxRecDepth 100000 in
theorem ok_X8_error : am_okM m_X8_error 0 := ⟨rfl, by decide, am_memI 1209 rfl rfl, am_memI 70 rfl rfl, ⟨by decide, by decide⟩, by decide +kernel, by decide⟩
set_option maxRecDepth 100000 in
theorem ok_X8_errorPosition : am_okM m_X8_errorPosition 0 := ⟨rfl, by decide, am_memI 1205 rfl rfl, am_memI 70 rfl rfl, ⟨by decide, by decide⟩, by decide +kernel, by decide⟩
set_option maxRecDepth 100000 in
theorem ok_X8_load : am_okM m_X8_load 0 := ⟨rfl, by decide, am_memI 1229 rfl rfl, am_memI 70 rfl rfl, ⟨by decide, by decide⟩, by decide +kernel, by decide⟩
set_option maxRecDepth 100000 in
theorem ok_L_set : am_okM m_L_set 4 := ⟨rfl, by decide, am_memI 538 rfl rfl, am_memI 61 rfl rfl, ⟨by decide, by decide⟩, by decide +kernel, by decide⟩
set_option maxRecDepth 100000 in
theorem ok_L_addLane : am_okM m_L_addLane 5 := ⟨rfl, by decide, am_memI 660 rfl rfl, am_memI 61 rfl rfl, ⟨by decide, by decide⟩, by decide +kernel, by decide⟩
set_option maxRecDepth 100000 in
theorem ok_L_emptyLane : am_okM m_L_emptyLane 3 := ⟨rfl, by decide, am_memI 675 rfl rfl, am_memI 61 rfl rfl, ⟨by decide, by decide⟩, by decide +kernel, by decide⟩
set_option maxRecDepth 100000 in
theorem ok_L_route : am_okM m_L_route 4 := ⟨rfl, by decide, am_memI 684 rfl rfl, am_memI 61 rfl rfl, ⟨by decide, by decide⟩, by decide +kernel, by decide⟩
set_option maxRecDepth 100000 in
theorem ok_L_removeRoute : am_okM m_L_removeRoute 3 := ⟨rfl, by decide, am_memI 698 rfl rfl, am_memI 61 rfl rfl, ⟨by decide, by decide⟩, by decide +kernel, by decide⟩
set_option maxRecDepth 100000 in
theorem ok_L_enter : am_okM m_L_enter 3 := ⟨rfl, by decide, am_memI 710 rfl rfl, am_memI 61 rfl rfl, ⟨by decide, by decide⟩, by decide +kernel, by decide⟩
set_option maxRecDepth 100000 in
theorem ok_L_read : am_okM m_L_read 3 := ⟨rfl, by decide, am_memI 729 rfl rfl, am_memI 61 rfl rfl, ⟨by decide, by decide⟩, by decide +kernel, by decide⟩
set_option maxRecDepth 100000 in
theorem ok_L_move : am_okM m_L_move 3 := ⟨rfl, by decide, am_memI 744 rfl rfl, am_memI 61 rfl rfl, ⟨by decide, by decide⟩, by decide +kernel, by decide⟩
set_option maxRecDepth 100000 in
theorem ok_L_takeOff : am_okM m_L_takeOff 3 := ⟨rfl, by decide, am_memI 763 rfl rfl, am_memI 61 rfl rfl, ⟨by decide, by decide⟩, by decide +kernel, by decide⟩
set_option maxRecDepth 100000 in
theorem ok_L_undo : am_okM m_L_undo 2 := ⟨rfl, by decide, am_memI 777 rfl rfl, am_memI 61 rfl rfl, ⟨by decide, by decide⟩, by decide +kernel, by decide⟩
set_option maxRecDepth 100000 in
theorem ok_L_part : am_okM m_L_part 4 := ⟨rfl, by decide, am_memI 785 rfl rfl, am_memI 61 rfl rfl, ⟨by decide, by decide⟩, by decide +kernel, by decide⟩
set_option maxRecDepth 100000 in
theorem ok_L_lane : am_okM m_L_lane 4 := ⟨rfl, by decide, am_memI 793 rfl rfl, am_memI 61 rfl rfl, ⟨by decide, by decide⟩, by decide +kernel, by decide⟩
set_option maxRecDepth 100000 in
theorem ok_L_total : am_okM m_L_total 3 := ⟨rfl, by decide, am_memI 808 rfl rfl, am_memI 61 rfl rfl, ⟨by decide, by decide⟩, by decide +kernel, by decide⟩
set_option maxRecDepth 100000 in
theorem ok_L_lost : am_okM m_L_lost 3 := ⟨rfl, by decide, am_memI 820 rfl rfl, am_memI 61 rfl rfl, ⟨by decide, by decide⟩, by decide +kernel, by decide⟩
set_option maxRecDepth 100000 in
theorem ok_L_setting : am_okM m_L_setting 3 := ⟨rfl, by decide, am_memI 828 rfl rfl, am_memI 61 rfl rfl, ⟨by decide, by decide⟩, by decide +kernel, by decide⟩
set_option maxRecDepth 100000 in
theorem ok_L_routeAt : am_okM m_L_routeAt 3 := ⟨rfl, by decide, am_memI 835 rfl rfl, am_memI 61 rfl rfl, ⟨by decide, by decide⟩, by decide +kernel, by decide⟩
set_option maxRecDepth 100000 in
theorem ok_L_gapAhead : am_okM m_L_gapAhead 3 := ⟨rfl, by decide, am_memI 847 rfl rfl, am_memI 61 rfl rfl, ⟨by decide, by decide⟩, by decide +kernel, by decide⟩
set_option maxRecDepth 100000 in
theorem ok_L_ranked : am_okM m_L_ranked 3 := ⟨rfl, by decide, am_memI 855 rfl rfl, am_memI 61 rfl rfl, ⟨by decide, by decide⟩, by decide +kernel, by decide⟩
set_option maxRecDepth 100000 in
theorem ok_L_fateOf : am_okM m_L_fateOf 3 := ⟨rfl, by decide, am_memI 871 rfl rfl, am_memI 61 rfl rfl, ⟨by decide, by decide⟩, by decide +kernel, by decide⟩
set_option maxRecDepth 100000 in
theorem ok_L_laneFor : am_okM m_L_laneFor 4 := ⟨rfl, by decide, am_memI 878 rfl rfl, am_memI 61 rfl rfl, ⟨by decide, by decide⟩, by decide +kernel, by decide⟩
set_option maxRecDepth 100000 in
theorem ok_L_append : am_okM m_L_append 3 := ⟨rfl, by decide, am_memI 886 rfl rfl, am_memI 61 rfl rfl, ⟨by decide, by decide⟩, by decide +kernel, by decide⟩
set_option maxRecDepth 100000 in
theorem ok_L_load : am_okM m_L_load 2 := ⟨rfl, by decide, am_memI 899 rfl rfl, am_memI 61 rfl rfl, ⟨by decide, by decide⟩, by decide +kernel, by decide⟩
set_option maxRecDepth 100000 in
theorem mk_X0_3 : Cond.methodLink RX0 3 objectInit ∈ am_good := am_memI 191 rfl rfl
set_option maxRecDepth 100000 in
theorem oi : Cond.instanceMethod objectInit ∈ am_good := am_memI 85 rfl rfl
set_option maxRecDepth 100000 in
theorem oc : Cond.code objectInit ⟨#[0xb1]⟩ 1 none ∈ am_good := am_memI 86 rfl rfl
set_option maxRecDepth 100000 in
theorem fk_X0_9 : am_flk RX0 9 0 0 := ⟨by decide, by decide, am_memI 192 rfl rfl⟩
set_option maxRecDepth 100000 in
theorem fk_X0_15 : am_flk RX0 15 0 1 := ⟨by decide, by decide, am_memI 194 rfl rfl⟩
set_option maxRecDepth 100000 in
theorem fk_X0_18 : am_flk RX0 18 0 2 := ⟨by decide, by decide, am_memI 195 rfl rfl⟩
set_option maxRecDepth 100000 in
theorem fk_X0_21 : am_flk RX0 21 0 3 := ⟨by decide, by decide, am_memI 196 rfl rfl⟩
set_option maxRecDepth 100000 in
theorem fk_X0_24 : am_flk RX0 24 0 4 := ⟨by decide, by decide, am_memI 198 rfl rfl⟩
set_option maxRecDepth 100000 in
theorem mk_X1_3 : Cond.methodLink RX1 3 objectInit ∈ am_good := am_memI 94 rfl rfl
set_option maxRecDepth 100000 in
theorem ac_int : Cond.arrayClass .int ∈ am_good := am_memI 99 rfl rfl
set_option maxRecDepth 100000 in
theorem fk_X1_9 : am_flk RX1 9 1 0 := ⟨by decide, by decide, am_memI 95 rfl rfl⟩
set_option maxRecDepth 100000 in
theorem fk_X1_15 : am_flk RX1 15 2 0 := ⟨by decide, by decide, am_memI 215 rfl rfl⟩
set_option maxRecDepth 100000 in
theorem mk_X1_21 : Cond.methodLink RX1 21 yX2_property ∈ am_good := am_memI 760 rfl rfl
set_option maxRecDepth 100000 in
theorem im_X2_property : Cond.instanceMethod yX2_property ∈ am_good := am_memI 379 rfl rfl
set_option maxRecDepth 100000 in
theorem sl_X2_property : Cond.selects RX2 yX2_property yX2_property ∈ am_good := am_memI 380 rfl rfl
set_option maxRecDepth 100000 in
theorem mk_X2_3 : Cond.methodLink RX2 3 objectInit ∈ am_good := am_memI 214 rfl rfl
set_option maxRecDepth 100000 in
theorem fk_X2_9 : am_flk RX2 9 2 4 := ⟨by decide, by decide, am_memI 227 rfl rfl⟩
set_option maxRecDepth 100000 in
theorem fk_X2_15 : am_flk RX2 15 2 11 := ⟨by decide, by decide, am_memI 238 rfl rfl⟩
set_option maxRecDepth 100000 in
theorem fk_X2_18 : am_flk RX2 18 2 0 := ⟨by decide, by decide, am_memI 216 rfl rfl⟩
set_option maxRecDepth 100000 in
theorem fk_X2_21 : am_flk RX2 21 2 1 := ⟨by decide, by decide, am_memI 219 rfl rfl⟩
set_option maxRecDepth 100000 in
theorem fk_X2_24 : am_flk RX2 24 2 2 := ⟨by decide, by decide, am_memI 221 rfl rfl⟩
set_option maxRecDepth 100000 in
theorem fk_X2_27 : am_flk RX2 27 2 3 := ⟨by decide, by decide, am_memI 224 rfl rfl⟩
set_option maxRecDepth 100000 in
theorem fk_X2_30 : am_flk RX2 30 2 5 := ⟨by decide, by decide, am_memI 229 rfl rfl⟩
set_option maxRecDepth 100000 in
theorem fk_X2_34 : am_flk RX2 34 2 6 := ⟨by decide, by decide, am_memI 231 rfl rfl⟩
set_option maxRecDepth 100000 in
theorem fk_X2_37 : am_flk RX2 37 2 7 := ⟨by decide, by decide, am_memI 233 rfl rfl⟩
set_option maxRecDepth 100000 in
theorem fk_X2_40 : am_flk RX2 40 2 8 := ⟨by decide, by decide, am_memI 234 rfl rfl⟩
set_option maxRecDepth 100000 in
theorem fk_X2_43 : am_flk RX2 43 2 9 := ⟨by decide, by decide, am_memI 235 rfl rfl⟩
set_option maxRecDepth 100000 in
theorem fk_X2_46 : am_flk RX2 46 2 10 := ⟨by decide, by decide, am_memI 237 rfl rfl⟩
set_option maxRecDepth 100000 in
theorem mk_X3_3 : Cond.methodLink RX3 3 objectInit ∈ am_good := am_memI 173 rfl rfl
set_option maxRecDepth 100000 in
theorem fk_X3_9 : am_flk RX3 9 3 0 := ⟨by decide, by decide, am_memI 174 rfl rfl⟩
set_option maxRecDepth 100000 in
theorem fk_X3_15 : am_flk RX3 15 3 1 := ⟨by decide, by decide, am_memI 175 rfl rfl⟩
set_option maxRecDepth 100000 in
theorem mk_X3_18 : Cond.methodLink RX3 18 arraycopyName ∈ am_good := am_memI 405 rfl rfl
set_option maxRecDepth 100000 in
theorem acn : Cond.native arraycopyName ∈ am_good := am_memI 396 rfl rfl
set_option maxRecDepth 100000 in
theorem acs : Cond.static arraycopyName ∈ am_good := am_memI 395 rfl rfl
set_option maxRecDepth 100000 in
theorem aci : Cond.initialized "java/lang/System" ∈ am_good := am_memI 77 rfl rfl
set_option maxRecDepth 100000 in
theorem fk_X3_24 : am_flk RX3 24 3 2 := ⟨by decide, by decide, am_memI 176 rfl rfl⟩
set_option maxRecDepth 100000 in
theorem mk_X3_28 : Cond.methodLink RX3 28 yX3_placeFor ∈ am_good := am_memI 363 rfl rfl
set_option maxRecDepth 100000 in
theorem im_X3_placeFor : Cond.instanceMethod yX3_placeFor ∈ am_good := am_memI 365 rfl rfl
set_option maxRecDepth 100000 in
theorem sl_X3_placeFor : Cond.selects RX3 yX3_placeFor yX3_placeFor ∈ am_good := am_memI 3 rfl rfl
set_option maxRecDepth 100000 in
theorem mk_X4_3 : Cond.methodLink RX4 3 objectInit ∈ am_good := am_memI 123 rfl rfl
set_option maxRecDepth 100000 in
theorem ac_char : Cond.arrayClass .char ∈ am_good := am_memI 117 rfl rfl
set_option maxRecDepth 100000 in
theorem fk_X4_9 : am_flk RX4 9 4 0 := ⟨by decide, by decide, am_memI 124 rfl rfl⟩
set_option maxRecDepth 100000 in
theorem fk_X4_15 : am_flk RX4 15 4 1 := ⟨by decide, by decide, am_memI 125 rfl rfl⟩
set_option maxRecDepth 100000 in
theorem fk_X4_19 : am_flk RX4 19 4 2 := ⟨by decide, by decide, am_memI 126 rfl rfl⟩
set_option maxRecDepth 100000 in
theorem fk_X4_22 : am_flk RX4 22 4 3 := ⟨by decide, by decide, am_memI 127 rfl rfl⟩
set_option maxRecDepth 100000 in
theorem fk_X4_25 : am_flk RX4 25 4 4 := ⟨by decide, by decide, am_memI 128 rfl rfl⟩
set_option maxRecDepth 100000 in
theorem fk_X4_29 : am_flk RX4 29 4 5 := ⟨by decide, by decide, am_memI 129 rfl rfl⟩
set_option maxRecDepth 100000 in
theorem mk_X4_32 : Cond.methodLink RX4 32 yX4_addNode ∈ am_good := am_memI 148 rfl rfl
set_option maxRecDepth 100000 in
theorem im_X4_addNode : Cond.instanceMethod yX4_addNode ∈ am_good := am_memI 150 rfl rfl
set_option maxRecDepth 100000 in
theorem sl_X4_addNode : Cond.selects RX4 yX4_addNode yX4_addNode ∈ am_good := am_memI 0 rfl rfl
set_option maxRecDepth 100000 in
theorem mk_X4_36 : Cond.methodLink RX4 36 yX4_holds ∈ am_good := am_memI 371 rfl rfl
set_option maxRecDepth 100000 in
theorem sm_X4_holds : Cond.static yX4_holds ∈ am_good := am_memI 372 rfl rfl
set_option maxRecDepth 100000 in
theorem mk_X5_3 : Cond.methodLink RX5 3 objectInit ∈ am_good := am_memI 105 rfl rfl
set_option maxRecDepth 100000 in
theorem fk_X5_9 : am_flk RX5 9 5 0 := ⟨by decide, by decide, am_memI 106 rfl rfl⟩
set_option maxRecDepth 100000 in
theorem fk_X5_15 : am_flk RX5 15 5 1 := ⟨by decide, by decide, am_memI 107 rfl rfl⟩
set_option maxRecDepth 100000 in
theorem fk_X5_19 : am_flk RX5 19 5 2 := ⟨by decide, by decide, am_memI 109 rfl rfl⟩
set_option maxRecDepth 100000 in
theorem mk_X5_22 : Cond.methodLink RX5 22 yX4_restart ∈ am_good := am_memI 499 rfl rfl
set_option maxRecDepth 100000 in
theorem im_X4_restart : Cond.instanceMethod yX4_restart ∈ am_good := am_memI 500 rfl rfl
set_option maxRecDepth 100000 in
theorem sl_X4_restart : Cond.selects RX4 yX4_restart yX4_restart ∈ am_good := am_memI 501 rfl rfl
set_option maxRecDepth 100000 in
theorem mk_X5_27 : Cond.methodLink RX5 27 yX5_takesRule ∈ am_good := am_memI 503 rfl rfl
set_option maxRecDepth 100000 in
theorem im_X5_takesRule : Cond.instanceMethod yX5_takesRule ∈ am_good := am_memI 505 rfl rfl
set_option maxRecDepth 100000 in
theorem sl_X5_takesRule : Cond.selects RX5 yX5_takesRule yX5_takesRule ∈ am_good := am_memI 11 rfl rfl
set_option maxRecDepth 100000 in
theorem mk_X5_31 : Cond.methodLink RX5 31 yX5_nextSign ∈ am_good := am_memI 507 rfl rfl
set_option maxRecDepth 100000 in
theorem im_X5_nextSign : Cond.instanceMethod yX5_nextSign ∈ am_good := am_memI 509 rfl rfl
set_option maxRecDepth 100000 in
theorem sl_X5_nextSign : Cond.selects RX5 yX5_nextSign yX5_nextSign ∈ am_good := am_memI 12 rfl rfl
set_option maxRecDepth 100000 in
theorem mk_X5_35 : Cond.methodLink RX5 35 yX4_addLeaf ∈ am_good := am_memI 511 rfl rfl
set_option maxRecDepth 100000 in
theorem im_X4_addLeaf : Cond.instanceMethod yX4_addLeaf ∈ am_good := am_memI 145 rfl rfl
set_option maxRecDepth 100000 in
theorem sl_X4_addLeaf : Cond.selects RX4 yX4_addLeaf yX4_addLeaf ∈ am_good := am_memI 146 rfl rfl
set_option maxRecDepth 100000 in
theorem mk_X5_39 : Cond.methodLink RX5 39 yX5_takesChoice ∈ am_good := am_memI 512 rfl rfl
set_option maxRecDepth 100000 in
theorem im_X5_takesChoice : Cond.instanceMethod yX5_takesChoice ∈ am_good := am_memI 514 rfl rfl
set_option maxRecDepth 100000 in
theorem sl_X5_takesChoice : Cond.selects RX5 yX5_takesChoice yX5_takesChoice ∈ am_good := am_memI 13 rfl rfl
set_option maxRecDepth 100000 in
theorem mk_X5_42 : Cond.methodLink RX5 42 yX5_takesSign ∈ am_good := am_memI 516 rfl rfl
set_option maxRecDepth 100000 in
theorem im_X5_takesSign : Cond.instanceMethod yX5_takesSign ∈ am_good := am_memI 518 rfl rfl
set_option maxRecDepth 100000 in
theorem sl_X5_takesSign : Cond.selects RX5 yX5_takesSign yX5_takesSign ∈ am_good := am_memI 14 rfl rfl
set_option maxRecDepth 100000 in
theorem mk_X5_46 : Cond.methodLink RX5 46 yX5_takeCondition ∈ am_good := am_memI 520 rfl rfl
set_option maxRecDepth 100000 in
theorem im_X5_takeCondition : Cond.instanceMethod yX5_takeCondition ∈ am_good := am_memI 522 rfl rfl
set_option maxRecDepth 100000 in
theorem sl_X5_takeCondition : Cond.selects RX5 yX5_takeCondition yX5_takeCondition ∈ am_good := am_memI 15 rfl rfl
set_option maxRecDepth 100000 in
theorem mk_X5_50 : Cond.methodLink RX5 50 yX4_otherwise ∈ am_good := am_memI 532 rfl rfl
set_option maxRecDepth 100000 in
theorem im_X4_otherwise : Cond.instanceMethod yX4_otherwise ∈ am_good := am_memI 533 rfl rfl
set_option maxRecDepth 100000 in
theorem sl_X4_otherwise : Cond.selects RX4 yX4_otherwise yX4_otherwise ∈ am_good := am_memI 534 rfl rfl
set_option maxRecDepth 100000 in
theorem mk_X5_53 : Cond.methodLink RX5 53 yX5_takeNumber ∈ am_good := am_memI 524 rfl rfl
set_option maxRecDepth 100000 in
theorem im_X5_takeNumber : Cond.instanceMethod yX5_takeNumber ∈ am_good := am_memI 526 rfl rfl
set_option maxRecDepth 100000 in
theorem sl_X5_takeNumber : Cond.selects RX5 yX5_takeNumber yX5_takeNumber ∈ am_good := am_memI 16 rfl rfl
set_option maxRecDepth 100000 in
theorem mk_X5_56 : Cond.methodLink RX5 56 yX4_addCondition ∈ am_good := am_memI 528 rfl rfl
set_option maxRecDepth 100000 in
theorem im_X4_addCondition : Cond.instanceMethod yX4_addCondition ∈ am_good := am_memI 529 rfl rfl
set_option maxRecDepth 100000 in
theorem sl_X4_addCondition : Cond.selects RX4 yX4_addCondition yX4_addCondition ∈ am_good := am_memI 530 rfl rfl
set_option maxRecDepth 100000 in
theorem mk_X6_3 : Cond.methodLink RX6 3 objectInit ∈ am_good := am_memI 156 rfl rfl
set_option maxRecDepth 100000 in
theorem mk_X6_13 : Cond.methodLink RX6 13 am_cln ∈ am_good := am_memI 159 rfl rfl
set_option maxRecDepth 100000 in
theorem cls : Cond.sameMethod "[I" "java/lang/Object" "clone" "()Ljava/lang/Object;" ∈ am_good := am_memI 160 rfl rfl
set_option maxRecDepth 100000 in
theorem cln : Cond.native am_clo ∈ am_good := am_memI 161 rfl rfl
set_option maxRecDepth 100000 in
theorem cli : Cond.instanceMethod am_clo ∈ am_good := am_memI 162 rfl rfl
set_option maxRecDepth 100000 in
theorem clx : Cond.selects "[I" am_cln am_clo ∈ am_good := am_memI 163 rfl rfl
set_option maxRecDepth 100000 in
theorem qk_X6_14 : Cond.classLink RX6 14 "[I" ∈ am_good := am_memI 165 rfl rfl
set_option maxRecDepth 100000 in
theorem fk_X6_18 : am_flk RX6 18 6 0 := ⟨by decide, by decide, am_memI 265 rfl rfl⟩
set_option maxRecDepth 100000 in
theorem qk_X6_23 : Cond.classLink RX6 23 "PickScanner$Lane" ∈ am_good := am_memI 166 rfl rfl
set_option maxRecDepth 100000 in
theorem fk_X6_25 : am_flk RX6 25 6 1 := ⟨by decide, by decide, am_memI 267 rfl rfl⟩
set_option maxRecDepth 100000 in
theorem ck_X6_29 : Cond.classLink RX6 29 (am_R 3) ∈ am_good := am_memI 168 rfl rfl
set_option maxRecDepth 100000 in
theorem in_3 : Cond.instantiable (am_R 3) (am_nf 3) ∈ am_good := am_memI 169 rfl rfl
set_option maxRecDepth 100000 in
theorem ii_3 : Cond.initialized (am_R 3) ∈ am_good := am_memI 67 rfl rfl
set_option maxRecDepth 100000 in
theorem im_X3_init : Cond.instanceMethod yX3_init ∈ am_good := am_memI 171 rfl rfl
set_option maxRecDepth 100000 in
theorem fk_X6_32 : am_flk RX6 32 6 3 := ⟨by decide, by decide, am_memI 271 rfl rfl⟩
set_option maxRecDepth 100000 in
theorem qk_X6_36 : Cond.classLink RX6 36 "PickScanner$Part" ∈ am_good := am_memI 185 rfl rfl
set_option maxRecDepth 100000 in
theorem fk_X6_38 : am_flk RX6 38 6 5 := ⟨by decide, by decide, am_memI 275 rfl rfl⟩
set_option maxRecDepth 100000 in
theorem fk_X6_42 : am_flk RX6 42 6 4 := ⟨by decide, by decide, am_memI 273 rfl rfl⟩
set_option maxRecDepth 100000 in
theorem ck_X6_23 : Cond.classLink RX6 23 (am_R 0) ∈ am_good := am_memI 166 rfl rfl
set_option maxRecDepth 100000 in
theorem in_0 : Cond.instantiable (am_R 0) (am_nf 0) ∈ am_good := am_memI 187 rfl rfl
set_option maxRecDepth 100000 in
theorem ii_0 : Cond.initialized (am_R 0) ∈ am_good := am_memI 68 rfl rfl
set_option maxRecDepth 100000 in
theorem im_X0_init : Cond.instanceMethod yX0_init ∈ am_good := am_memI 189 rfl rfl
set_option maxRecDepth 100000 in
theorem ck_X6_36 : Cond.classLink RX6 36 (am_R 2) ∈ am_good := am_memI 185 rfl rfl
set_option maxRecDepth 100000 in
theorem in_2 : Cond.instantiable (am_R 2) (am_nf 2) ∈ am_good := am_memI 210 rfl rfl
set_option maxRecDepth 100000 in
theorem ii_2 : Cond.initialized (am_R 2) ∈ am_good := am_memI 69 rfl rfl
set_option maxRecDepth 100000 in
theorem im_X2_init : Cond.instanceMethod yX2_init ∈ am_good := am_memI 212 rfl rfl
set_option maxRecDepth 100000 in
theorem mk_X6_48 : Cond.methodLink RX6 48 arraycopyName ∈ am_good := am_memI 394 rfl rfl
set_option maxRecDepth 100000 in
theorem fk_X6_54 : am_flk RX6 54 6 2 := ⟨by decide, by decide, am_memI 269 rfl rfl⟩
set_option maxRecDepth 100000 in
theorem mk_X6_62 : Cond.methodLink RX6 62 yX3_copyFrom ∈ am_good := am_memI 401 rfl rfl
set_option maxRecDepth 100000 in
theorem im_X3_copyFrom : Cond.instanceMethod yX3_copyFrom ∈ am_good := am_memI 402 rfl rfl
set_option maxRecDepth 100000 in
theorem sl_X3_copyFrom : Cond.selects RX3 yX3_copyFrom yX3_copyFrom ∈ am_good := am_memI 403 rfl rfl
set_option maxRecDepth 100000 in
theorem fk_X6_65 : am_flk RX6 65 6 6 := ⟨by decide, by decide, am_memI 278 rfl rfl⟩
set_option maxRecDepth 100000 in
theorem mk_X6_58 : Cond.methodLink RX6 58 yX0_copyFrom ∈ am_good := am_memI 397 rfl rfl
set_option maxRecDepth 100000 in
theorem im_X0_copyFrom : Cond.instanceMethod yX0_copyFrom ∈ am_good := am_memI 398 rfl rfl
set_option maxRecDepth 100000 in
theorem sl_X0_copyFrom : Cond.selects RX0 yX0_copyFrom yX0_copyFrom ∈ am_good := am_memI 399 rfl rfl
set_option maxRecDepth 100000 in
theorem fk_X6_71 : am_flk RX6 71 6 7 := ⟨by decide, by decide, am_memI 279 rfl rfl⟩
set_option maxRecDepth 100000 in
theorem fk_X6_74 : am_flk RX6 74 6 8 := ⟨by decide, by decide, am_memI 281 rfl rfl⟩
set_option maxRecDepth 100000 in
theorem fk_X6_77 : am_flk RX6 77 6 9 := ⟨by decide, by decide, am_memI 283 rfl rfl⟩
set_option maxRecDepth 100000 in
theorem mk_X6_68 : Cond.methodLink RX6 68 yX2_copyFrom ∈ am_good := am_memI 406 rfl rfl
set_option maxRecDepth 100000 in
theorem im_X2_copyFrom : Cond.instanceMethod yX2_copyFrom ∈ am_good := am_memI 407 rfl rfl
set_option maxRecDepth 100000 in
theorem sl_X2_copyFrom : Cond.selects RX2 yX2_copyFrom yX2_copyFrom ∈ am_good := am_memI 408 rfl rfl
set_option maxRecDepth 100000 in
theorem fk_X6_80 : am_flk RX6 80 2 0 := ⟨by decide, by decide, am_memI 217 rfl rfl⟩
set_option maxRecDepth 100000 in
theorem mk_X6_83 : Cond.methodLink RX6 83 yX2_tail ∈ am_good := am_memI 420 rfl rfl
set_option maxRecDepth 100000 in
theorem im_X2_tail : Cond.instanceMethod yX2_tail ∈ am_good := am_memI 421 rfl rfl
set_option maxRecDepth 100000 in
theorem sl_X2_tail : Cond.selects RX2 yX2_tail yX2_tail ∈ am_good := am_memI 422 rfl rfl
set_option maxRecDepth 100000 in
theorem fk_X6_87 : am_flk RX6 87 2 2 := ⟨by decide, by decide, am_memI 222 rfl rfl⟩
set_option maxRecDepth 100000 in
theorem lc_X6_90 : Cond.constant RX6 90 (Int32.ofInt 1000000) ∈ am_good := am_memI 424 rfl rfl
set_option maxRecDepth 100000 in
theorem mk_X6_91 : Cond.methodLink RX6 91 yX2_begin ∈ am_good := am_memI 722 rfl rfl
set_option maxRecDepth 100000 in
theorem im_X2_begin : Cond.instanceMethod yX2_begin ∈ am_good := am_memI 723 rfl rfl
set_option maxRecDepth 100000 in
theorem sl_X2_begin : Cond.selects RX2 yX2_begin yX2_begin ∈ am_good := am_memI 724 rfl rfl
set_option maxRecDepth 100000 in
theorem mk_X6_95 : Cond.methodLink RX6 95 yX6_freeAtEntry ∈ am_good := am_memI 726 rfl rfl
set_option maxRecDepth 100000 in
theorem im_X6_freeAtEntry : Cond.instanceMethod yX6_freeAtEntry ∈ am_good := am_memI 417 rfl rfl
set_option maxRecDepth 100000 in
theorem sl_X6_freeAtEntry : Cond.selects RX6 yX6_freeAtEntry yX6_freeAtEntry ∈ am_good := am_memI 418 rfl rfl
set_option maxRecDepth 100000 in
theorem fk_X6_98 : am_flk RX6 98 2 6 := ⟨by decide, by decide, am_memI 232 rfl rfl⟩
set_option maxRecDepth 100000 in
theorem fk_X6_102 : am_flk RX6 102 2 4 := ⟨by decide, by decide, am_memI 228 rfl rfl⟩
set_option maxRecDepth 100000 in
theorem fk_X6_105 : am_flk RX6 105 2 5 := ⟨by decide, by decide, am_memI 230 rfl rfl⟩
set_option maxRecDepth 100000 in
theorem fk_X6_108 : am_flk RX6 108 2 1 := ⟨by decide, by decide, am_memI 220 rfl rfl⟩
set_option maxRecDepth 100000 in
theorem mk_X6_111 : Cond.methodLink RX6 111 yX6_laneGiven ∈ am_good := am_memI 355 rfl rfl
set_option maxRecDepth 100000 in
theorem im_X6_laneGiven : Cond.instanceMethod yX6_laneGiven ∈ am_good := am_memI 356 rfl rfl
set_option maxRecDepth 100000 in
theorem sl_X6_laneGiven : Cond.selects RX6 yX6_laneGiven yX6_laneGiven ∈ am_good := am_memI 357 rfl rfl
set_option maxRecDepth 100000 in
theorem mk_X6_115 : Cond.methodLink RX6 115 yX3_laneOf ∈ am_good := am_memI 359 rfl rfl
set_option maxRecDepth 100000 in
theorem im_X3_laneOf : Cond.instanceMethod yX3_laneOf ∈ am_good := am_memI 360 rfl rfl
set_option maxRecDepth 100000 in
theorem sl_X3_laneOf : Cond.selects RX3 yX3_laneOf yX3_laneOf ∈ am_good := am_memI 361 rfl rfl
set_option maxRecDepth 100000 in
theorem mk_X6_124 : Cond.methodLink RX6 124 yX6_hasLane ∈ am_good := am_memI 374 rfl rfl
set_option maxRecDepth 100000 in
theorem im_X6_hasLane : Cond.instanceMethod yX6_hasLane ∈ am_good := am_memI 375 rfl rfl
set_option maxRecDepth 100000 in
theorem sl_X6_hasLane : Cond.selects RX6 yX6_hasLane yX6_hasLane ∈ am_good := am_memI 376 rfl rfl
set_option maxRecDepth 100000 in
theorem mk_X6_119 : Cond.methodLink RX6 119 yX4_laneBy ∈ am_good := am_memI 367 rfl rfl
set_option maxRecDepth 100000 in
theorem im_X4_laneBy : Cond.instanceMethod yX4_laneBy ∈ am_good := am_memI 368 rfl rfl
set_option maxRecDepth 100000 in
theorem sl_X4_laneBy : Cond.selects RX4 yX4_laneBy yX4_laneBy ∈ am_good := am_memI 369 rfl rfl
set_option maxRecDepth 100000 in
theorem fk_X6_134 : am_flk RX6 134 6 10 := ⟨by decide, by decide, am_memI 285 rfl rfl⟩
set_option maxRecDepth 100000 in
theorem mk_X6_128 : Cond.methodLink RX6 128 yX6_laneOf ∈ am_good := am_memI 414 rfl rfl
set_option maxRecDepth 100000 in
theorem im_X6_laneOf : Cond.instanceMethod yX6_laneOf ∈ am_good := am_memI 352 rfl rfl
set_option maxRecDepth 100000 in
theorem sl_X6_laneOf : Cond.selects RX6 yX6_laneOf yX6_laneOf ∈ am_good := am_memI 353 rfl rfl
set_option maxRecDepth 100000 in
theorem fk_X6_131 : am_flk RX6 131 2 11 := ⟨by decide, by decide, am_memI 239 rfl rfl⟩
set_option maxRecDepth 100000 in
theorem mk_X6_148 : Cond.methodLink RX6 148 yX6_advance ∈ am_good := am_memI 443 rfl rfl
set_option maxRecDepth 100000 in
theorem im_X6_advance : Cond.instanceMethod yX6_advance ∈ am_good := am_memI 445 rfl rfl
set_option maxRecDepth 100000 in
theorem sl_X6_advance : Cond.selects RX6 yX6_advance yX6_advance ∈ am_good := am_memI 6 rfl rfl
set_option maxRecDepth 100000 in
theorem mk_X6_152 : Cond.methodLink RX6 152 yX6_divertParts ∈ am_good := am_memI 447 rfl rfl
set_option maxRecDepth 100000 in
theorem im_X6_divertParts : Cond.instanceMethod yX6_divertParts ∈ am_good := am_memI 449 rfl rfl
set_option maxRecDepth 100000 in
theorem sl_X6_divertParts : Cond.selects RX6 yX6_divertParts yX6_divertParts ∈ am_good := am_memI 7 rfl rfl
set_option maxRecDepth 100000 in
theorem mk_X6_155 : Cond.methodLink RX6 155 yX6_loseParts ∈ am_good := am_memI 475 rfl rfl
set_option maxRecDepth 100000 in
theorem im_X6_loseParts : Cond.instanceMethod yX6_loseParts ∈ am_good := am_memI 477 rfl rfl
set_option maxRecDepth 100000 in
theorem sl_X6_loseParts : Cond.selects RX6 yX6_loseParts yX6_loseParts ∈ am_good := am_memI 10 rfl rfl
set_option maxRecDepth 100000 in
theorem mk_X6_137 : Cond.methodLink RX6 137 yX6_quietMillimeters ∈ am_good := am_memI 429 rfl rfl
set_option maxRecDepth 100000 in
theorem im_X6_quietMillimeters : Cond.instanceMethod yX6_quietMillimeters ∈ am_good := am_memI 431 rfl rfl
set_option maxRecDepth 100000 in
theorem sl_X6_quietMillimeters : Cond.selects RX6 yX6_quietMillimeters yX6_quietMillimeters ∈ am_good := am_memI 5 rfl rfl
set_option maxRecDepth 100000 in
theorem mk_X6_140 : Cond.methodLink RX6 140 Lib.Math.min.name ∈ am_good := am_memI 433 rfl rfl
set_option maxRecDepth 100000 in
theorem ms_min : Cond.static Lib.Math.min.name ∈ am_good := am_memI 434 rfl rfl
set_option maxRecDepth 100000 in
theorem mi : Cond.initialized "java/lang/Math" ∈ am_good := am_memI 78 rfl rfl
set_option maxRecDepth 100000 in
theorem mc_min : Cond.code Lib.Math.min.name Lib.Math.min.code 2 (some .int) ∈ am_good := am_memI 435 rfl rfl
set_option maxRecDepth 100000 in
theorem mk_X6_145 : Cond.methodLink RX6 145 Lib.Math.max.name ∈ am_good := am_memI 440 rfl rfl
set_option maxRecDepth 100000 in
theorem ms_max : Cond.static Lib.Math.max.name ∈ am_good := am_memI 441 rfl rfl
set_option maxRecDepth 100000 in
theorem mc_max : Cond.code Lib.Math.max.name Lib.Math.max.code 2 (some .int) ∈ am_good := am_memI 442 rfl rfl
set_option maxRecDepth 100000 in
theorem fk_X6_158 : am_flk RX6 158 0 0 := ⟨by decide, by decide, am_memI 193 rfl rfl⟩
set_option maxRecDepth 100000 in
theorem mk_X6_161 : Cond.methodLink RX6 161 yX2_middle ∈ am_good := am_memI 436 rfl rfl
set_option maxRecDepth 100000 in
theorem im_X2_middle : Cond.instanceMethod yX2_middle ∈ am_good := am_memI 437 rfl rfl
set_option maxRecDepth 100000 in
theorem sl_X2_middle : Cond.selects RX2 yX2_middle yX2_middle ∈ am_good := am_memI 438 rfl rfl
set_option maxRecDepth 100000 in
theorem mk_X6_164 : Cond.methodLink RX6 164 yX6_diverts ∈ am_good := am_memI 451 rfl rfl
set_option maxRecDepth 100000 in
theorem im_X6_diverts : Cond.instanceMethod yX6_diverts ∈ am_good := am_memI 453 rfl rfl
set_option maxRecDepth 100000 in
theorem sl_X6_diverts : Cond.selects RX6 yX6_diverts yX6_diverts ∈ am_good := am_memI 8 rfl rfl
set_option maxRecDepth 100000 in
theorem mk_X6_167 : Cond.methodLink RX6 167 yX6_leave ∈ am_good := am_memI 471 rfl rfl
set_option maxRecDepth 100000 in
theorem im_X6_leave : Cond.instanceMethod yX6_leave ∈ am_good := am_memI 472 rfl rfl
set_option maxRecDepth 100000 in
theorem sl_X6_leave : Cond.selects RX6 yX6_leave yX6_leave ∈ am_good := am_memI 473 rfl rfl
set_option maxRecDepth 100000 in
theorem mk_X6_170 : Cond.methodLink RX6 170 yX0_covers ∈ am_good := am_memI 455 rfl rfl
set_option maxRecDepth 100000 in
theorem im_X0_covers : Cond.instanceMethod yX0_covers ∈ am_good := am_memI 456 rfl rfl
set_option maxRecDepth 100000 in
theorem sl_X0_covers : Cond.selects RX0 yX0_covers yX0_covers ∈ am_good := am_memI 457 rfl rfl
set_option maxRecDepth 100000 in
theorem mk_X6_173 : Cond.methodLink RX6 173 yX6_hasGaps ∈ am_good := am_memI 459 rfl rfl
set_option maxRecDepth 100000 in
theorem im_X6_hasGaps : Cond.instanceMethod yX6_hasGaps ∈ am_good := am_memI 461 rfl rfl
set_option maxRecDepth 100000 in
theorem sl_X6_hasGaps : Cond.selects RX6 yX6_hasGaps yX6_hasGaps ∈ am_good := am_memI 9 rfl rfl
set_option maxRecDepth 100000 in
theorem mk_X6_179 : Cond.methodLink RX6 179 yX0_takes ∈ am_good := am_memI 467 rfl rfl
set_option maxRecDepth 100000 in
theorem im_X0_takes : Cond.instanceMethod yX0_takes ∈ am_good := am_memI 468 rfl rfl
set_option maxRecDepth 100000 in
theorem sl_X0_takes : Cond.selects RX0 yX0_takes yX0_takes ∈ am_good := am_memI 469 rfl rfl
set_option maxRecDepth 100000 in
theorem fk_X6_176 : am_flk RX6 176 2 9 := ⟨by decide, by decide, am_memI 236 rfl rfl⟩
set_option maxRecDepth 100000 in
theorem mk_X6_183 : Cond.methodLink RX6 183 yX6_gapBetween ∈ am_good := am_memI 463 rfl rfl
set_option maxRecDepth 100000 in
theorem im_X6_gapBetween : Cond.instanceMethod yX6_gapBetween ∈ am_good := am_memI 464 rfl rfl
set_option maxRecDepth 100000 in
theorem sl_X6_gapBetween : Cond.selects RX6 yX6_gapBetween yX6_gapBetween ∈ am_good := am_memI 465 rfl rfl
set_option maxRecDepth 100000 in
theorem mk_X6_186 : Cond.methodLink RX6 186 yX2_reason ∈ am_good := am_memI 479 rfl rfl
set_option maxRecDepth 100000 in
theorem im_X2_reason : Cond.instanceMethod yX2_reason ∈ am_good := am_memI 480 rfl rfl
set_option maxRecDepth 100000 in
theorem sl_X2_reason : Cond.selects RX2 yX2_reason yX2_reason ∈ am_good := am_memI 481 rfl rfl
set_option maxRecDepth 100000 in
theorem fk_X6_189 : am_flk RX6 189 2 3 := ⟨by decide, by decide, am_memI 225 rfl rfl⟩
set_option maxRecDepth 100000 in
theorem mk_X6_192 : Cond.methodLink RX6 192 yX6_distanceToLane ∈ am_good := am_memI 865 rfl rfl
set_option maxRecDepth 100000 in
theorem im_X6_distanceToLane : Cond.instanceMethod yX6_distanceToLane ∈ am_good := am_memI 867 rfl rfl
set_option maxRecDepth 100000 in
theorem sl_X6_distanceToLane : Cond.selects RX6 yX6_distanceToLane yX6_distanceToLane ∈ am_good := am_memI 23 rfl rfl
set_option maxRecDepth 100000 in
theorem mk_X7_1 : Cond.methodLink RX7 1 objectInit ∈ am_good := am_memI 84 rfl rfl
set_option maxRecDepth 100000 in
theorem qk_X7_9 : Cond.classLink RX7 9 "PickScanner$State" ∈ am_good := am_memI 87 rfl rfl
set_option maxRecDepth 100000 in
theorem fk_X7_11 : am_flk RX7 11 7 2 := ⟨by decide, by decide, am_memI 311 rfl rfl⟩
set_option maxRecDepth 100000 in
theorem ck_X7_15 : Cond.classLink RX7 15 (am_R 1) ∈ am_good := am_memI 89 rfl rfl
set_option maxRecDepth 100000 in
theorem in_1 : Cond.instantiable (am_R 1) (am_nf 1) ∈ am_good := am_memI 90 rfl rfl
set_option maxRecDepth 100000 in
theorem ii_1 : Cond.initialized (am_R 1) ∈ am_good := am_memI 63 rfl rfl
set_option maxRecDepth 100000 in
theorem im_X1_init : Cond.instanceMethod yX1_init ∈ am_good := am_memI 92 rfl rfl
set_option maxRecDepth 100000 in
theorem fk_X7_18 : am_flk RX7 18 7 4 := ⟨by decide, by decide, am_memI 313 rfl rfl⟩
set_option maxRecDepth 100000 in
theorem ck_X7_22 : Cond.classLink RX7 22 (am_R 5) ∈ am_good := am_memI 100 rfl rfl
set_option maxRecDepth 100000 in
theorem in_5 : Cond.instantiable (am_R 5) (am_nf 5) ∈ am_good := am_memI 101 rfl rfl
set_option maxRecDepth 100000 in
theorem ii_5 : Cond.initialized (am_R 5) ∈ am_good := am_memI 64 rfl rfl
set_option maxRecDepth 100000 in
theorem im_X5_init : Cond.instanceMethod yX5_init ∈ am_good := am_memI 103 rfl rfl
set_option maxRecDepth 100000 in
theorem fk_X7_25 : am_flk RX7 25 7 5 := ⟨by decide, by decide, am_memI 314 rfl rfl⟩
set_option maxRecDepth 100000 in
theorem ck_X7_29 : Cond.classLink RX7 29 (am_R 4) ∈ am_good := am_memI 118 rfl rfl
set_option maxRecDepth 100000 in
theorem in_4 : Cond.instantiable (am_R 4) (am_nf 4) ∈ am_good := am_memI 119 rfl rfl
set_option maxRecDepth 100000 in
theorem ii_4 : Cond.initialized (am_R 4) ∈ am_good := am_memI 65 rfl rfl
set_option maxRecDepth 100000 in
theorem im_X4_init : Cond.instanceMethod yX4_init ∈ am_good := am_memI 121 rfl rfl
set_option maxRecDepth 100000 in
theorem fk_X7_32 : am_flk RX7 32 7 6 := ⟨by decide, by decide, am_memI 315 rfl rfl⟩
set_option maxRecDepth 100000 in
theorem mk_X7_36 : Cond.methodLink RX7 36 yX4_addLeaf ∈ am_good := am_memI 144 rfl rfl
set_option maxRecDepth 100000 in
theorem ck_X7_9 : Cond.classLink RX7 9 (am_R 6) ∈ am_good := am_memI 87 rfl rfl
set_option maxRecDepth 100000 in
theorem in_6 : Cond.instantiable (am_R 6) (am_nf 6) ∈ am_good := am_memI 152 rfl rfl
set_option maxRecDepth 100000 in
theorem ii_6 : Cond.initialized (am_R 6) ∈ am_good := am_memI 66 rfl rfl
set_option maxRecDepth 100000 in
theorem im_X6_init : Cond.instanceMethod yX6_init ∈ am_good := am_memI 154 rfl rfl
set_option maxRecDepth 100000 in
theorem mk_X7_40 : Cond.methodLink RX7 40 yX6_init ∈ am_good := am_memI 153 rfl rfl
set_option maxRecDepth 100000 in
theorem fk_X7_43 : am_flk RX7 43 7 0 := ⟨by decide, by decide, am_memI 309 rfl rfl⟩
set_option maxRecDepth 100000 in
theorem fk_X7_47 : am_flk RX7 47 7 1 := ⟨by decide, by decide, am_memI 310 rfl rfl⟩
set_option maxRecDepth 100000 in
theorem ck_X7_50 : Cond.classLink RX7 50 (am_exn 0) ∈ am_good := am_memI 546 rfl rfl
set_option maxRecDepth 100000 in
theorem xi_0 : Cond.initialized (am_exn 0) ∈ am_good := am_memI 74 rfl rfl
set_option maxRecDepth 100000 in
theorem xt_X7_54 : ∀ w ∈ vx_atS RX7 54 (am_exn 0) ["java/lang/RuntimeException", "java/lang/Exception"], w ∈ am_good ∨ w ∈ am_xtra 0 := fun w hw => of_decide_eq_true (List.all_eq_true.mp (show (vx_atS RX7 54 (am_exn 0) ["java/lang/RuntimeException", "java/lang/Exception"]).all (fun w => decide (w ∈ am_good ∨ w ∈ am_xtra 0)) = true by decide +kernel) w hw)
set_option maxRecDepth 100000 in
theorem sk_X7_57 : Cond.fieldLink RX7 57 "PickScanner" "LEAST_SETTINGS" "[I" ∈ am_good := am_memI 614 rfl rfl
set_option maxRecDepth 100000 in
theorem ck_X7_64 : Cond.classLink RX7 64 (am_exn 1) ∈ am_good := am_memI 618 rfl rfl
set_option maxRecDepth 100000 in
theorem xi_1 : Cond.initialized (am_exn 1) ∈ am_good := am_memI 75 rfl rfl
set_option maxRecDepth 100000 in
theorem xt_X7_68 : ∀ w ∈ vx_atS RX7 68 (am_exn 1) ["java/lang/RuntimeException", "java/lang/Exception"], w ∈ am_good ∨ w ∈ am_xtra 1 := fun w hw => of_decide_eq_true (List.all_eq_true.mp (show (vx_atS RX7 68 (am_exn 1) ["java/lang/RuntimeException", "java/lang/Exception"]).all (fun w => decide (w ∈ am_good ∨ w ∈ am_xtra 1)) = true by decide +kernel) w hw)
set_option maxRecDepth 100000 in
theorem sk_X7_61 : Cond.fieldLink RX7 61 "PickScanner" "GREATEST_SETTINGS" "[I" ∈ am_good := am_memI 616 rfl rfl
set_option maxRecDepth 100000 in
theorem fk_X7_69 : am_flk RX7 69 6 6 := ⟨by decide, by decide, am_memI 277 rfl rfl⟩
set_option maxRecDepth 100000 in
theorem mk_X7_78 : Cond.methodLink RX7 78 yX7_save ∈ am_good := am_memI 650 rfl rfl
set_option maxRecDepth 100000 in
theorem im_X7_save : Cond.instanceMethod yX7_save ∈ am_good := am_memI 652 rfl rfl
set_option maxRecDepth 100000 in
theorem sl_X7_save : Cond.selects RX7 yX7_save yX7_save ∈ am_good := am_memI 18 rfl rfl
set_option maxRecDepth 100000 in
theorem fk_X7_81 : am_flk RX7 81 6 0 := ⟨by decide, by decide, am_memI 266 rfl rfl⟩
set_option maxRecDepth 100000 in
theorem ck_X7_73 : Cond.classLink RX7 73 (am_exn 2) ∈ am_good := am_memI 634 rfl rfl
set_option maxRecDepth 100000 in
theorem xi_2 : Cond.initialized (am_exn 2) ∈ am_good := am_memI 76 rfl rfl
set_option maxRecDepth 100000 in
theorem xt_X7_77 : ∀ w ∈ vx_atS RX7 77 (am_exn 2) ["java/lang/RuntimeException", "java/lang/Exception"], w ∈ am_good ∨ w ∈ am_xtra 2 := fun w hw => of_decide_eq_true (List.all_eq_true.mp (show (vx_atS RX7 77 (am_exn 2) ["java/lang/RuntimeException", "java/lang/Exception"]).all (fun w => decide (w ∈ am_good ∨ w ∈ am_xtra 2)) = true by decide +kernel) w hw)
set_option maxRecDepth 100000 in
theorem fk_X7_90 : am_flk RX7 90 6 2 := ⟨by decide, by decide, am_memI 270 rfl rfl⟩
set_option maxRecDepth 100000 in
theorem fk_X7_95 : am_flk RX7 95 6 1 := ⟨by decide, by decide, am_memI 268 rfl rfl⟩
set_option maxRecDepth 100000 in
theorem mk_X7_99 : Cond.methodLink RX7 99 yX0_begin ∈ am_good := am_memI 669 rfl rfl
set_option maxRecDepth 100000 in
theorem im_X0_begin : Cond.instanceMethod yX0_begin ∈ am_good := am_memI 670 rfl rfl
set_option maxRecDepth 100000 in
theorem sl_X0_begin : Cond.selects RX0 yX0_begin yX0_begin ∈ am_good := am_memI 671 rfl rfl
set_option maxRecDepth 100000 in
theorem mk_X7_105 : Cond.methodLink RX7 105 yX6_hasLane ∈ am_good := am_memI 680 rfl rfl
set_option maxRecDepth 100000 in
theorem fk_X7_111 : am_flk RX7 111 0 3 := ⟨by decide, by decide, am_memI 197 rfl rfl⟩
set_option maxRecDepth 100000 in
theorem fk_X7_116 : am_flk RX7 116 6 3 := ⟨by decide, by decide, am_memI 272 rfl rfl⟩
set_option maxRecDepth 100000 in
theorem mk_X7_120 : Cond.methodLink RX7 120 yX3_laneOf ∈ am_good := am_memI 690 rfl rfl
set_option maxRecDepth 100000 in
theorem mk_X7_131 : Cond.methodLink RX7 131 yX3_put ∈ am_good := am_memI 692 rfl rfl
set_option maxRecDepth 100000 in
theorem im_X3_put : Cond.instanceMethod yX3_put ∈ am_good := am_memI 693 rfl rfl
set_option maxRecDepth 100000 in
theorem sl_X3_put : Cond.selects RX3 yX3_put yX3_put ∈ am_good := am_memI 694 rfl rfl
set_option maxRecDepth 100000 in
theorem fk_X7_126 : am_flk RX7 126 3 2 := ⟨by decide, by decide, am_memI 177 rfl rfl⟩
set_option maxRecDepth 100000 in
theorem mk_X7_137 : Cond.methodLink RX7 137 yX3_drop ∈ am_good := am_memI 704 rfl rfl
set_option maxRecDepth 100000 in
theorem im_X3_drop : Cond.instanceMethod yX3_drop ∈ am_good := am_memI 705 rfl rfl
set_option maxRecDepth 100000 in
theorem sl_X3_drop : Cond.selects RX3 yX3_drop yX3_drop ∈ am_good := am_memI 706 rfl rfl
set_option maxRecDepth 100000 in
theorem mk_X7_142 : Cond.methodLink RX7 142 yX6_freeAtEntry ∈ am_good := am_memI 416 rfl rfl
set_option maxRecDepth 100000 in
theorem fk_X7_148 : am_flk RX7 148 6 7 := ⟨by decide, by decide, am_memI 280 rfl rfl⟩
set_option maxRecDepth 100000 in
theorem mk_X7_153 : Cond.methodLink RX7 153 yX6_beginPart ∈ am_good := am_memI 718 rfl rfl
set_option maxRecDepth 100000 in
theorem im_X6_beginPart : Cond.instanceMethod yX6_beginPart ∈ am_good := am_memI 719 rfl rfl
set_option maxRecDepth 100000 in
theorem sl_X6_beginPart : Cond.selects RX6 yX6_beginPart yX6_beginPart ∈ am_good := am_memI 720 rfl rfl
set_option maxRecDepth 100000 in
theorem mk_X7_156 : Cond.methodLink RX7 156 yX6_ownerOfRead ∈ am_good := am_memI 734 rfl rfl
set_option maxRecDepth 100000 in
theorem im_X6_ownerOfRead : Cond.instanceMethod yX6_ownerOfRead ∈ am_good := am_memI 735 rfl rfl
set_option maxRecDepth 100000 in
theorem sl_X6_ownerOfRead : Cond.selects RX6 yX6_ownerOfRead yX6_ownerOfRead ∈ am_good := am_memI 736 rfl rfl
set_option maxRecDepth 100000 in
theorem fk_X7_160 : am_flk RX7 160 6 9 := ⟨by decide, by decide, am_memI 284 rfl rfl⟩
set_option maxRecDepth 100000 in
theorem fk_X7_163 : am_flk RX7 163 6 8 := ⟨by decide, by decide, am_memI 282 rfl rfl⟩
set_option maxRecDepth 100000 in
theorem mk_X7_166 : Cond.methodLink RX7 166 yX2_accept ∈ am_good := am_memI 738 rfl rfl
set_option maxRecDepth 100000 in
theorem im_X2_accept : Cond.instanceMethod yX2_accept ∈ am_good := am_memI 739 rfl rfl
set_option maxRecDepth 100000 in
theorem sl_X2_accept : Cond.selects RX2 yX2_accept yX2_accept ∈ am_good := am_memI 740 rfl rfl
set_option maxRecDepth 100000 in
theorem fk_X7_171 : am_flk RX7 171 2 0 := ⟨by decide, by decide, am_memI 218 rfl rfl⟩
set_option maxRecDepth 100000 in
theorem lc_X7_176 : Cond.constant RX7 176 (Int32.ofInt 50000) ∈ am_good := am_memI 750 rfl rfl
set_option maxRecDepth 100000 in
theorem mk_X7_179 : Cond.methodLink RX7 179 yX6_aimParts ∈ am_good := am_memI 410 rfl rfl
set_option maxRecDepth 100000 in
theorem im_X6_aimParts : Cond.instanceMethod yX6_aimParts ∈ am_good := am_memI 411 rfl rfl
set_option maxRecDepth 100000 in
theorem sl_X6_aimParts : Cond.selects RX6 yX6_aimParts yX6_aimParts ∈ am_good := am_memI 412 rfl rfl
set_option maxRecDepth 100000 in
theorem mk_X7_185 : Cond.methodLink RX7 185 yX7_keepDeparted ∈ am_good := am_memI 752 rfl rfl
set_option maxRecDepth 100000 in
theorem im_X7_keepDeparted : Cond.instanceMethod yX7_keepDeparted ∈ am_good := am_memI 754 rfl rfl
set_option maxRecDepth 100000 in
theorem sl_X7_keepDeparted : Cond.selects RX7 yX7_keepDeparted yX7_keepDeparted ∈ am_good := am_memI 20 rfl rfl
set_option maxRecDepth 100000 in
theorem mk_X7_182 : Cond.methodLink RX7 182 yX6_stride ∈ am_good := am_memI 425 rfl rfl
set_option maxRecDepth 100000 in
theorem im_X6_stride : Cond.instanceMethod yX6_stride ∈ am_good := am_memI 426 rfl rfl
set_option maxRecDepth 100000 in
theorem sl_X6_stride : Cond.selects RX6 yX6_stride yX6_stride ∈ am_good := am_memI 427 rfl rfl
set_option maxRecDepth 100000 in
theorem mk_X7_188 : Cond.methodLink RX7 188 yX7_hasEntered ∈ am_good := am_memI 768 rfl rfl
set_option maxRecDepth 100000 in
theorem im_X7_hasEntered : Cond.instanceMethod yX7_hasEntered ∈ am_good := am_memI 770 rfl rfl
set_option maxRecDepth 100000 in
theorem sl_X7_hasEntered : Cond.selects RX7 yX7_hasEntered yX7_hasEntered ∈ am_good := am_memI 21 rfl rfl
set_option maxRecDepth 100000 in
theorem mk_X7_193 : Cond.methodLink RX7 193 yX6_placeOf ∈ am_good := am_memI 343 rfl rfl
set_option maxRecDepth 100000 in
theorem im_X6_placeOf : Cond.instanceMethod yX6_placeOf ∈ am_good := am_memI 344 rfl rfl
set_option maxRecDepth 100000 in
theorem sl_X6_placeOf : Cond.selects RX6 yX6_placeOf yX6_placeOf ∈ am_good := am_memI 345 rfl rfl
set_option maxRecDepth 100000 in
theorem fk_X7_198 : am_flk RX7 198 6 5 := ⟨by decide, by decide, am_memI 276 rfl rfl⟩
set_option maxRecDepth 100000 in
theorem fk_X7_202 : am_flk RX7 202 2 2 := ⟨by decide, by decide, am_memI 223 rfl rfl⟩
set_option maxRecDepth 100000 in
theorem mk_X7_205 : Cond.methodLink RX7 205 yX6_leave ∈ am_good := am_memI 774 rfl rfl
set_option maxRecDepth 100000 in
theorem fk_X7_208 : am_flk RX7 208 7 3 := ⟨by decide, by decide, am_memI 312 rfl rfl⟩
set_option maxRecDepth 100000 in
theorem mk_X7_213 : Cond.methodLink RX7 213 yX6_copyFrom ∈ am_good := am_memI 390 rfl rfl
set_option maxRecDepth 100000 in
theorem im_X6_copyFrom : Cond.instanceMethod yX6_copyFrom ∈ am_good := am_memI 391 rfl rfl
set_option maxRecDepth 100000 in
theorem sl_X6_copyFrom : Cond.selects RX6 yX6_copyFrom yX6_copyFrom ∈ am_good := am_memI 392 rfl rfl
set_option maxRecDepth 100000 in
theorem mk_X7_219 : Cond.methodLink RX7 219 yX7_partProperty ∈ am_good := am_memI 339 rfl rfl
set_option maxRecDepth 100000 in
theorem im_X7_partProperty : Cond.instanceMethod yX7_partProperty ∈ am_good := am_memI 341 rfl rfl
set_option maxRecDepth 100000 in
theorem sl_X7_partProperty : Cond.selects RX7 yX7_partProperty yX7_partProperty ∈ am_good := am_memI 2 rfl rfl
set_option maxRecDepth 100000 in
theorem mk_X7_226 : Cond.methodLink RX7 226 yX0_property ∈ am_good := am_memI 802 rfl rfl
set_option maxRecDepth 100000 in
theorem im_X0_property : Cond.instanceMethod yX0_property ∈ am_good := am_memI 803 rfl rfl
set_option maxRecDepth 100000 in
theorem sl_X0_property : Cond.selects RX0 yX0_property yX0_property ∈ am_good := am_memI 804 rfl rfl
set_option maxRecDepth 100000 in
theorem mk_X7_223 : Cond.methodLink RX7 223 yX3_countTo ∈ am_good := am_memI 798 rfl rfl
set_option maxRecDepth 100000 in
theorem im_X3_countTo : Cond.instanceMethod yX3_countTo ∈ am_good := am_memI 799 rfl rfl
set_option maxRecDepth 100000 in
theorem sl_X3_countTo : Cond.selects RX3 yX3_countTo yX3_countTo ∈ am_good := am_memI 800 rfl rfl
set_option maxRecDepth 100000 in
theorem mk_X7_229 : Cond.methodLink RX7 229 yX7_countFates ∈ am_good := am_memI 335 rfl rfl
set_option maxRecDepth 100000 in
theorem im_X7_countFates : Cond.instanceMethod yX7_countFates ∈ am_good := am_memI 337 rfl rfl
set_option maxRecDepth 100000 in
theorem sl_X7_countFates : Cond.selects RX7 yX7_countFates yX7_countFates ∈ am_good := am_memI 1 rfl rfl
set_option maxRecDepth 100000 in
theorem mk_X7_232 : Cond.methodLink RX7 232 yX7_sumOverParts ∈ am_good := am_memI 813 rfl rfl
set_option maxRecDepth 100000 in
theorem im_X7_sumOverParts : Cond.instanceMethod yX7_sumOverParts ∈ am_good := am_memI 815 rfl rfl
set_option maxRecDepth 100000 in
theorem sl_X7_sumOverParts : Cond.selects RX7 yX7_sumOverParts yX7_sumOverParts ∈ am_good := am_memI 22 rfl rfl
set_option maxRecDepth 100000 in
theorem fk_X7_235 : am_flk RX7 235 5 1 := ⟨by decide, by decide, am_memI 108 rfl rfl⟩
set_option maxRecDepth 100000 in
theorem mk_X7_244 : Cond.methodLink RX7 244 yX3_codeAndLane ∈ am_good := am_memI 841 rfl rfl
set_option maxRecDepth 100000 in
theorem im_X3_codeAndLane : Cond.instanceMethod yX3_codeAndLane ∈ am_good := am_memI 842 rfl rfl
set_option maxRecDepth 100000 in
theorem sl_X3_codeAndLane : Cond.selects RX3 yX3_codeAndLane yX3_codeAndLane ∈ am_good := am_memI 843 rfl rfl
set_option maxRecDepth 100000 in
theorem mk_X7_247 : Cond.methodLink RX7 247 yX6_gapBetween ∈ am_good := am_memI 852 rfl rfl
set_option maxRecDepth 100000 in
theorem mk_X7_252 : Cond.methodLink RX7 252 yX6_rankOf ∈ am_good := am_memI 861 rfl rfl
set_option maxRecDepth 100000 in
theorem im_X6_rankOf : Cond.instanceMethod yX6_rankOf ∈ am_good := am_memI 862 rfl rfl
set_option maxRecDepth 100000 in
theorem sl_X6_rankOf : Cond.selects RX6 yX6_rankOf yX6_rankOf ∈ am_good := am_memI 863 rfl rfl
set_option maxRecDepth 100000 in
theorem mk_X7_255 : Cond.methodLink RX7 255 yX7_startTrial ∈ am_good := am_memI 386 rfl rfl
set_option maxRecDepth 100000 in
theorem im_X7_startTrial : Cond.instanceMethod yX7_startTrial ∈ am_good := am_memI 388 rfl rfl
set_option maxRecDepth 100000 in
theorem sl_X7_startTrial : Cond.selects RX7 yX7_startTrial yX7_startTrial ∈ am_good := am_memI 4 rfl rfl
set_option maxRecDepth 100000 in
theorem lc_X7_258 : Cond.constant RX7 258 (Int32.ofInt 1000000) ∈ am_good := am_memI 415 rfl rfl
set_option maxRecDepth 100000 in
theorem fk_X7_259 : am_flk RX7 259 2 3 := ⟨by decide, by decide, am_memI 226 rfl rfl⟩
set_option maxRecDepth 100000 in
theorem mk_X7_262 : Cond.methodLink RX7 262 yX6_laneGiven ∈ am_good := am_memI 883 rfl rfl
set_option maxRecDepth 100000 in
theorem mk_X7_269 : Cond.methodLink RX7 269 yX5_add ∈ am_good := am_memI 893 rfl rfl
set_option maxRecDepth 100000 in
theorem im_X5_add : Cond.instanceMethod yX5_add ∈ am_good := am_memI 894 rfl rfl
set_option maxRecDepth 100000 in
theorem sl_X5_add : Cond.selects RX5 yX5_add yX5_add ∈ am_good := am_memI 895 rfl rfl
set_option maxRecDepth 100000 in
theorem mk_X7_272 : Cond.methodLink RX7 272 yX5_parseInto ∈ am_good := am_memI 495 rfl rfl
set_option maxRecDepth 100000 in
theorem im_X5_parseInto : Cond.instanceMethod yX5_parseInto ∈ am_good := am_memI 496 rfl rfl
set_option maxRecDepth 100000 in
theorem sl_X5_parseInto : Cond.selects RX5 yX5_parseInto yX5_parseInto ∈ am_good := am_memI 497 rfl rfl
set_option maxRecDepth 100000 in
theorem fk_X7_278 : am_flk RX7 278 6 4 := ⟨by decide, by decide, am_memI 274 rfl rfl⟩
set_option maxRecDepth 100000 in
theorem fk_X7_281 : am_flk RX7 281 4 5 := ⟨by decide, by decide, am_memI 130 rfl rfl⟩
set_option maxRecDepth 100000 in
theorem mk_X7_284 : Cond.methodLink RX7 284 yX7_dropOldestSaved ∈ am_good := am_memI 654 rfl rfl
set_option maxRecDepth 100000 in
theorem im_X7_dropOldestSaved : Cond.instanceMethod yX7_dropOldestSaved ∈ am_good := am_memI 656 rfl rfl
set_option maxRecDepth 100000 in
theorem sl_X7_dropOldestSaved : Cond.selects RX7 yX7_dropOldestSaved yX7_dropOldestSaved ∈ am_good := am_memI 19 rfl rfl
set_option maxRecDepth 100000 in
theorem mk_X7_287 : Cond.methodLink RX7 287 yX1_keep ∈ am_good := am_memI 756 rfl rfl
set_option maxRecDepth 100000 in
theorem im_X1_keep : Cond.instanceMethod yX1_keep ∈ am_good := am_memI 757 rfl rfl
set_option maxRecDepth 100000 in
theorem sl_X1_keep : Cond.selects RX1 yX1_keep yX1_keep ∈ am_good := am_memI 758 rfl rfl
set_option maxRecDepth 100000 in
theorem mk_X7_297 : Cond.methodLink RX7 297 yX2_property ∈ am_good := am_memI 378 rfl rfl
set_option maxRecDepth 100000 in
theorem mk_X7_294 : Cond.methodLink RX7 294 yX6_laneOf ∈ am_good := am_memI 351 rfl rfl
set_option maxRecDepth 100000 in
theorem mk_X7_291 : Cond.methodLink RX7 291 yX1_propertyOf ∈ am_good := am_memI 347 rfl rfl
set_option maxRecDepth 100000 in
theorem im_X1_propertyOf : Cond.instanceMethod yX1_propertyOf ∈ am_good := am_memI 348 rfl rfl
set_option maxRecDepth 100000 in
theorem sl_X1_propertyOf : Cond.selects RX1 yX1_propertyOf yX1_propertyOf ∈ am_good := am_memI 349 rfl rfl
set_option maxRecDepth 100000 in
theorem mk_X8_1 : Cond.methodLink RX8 1 objectInit ∈ am_good := am_memI 910 rfl rfl
set_option maxRecDepth 100000 in
theorem fk_X8_7 : am_flk RX8 7 8 0 := ⟨by decide, by decide, am_memI 911 rfl rfl⟩
set_option maxRecDepth 100000 in
theorem fk_X8_13 : am_flk RX8 13 8 1 := ⟨by decide, by decide, am_memI 912 rfl rfl⟩
set_option maxRecDepth 100000 in
theorem fk_X8_16 : am_flk RX8 16 8 2 := ⟨by decide, by decide, am_memI 913 rfl rfl⟩
set_option maxRecDepth 100000 in
theorem fk_X8_19 : am_flk RX8 19 8 3 := ⟨by decide, by decide, am_memI 914 rfl rfl⟩
set_option maxRecDepth 100000 in
theorem fk_X8_22 : am_flk RX8 22 8 4 := ⟨by decide, by decide, am_memI 915 rfl rfl⟩
set_option maxRecDepth 100000 in
theorem fk_X8_25 : am_flk RX8 25 8 7 := ⟨by decide, by decide, am_memI 918 rfl rfl⟩
set_option maxRecDepth 100000 in
theorem fk_X8_29 : am_flk RX8 29 8 5 := ⟨by decide, by decide, am_memI 916 rfl rfl⟩
set_option maxRecDepth 100000 in
theorem mk_X8_32 : Cond.methodLink RX8 32 yX8_isOn ∈ am_good := am_memI 979 rfl rfl
set_option maxRecDepth 100000 in
theorem im_X8_isOn : Cond.instanceMethod yX8_isOn ∈ am_good := am_memI 981 rfl rfl
set_option maxRecDepth 100000 in
theorem sl_X8_isOn : Cond.selects RX8 yX8_isOn yX8_isOn ∈ am_good := am_memI 26 rfl rfl
set_option maxRecDepth 100000 in
theorem mk_X8_36 : Cond.methodLink RX8 36 yX8_one ∈ am_good := am_memI 983 rfl rfl
set_option maxRecDepth 100000 in
theorem sm_X8_one : Cond.static yX8_one ∈ am_good := am_memI 984 rfl rfl
set_option maxRecDepth 100000 in
theorem mk_X8_40 : Cond.methodLink RX8 40 yX8_in ∈ am_good := am_memI 962 rfl rfl
set_option maxRecDepth 100000 in
theorem sm_X8_in : Cond.static yX8_in ∈ am_good := am_memI 963 rfl rfl
set_option maxRecDepth 100000 in
theorem mk_X8_48 : Cond.methodLink RX8 48 yX8_least ∈ am_good := am_memI 969 rfl rfl
set_option maxRecDepth 100000 in
theorem sm_X8_least : Cond.static yX8_least ∈ am_good := am_memI 970 rfl rfl
set_option maxRecDepth 100000 in
theorem mk_X8_51 : Cond.methodLink RX8 51 yX8_most ∈ am_good := am_memI 972 rfl rfl
set_option maxRecDepth 100000 in
theorem sm_X8_most : Cond.static yX8_most ∈ am_good := am_memI 973 rfl rfl
set_option maxRecDepth 100000 in
theorem mk_X8_54 : Cond.methodLink RX8 54 yX8_onBelt ∈ am_good := am_memI 975 rfl rfl
set_option maxRecDepth 100000 in
theorem im_X8_onBelt : Cond.instanceMethod yX8_onBelt ∈ am_good := am_memI 977 rfl rfl
set_option maxRecDepth 100000 in
theorem sl_X8_onBelt : Cond.selects RX8 yX8_onBelt yX8_onBelt ∈ am_good := am_memI 25 rfl rfl
set_option maxRecDepth 100000 in
theorem mk_X8_58 : Cond.methodLink RX8 58 yX8_save ∈ am_good := am_memI 986 rfl rfl
set_option maxRecDepth 100000 in
theorem im_X8_save : Cond.instanceMethod yX8_save ∈ am_good := am_memI 988 rfl rfl
set_option maxRecDepth 100000 in
theorem sl_X8_save : Cond.selects RX8 yX8_save yX8_save ∈ am_good := am_memI 27 rfl rfl
set_option maxRecDepth 100000 in
theorem mk_X8_44 : Cond.methodLink RX8 44 yX8_refuse ∈ am_good := am_memI 965 rfl rfl
set_option maxRecDepth 100000 in
theorem im_X8_refuse : Cond.instanceMethod yX8_refuse ∈ am_good := am_memI 967 rfl rfl
set_option maxRecDepth 100000 in
theorem sl_X8_refuse : Cond.selects RX8 yX8_refuse yX8_refuse ∈ am_good := am_memI 24 rfl rfl
set_option maxRecDepth 100000 in
theorem mk_X8_61 : Cond.methodLink RX8 61 yX8_isLane ∈ am_good := am_memI 998 rfl rfl
set_option maxRecDepth 100000 in
theorem im_X8_isLane : Cond.instanceMethod yX8_isLane ∈ am_good := am_memI 1000 rfl rfl
set_option maxRecDepth 100000 in
theorem sl_X8_isLane : Cond.selects RX8 yX8_isLane yX8_isLane ∈ am_good := am_memI 28 rfl rfl
set_option maxRecDepth 100000 in
theorem mk_X8_64 : Cond.methodLink RX8 64 yX8_placeOf ∈ am_good := am_memI 1013 rfl rfl
set_option maxRecDepth 100000 in
theorem im_X8_placeOf : Cond.instanceMethod yX8_placeOf ∈ am_good := am_memI 1015 rfl rfl
set_option maxRecDepth 100000 in
theorem sl_X8_placeOf : Cond.selects RX8 yX8_placeOf yX8_placeOf ∈ am_good := am_memI 30 rfl rfl
set_option maxRecDepth 100000 in
theorem mk_X8_67 : Cond.methodLink RX8 67 yX8_isCode ∈ am_good := am_memI 1006 rfl rfl
set_option maxRecDepth 100000 in
theorem sm_X8_isCode : Cond.static yX8_isCode ∈ am_good := am_memI 1007 rfl rfl
set_option maxRecDepth 100000 in
theorem mk_X8_70 : Cond.methodLink RX8 70 yX8_hasRoute ∈ am_good := am_memI 1009 rfl rfl
set_option maxRecDepth 100000 in
theorem im_X8_hasRoute : Cond.instanceMethod yX8_hasRoute ∈ am_good := am_memI 1011 rfl rfl
set_option maxRecDepth 100000 in
theorem sl_X8_hasRoute : Cond.selects RX8 yX8_hasRoute yX8_hasRoute ∈ am_good := am_memI 29 rfl rfl
set_option maxRecDepth 100000 in
theorem fk_X8_73 : am_flk RX8 73 8 8 := ⟨by decide, by decide, am_memI 919 rfl rfl⟩
set_option maxRecDepth 100000 in
theorem mk_X8_76 : Cond.methodLink RX8 76 yX8_numberAt ∈ am_good := am_memI 1078 rfl rfl
set_option maxRecDepth 100000 in
theorem im_X8_numberAt : Cond.instanceMethod yX8_numberAt ∈ am_good := am_memI 1080 rfl rfl
set_option maxRecDepth 100000 in
theorem sl_X8_numberAt : Cond.selects RX8 yX8_numberAt yX8_numberAt ∈ am_good := am_memI 42 rfl rfl
set_option maxRecDepth 100000 in
theorem mk_X8_79 : Cond.methodLink RX8 79 yX8_holds ∈ am_good := am_memI 1074 rfl rfl
set_option maxRecDepth 100000 in
theorem im_X8_holds : Cond.instanceMethod yX8_holds ∈ am_good := am_memI 1076 rfl rfl
set_option maxRecDepth 100000 in
theorem sl_X8_holds : Cond.selects RX8 yX8_holds yX8_holds ∈ am_good := am_memI 41 rfl rfl
set_option maxRecDepth 100000 in
theorem mk_X8_83 : Cond.methodLink RX8 83 yX8_skip ∈ am_good := am_memI 1082 rfl rfl
set_option maxRecDepth 100000 in
theorem im_X8_skip : Cond.instanceMethod yX8_skip ∈ am_good := am_memI 1084 rfl rfl
set_option maxRecDepth 100000 in
theorem sl_X8_skip : Cond.selects RX8 yX8_skip yX8_skip ∈ am_good := am_memI 43 rfl rfl
set_option maxRecDepth 100000 in
theorem mk_X8_86 : Cond.methodLink RX8 86 yX8_byRule ∈ am_good := am_memI 1070 rfl rfl
set_option maxRecDepth 100000 in
theorem im_X8_byRule : Cond.instanceMethod yX8_byRule ∈ am_good := am_memI 1072 rfl rfl
set_option maxRecDepth 100000 in
theorem sl_X8_byRule : Cond.selects RX8 yX8_byRule yX8_byRule ∈ am_good := am_memI 40 rfl rfl
set_option maxRecDepth 100000 in
theorem mk_X8_90 : Cond.methodLink RX8 90 yX8_laneBy ∈ am_good := am_memI 1066 rfl rfl
set_option maxRecDepth 100000 in
theorem im_X8_laneBy : Cond.instanceMethod yX8_laneBy ∈ am_good := am_memI 1068 rfl rfl
set_option maxRecDepth 100000 in
theorem sl_X8_laneBy : Cond.selects RX8 yX8_laneBy yX8_laneBy ∈ am_good := am_memI 39 rfl rfl
set_option maxRecDepth 100000 in
theorem mk_X8_93 : Cond.methodLink RX8 93 yX8_ahead ∈ am_good := am_memI 1029 rfl rfl
set_option maxRecDepth 100000 in
theorem im_X8_ahead : Cond.instanceMethod yX8_ahead ∈ am_good := am_memI 1031 rfl rfl
set_option maxRecDepth 100000 in
theorem sl_X8_ahead : Cond.selects RX8 yX8_ahead yX8_ahead ∈ am_good := am_memI 32 rfl rfl
set_option maxRecDepth 100000 in
theorem mk_X8_96 : Cond.methodLink RX8 96 yX8_latest ∈ am_good := am_memI 1025 rfl rfl
set_option maxRecDepth 100000 in
theorem im_X8_latest : Cond.instanceMethod yX8_latest ∈ am_good := am_memI 1027 rfl rfl
set_option maxRecDepth 100000 in
theorem sl_X8_latest : Cond.selects RX8 yX8_latest yX8_latest ∈ am_good := am_memI 31 rfl rfl
set_option maxRecDepth 100000 in
theorem mk_X8_99 : Cond.methodLink RX8 99 yX8_tail ∈ am_good := am_memI 1033 rfl rfl
set_option maxRecDepth 100000 in
theorem im_X8_tail : Cond.instanceMethod yX8_tail ∈ am_good := am_memI 1035 rfl rfl
set_option maxRecDepth 100000 in
theorem sl_X8_tail : Cond.selects RX8 yX8_tail yX8_tail ∈ am_good := am_memI 33 rfl rfl
set_option maxRecDepth 100000 in
theorem mk_X8_102 : Cond.methodLink RX8 102 yX8_caster ∈ am_good := am_memI 1041 rfl rfl
set_option maxRecDepth 100000 in
theorem im_X8_caster : Cond.instanceMethod yX8_caster ∈ am_good := am_memI 1043 rfl rfl
set_option maxRecDepth 100000 in
theorem sl_X8_caster : Cond.selects RX8 yX8_caster yX8_caster ∈ am_good := am_memI 34 rfl rfl
set_option maxRecDepth 100000 in
theorem mk_X8_105 : Cond.methodLink RX8 105 yX8_atScanner ∈ am_good := am_memI 1045 rfl rfl
set_option maxRecDepth 100000 in
theorem im_X8_atScanner : Cond.instanceMethod yX8_atScanner ∈ am_good := am_memI 1047 rfl rfl
set_option maxRecDepth 100000 in
theorem sl_X8_atScanner : Cond.selects RX8 yX8_atScanner yX8_atScanner ∈ am_good := am_memI 35 rfl rfl
set_option maxRecDepth 100000 in
theorem mk_X8_108 : Cond.methodLink RX8 108 yX8_readFor ∈ am_good := am_memI 1049 rfl rfl
set_option maxRecDepth 100000 in
theorem im_X8_readFor : Cond.instanceMethod yX8_readFor ∈ am_good := am_memI 1051 rfl rfl
set_option maxRecDepth 100000 in
theorem sl_X8_readFor : Cond.selects RX8 yX8_readFor yX8_readFor ∈ am_good := am_memI 36 rfl rfl
set_option maxRecDepth 100000 in
theorem mk_X8_112 : Cond.methodLink RX8 112 yX8_behind ∈ am_good := am_memI 1094 rfl rfl
set_option maxRecDepth 100000 in
theorem im_X8_behind : Cond.instanceMethod yX8_behind ∈ am_good := am_memI 1096 rfl rfl
set_option maxRecDepth 100000 in
theorem sl_X8_behind : Cond.selects RX8 yX8_behind yX8_behind ∈ am_good := am_memI 46 rfl rfl
set_option maxRecDepth 100000 in
theorem mk_X8_115 : Cond.methodLink RX8 115 yX8_laneOf ∈ am_good := am_memI 1062 rfl rfl
set_option maxRecDepth 100000 in
theorem im_X8_laneOf : Cond.instanceMethod yX8_laneOf ∈ am_good := am_memI 1064 rfl rfl
set_option maxRecDepth 100000 in
theorem sl_X8_laneOf : Cond.selects RX8 yX8_laneOf yX8_laneOf ∈ am_good := am_memI 38 rfl rfl
set_option maxRecDepth 100000 in
theorem mk_X8_118 : Cond.methodLink RX8 118 yX8_middle ∈ am_good := am_memI 1086 rfl rfl
set_option maxRecDepth 100000 in
theorem im_X8_middle : Cond.instanceMethod yX8_middle ∈ am_good := am_memI 1088 rfl rfl
set_option maxRecDepth 100000 in
theorem sl_X8_middle : Cond.selects RX8 yX8_middle yX8_middle ∈ am_good := am_memI 44 rfl rfl
set_option maxRecDepth 100000 in
theorem mk_X8_121 : Cond.methodLink RX8 121 yX8_attempt ∈ am_good := am_memI 1090 rfl rfl
set_option maxRecDepth 100000 in
theorem im_X8_attempt : Cond.instanceMethod yX8_attempt ∈ am_good := am_memI 1092 rfl rfl
set_option maxRecDepth 100000 in
theorem sl_X8_attempt : Cond.selects RX8 yX8_attempt yX8_attempt ∈ am_good := am_memI 45 rfl rfl
set_option maxRecDepth 100000 in
theorem mk_X8_124 : Cond.methodLink RX8 124 yX8_reasonOf ∈ am_good := am_memI 1098 rfl rfl
set_option maxRecDepth 100000 in
theorem im_X8_reasonOf : Cond.instanceMethod yX8_reasonOf ∈ am_good := am_memI 1100 rfl rfl
set_option maxRecDepth 100000 in
theorem sl_X8_reasonOf : Cond.selects RX8 yX8_reasonOf yX8_reasonOf ∈ am_good := am_memI 47 rfl rfl
set_option maxRecDepth 100000 in
theorem lc_X8_127 : Cond.constant RX8 127 (Int32.ofInt 50000) ∈ am_good := am_memI 1057 rfl rfl
set_option maxRecDepth 100000 in
theorem mk_X8_128 : Cond.methodLink RX8 128 yX8_go ∈ am_good := am_memI 1058 rfl rfl
set_option maxRecDepth 100000 in
theorem im_X8_go : Cond.instanceMethod yX8_go ∈ am_good := am_memI 1060 rfl rfl
set_option maxRecDepth 100000 in
theorem sl_X8_go : Cond.selects RX8 yX8_go yX8_go ∈ am_good := am_memI 37 rfl rfl
set_option maxRecDepth 100000 in
theorem mk_X8_131 : Cond.methodLink RX8 131 yX8_isPart ∈ am_good := am_memI 1106 rfl rfl
set_option maxRecDepth 100000 in
theorem im_X8_isPart : Cond.instanceMethod yX8_isPart ∈ am_good := am_memI 1108 rfl rfl
set_option maxRecDepth 100000 in
theorem sl_X8_isPart : Cond.selects RX8 yX8_isPart yX8_isPart ∈ am_good := am_memI 48 rfl rfl
set_option maxRecDepth 100000 in
theorem mk_X8_134 : Cond.methodLink RX8 134 yX8_routesTo ∈ am_good := am_memI 1122 rfl rfl
set_option maxRecDepth 100000 in
theorem im_X8_routesTo : Cond.instanceMethod yX8_routesTo ∈ am_good := am_memI 1124 rfl rfl
set_option maxRecDepth 100000 in
theorem sl_X8_routesTo : Cond.selects RX8 yX8_routesTo yX8_routesTo ∈ am_good := am_memI 49 rfl rfl
set_option maxRecDepth 100000 in
theorem mk_X8_137 : Cond.methodLink RX8 137 yX8_fates ∈ am_good := am_memI 1130 rfl rfl
set_option maxRecDepth 100000 in
theorem im_X8_fates : Cond.instanceMethod yX8_fates ∈ am_good := am_memI 1132 rfl rfl
set_option maxRecDepth 100000 in
theorem sl_X8_fates : Cond.selects RX8 yX8_fates yX8_fates ∈ am_good := am_memI 50 rfl rfl
set_option maxRecDepth 100000 in
theorem mk_X8_140 : Cond.methodLink RX8 140 yX8_sum ∈ am_good := am_memI 1134 rfl rfl
set_option maxRecDepth 100000 in
theorem im_X8_sum : Cond.instanceMethod yX8_sum ∈ am_good := am_memI 1136 rfl rfl
set_option maxRecDepth 100000 in
theorem sl_X8_sum : Cond.selects RX8 yX8_sum yX8_sum ∈ am_good := am_memI 51 rfl rfl
set_option maxRecDepth 100000 in
theorem fk_X8_143 : am_flk RX8 143 8 6 := ⟨by decide, by decide, am_memI 917 rfl rfl⟩
set_option maxRecDepth 100000 in
theorem mk_X8_146 : Cond.methodLink RX8 146 yX8_isRankedBefore ∈ am_good := am_memI 1158 rfl rfl
set_option maxRecDepth 100000 in
theorem im_X8_isRankedBefore : Cond.instanceMethod yX8_isRankedBefore ∈ am_good := am_memI 1160 rfl rfl
set_option maxRecDepth 100000 in
theorem sl_X8_isRankedBefore : Cond.selects RX8 yX8_isRankedBefore yX8_isRankedBefore ∈ am_good := am_memI 52 rfl rfl
set_option maxRecDepth 100000 in
theorem mk_X8_149 : Cond.methodLink RX8 149 yX8_beginTrial ∈ am_good := am_memI 1170 rfl rfl
set_option maxRecDepth 100000 in
theorem im_X8_beginTrial : Cond.instanceMethod yX8_beginTrial ∈ am_good := am_memI 1172 rfl rfl
set_option maxRecDepth 100000 in
theorem sl_X8_beginTrial : Cond.selects RX8 yX8_beginTrial yX8_beginTrial ∈ am_good := am_memI 53 rfl rfl
set_option maxRecDepth 100000 in
theorem mk_X8_152 : Cond.methodLink RX8 152 yX8_endTrial ∈ am_good := am_memI 1174 rfl rfl
set_option maxRecDepth 100000 in
theorem im_X8_endTrial : Cond.instanceMethod yX8_endTrial ∈ am_good := am_memI 1176 rfl rfl
set_option maxRecDepth 100000 in
theorem sl_X8_endTrial : Cond.selects RX8 yX8_endTrial yX8_endTrial ∈ am_good := am_memI 54 rfl rfl
set_option maxRecDepth 100000 in
theorem mk_X8_155 : Cond.methodLink RX8 155 yX8_canEnter ∈ am_good := am_memI 1182 rfl rfl
set_option maxRecDepth 100000 in
theorem im_X8_canEnter : Cond.instanceMethod yX8_canEnter ∈ am_good := am_memI 1184 rfl rfl
set_option maxRecDepth 100000 in
theorem sl_X8_canEnter : Cond.selects RX8 yX8_canEnter yX8_canEnter ∈ am_good := am_memI 55 rfl rfl
set_option maxRecDepth 100000 in
theorem fk_X8_159 : am_flk RX8 159 8 10 := ⟨by decide, by decide, am_memI 921 rfl rfl⟩
set_option maxRecDepth 100000 in
theorem fk_X8_162 : am_flk RX8 162 8 9 := ⟨by decide, by decide, am_memI 920 rfl rfl⟩
set_option maxRecDepth 100000 in
theorem mk_X8_165 : Cond.methodLink RX8 165 yX8_endRule ∈ am_good := am_memI 1218 rfl rfl
set_option maxRecDepth 100000 in
theorem im_X8_endRule : Cond.instanceMethod yX8_endRule ∈ am_good := am_memI 1220 rfl rfl
set_option maxRecDepth 100000 in
theorem sl_X8_endRule : Cond.selects RX8 yX8_endRule yX8_endRule ∈ am_good := am_memI 59 rfl rfl
set_option maxRecDepth 100000 in
theorem fk_X8_168 : am_flk RX8 168 8 13 := ⟨by decide, by decide, am_memI 924 rfl rfl⟩
set_option maxRecDepth 100000 in
theorem fk_X8_171 : am_flk RX8 171 8 11 := ⟨by decide, by decide, am_memI 922 rfl rfl⟩
set_option maxRecDepth 100000 in
theorem fk_X8_174 : am_flk RX8 174 8 12 := ⟨by decide, by decide, am_memI 923 rfl rfl⟩
set_option maxRecDepth 100000 in
theorem mk_X8_180 : Cond.methodLink RX8 180 yX8_takesNumber ∈ am_good := am_memI 1222 rfl rfl
set_option maxRecDepth 100000 in
theorem im_X8_takesNumber : Cond.instanceMethod yX8_takesNumber ∈ am_good := am_memI 1224 rfl rfl
set_option maxRecDepth 100000 in
theorem sl_X8_takesNumber : Cond.selects RX8 yX8_takesNumber yX8_takesNumber ∈ am_good := am_memI 60 rfl rfl
set_option maxRecDepth 100000 in
theorem mk_X8_177 : Cond.methodLink RX8 177 yX8_takesRule ∈ am_good := am_memI 1214 rfl rfl
set_option maxRecDepth 100000 in
theorem im_X8_takesRule : Cond.instanceMethod yX8_takesRule ∈ am_good := am_memI 1216 rfl rfl
set_option maxRecDepth 100000 in
theorem sl_X8_takesRule : Cond.selects RX8 yX8_takesRule yX8_takesRule ∈ am_good := am_memI 58 rfl rfl
set_option maxRecDepth 100000 in
theorem mk_X8_183 : Cond.methodLink RX8 183 yX8_takes ∈ am_good := am_memI 1210 rfl rfl
set_option maxRecDepth 100000 in
theorem im_X8_takes : Cond.instanceMethod yX8_takes ∈ am_good := am_memI 1212 rfl rfl
set_option maxRecDepth 100000 in
theorem sl_X8_takes : Cond.selects RX8 yX8_takes yX8_takes ∈ am_good := am_memI 57 rfl rfl
set_option maxRecDepth 100000 in
theorem mk_X8_186 : Cond.methodLink RX8 186 yX8_error ∈ am_good := am_memI 1206 rfl rfl
set_option maxRecDepth 100000 in
theorem im_X8_error : Cond.instanceMethod yX8_error ∈ am_good := am_memI 1208 rfl rfl
set_option maxRecDepth 100000 in
theorem sl_X8_error : Cond.selects RX8 yX8_error yX8_error ∈ am_good := am_memI 56 rfl rfl
set_option maxRecDepth 100000 in
theorem mk_L_7 : Cond.methodLink RL 7 yX7_set ∈ am_good := am_memI 542 rfl rfl
set_option maxRecDepth 100000 in
theorem im_X7_set : Cond.instanceMethod yX7_set ∈ am_good := am_memI 543 rfl rfl
set_option maxRecDepth 100000 in
theorem sl_X7_set : Cond.selects RX7 yX7_set yX7_set ∈ am_good := am_memI 544 rfl rfl
set_option maxRecDepth 100000 in
theorem hk_13 : Cond.classLink RL 13 (am_exn 0) ∈ am_good := am_memI 539 rfl rfl
set_option maxRecDepth 100000 in
theorem hk_15 : Cond.classLink RL 15 (am_exn 1) ∈ am_good := am_memI 540 rfl rfl
set_option maxRecDepth 100000 in
theorem hk_17 : Cond.classLink RL 17 (am_exn 2) ∈ am_good := am_memI 541 rfl rfl
set_option maxRecDepth 100000 in
theorem mk_L_19 : Cond.methodLink RL 19 yX7_addLane ∈ am_good := am_memI 661 rfl rfl
set_option maxRecDepth 100000 in
theorem im_X7_addLane : Cond.instanceMethod yX7_addLane ∈ am_good := am_memI 662 rfl rfl
set_option maxRecDepth 100000 in
theorem sl_X7_addLane : Cond.selects RX7 yX7_addLane yX7_addLane ∈ am_good := am_memI 663 rfl rfl
set_option maxRecDepth 100000 in
theorem mk_L_23 : Cond.methodLink RL 23 yX7_emptyLane ∈ am_good := am_memI 676 rfl rfl
set_option maxRecDepth 100000 in
theorem im_X7_emptyLane : Cond.instanceMethod yX7_emptyLane ∈ am_good := am_memI 677 rfl rfl
set_option maxRecDepth 100000 in
theorem sl_X7_emptyLane : Cond.selects RX7 yX7_emptyLane yX7_emptyLane ∈ am_good := am_memI 678 rfl rfl
set_option maxRecDepth 100000 in
theorem mk_L_27 : Cond.methodLink RL 27 yX7_route ∈ am_good := am_memI 685 rfl rfl
set_option maxRecDepth 100000 in
theorem im_X7_route : Cond.instanceMethod yX7_route ∈ am_good := am_memI 686 rfl rfl
set_option maxRecDepth 100000 in
theorem sl_X7_route : Cond.selects RX7 yX7_route yX7_route ∈ am_good := am_memI 687 rfl rfl
set_option maxRecDepth 100000 in
theorem mk_L_30 : Cond.methodLink RL 30 yX7_removeRoute ∈ am_good := am_memI 699 rfl rfl
set_option maxRecDepth 100000 in
theorem im_X7_removeRoute : Cond.instanceMethod yX7_removeRoute ∈ am_good := am_memI 700 rfl rfl
set_option maxRecDepth 100000 in
theorem sl_X7_removeRoute : Cond.selects RX7 yX7_removeRoute yX7_removeRoute ∈ am_good := am_memI 701 rfl rfl
set_option maxRecDepth 100000 in
theorem mk_L_33 : Cond.methodLink RL 33 yX7_enter ∈ am_good := am_memI 711 rfl rfl
set_option maxRecDepth 100000 in
theorem im_X7_enter : Cond.instanceMethod yX7_enter ∈ am_good := am_memI 712 rfl rfl
set_option maxRecDepth 100000 in
theorem sl_X7_enter : Cond.selects RX7 yX7_enter yX7_enter ∈ am_good := am_memI 713 rfl rfl
set_option maxRecDepth 100000 in
theorem mk_L_36 : Cond.methodLink RL 36 yX7_read ∈ am_good := am_memI 730 rfl rfl
set_option maxRecDepth 100000 in
theorem im_X7_read : Cond.instanceMethod yX7_read ∈ am_good := am_memI 731 rfl rfl
set_option maxRecDepth 100000 in
theorem sl_X7_read : Cond.selects RX7 yX7_read yX7_read ∈ am_good := am_memI 732 rfl rfl
set_option maxRecDepth 100000 in
theorem mk_L_39 : Cond.methodLink RL 39 yX7_move ∈ am_good := am_memI 745 rfl rfl
set_option maxRecDepth 100000 in
theorem im_X7_move : Cond.instanceMethod yX7_move ∈ am_good := am_memI 746 rfl rfl
set_option maxRecDepth 100000 in
theorem sl_X7_move : Cond.selects RX7 yX7_move yX7_move ∈ am_good := am_memI 747 rfl rfl
set_option maxRecDepth 100000 in
theorem mk_L_42 : Cond.methodLink RL 42 yX7_takeOff ∈ am_good := am_memI 764 rfl rfl
set_option maxRecDepth 100000 in
theorem im_X7_takeOff : Cond.instanceMethod yX7_takeOff ∈ am_good := am_memI 765 rfl rfl
set_option maxRecDepth 100000 in
theorem sl_X7_takeOff : Cond.selects RX7 yX7_takeOff yX7_takeOff ∈ am_good := am_memI 766 rfl rfl
set_option maxRecDepth 100000 in
theorem mk_L_45 : Cond.methodLink RL 45 yX7_undo ∈ am_good := am_memI 778 rfl rfl
set_option maxRecDepth 100000 in
theorem im_X7_undo : Cond.instanceMethod yX7_undo ∈ am_good := am_memI 779 rfl rfl
set_option maxRecDepth 100000 in
theorem sl_X7_undo : Cond.selects RX7 yX7_undo yX7_undo ∈ am_good := am_memI 780 rfl rfl
set_option maxRecDepth 100000 in
theorem mk_L_49 : Cond.methodLink RL 49 yX7_part ∈ am_good := am_memI 786 rfl rfl
set_option maxRecDepth 100000 in
theorem im_X7_part : Cond.instanceMethod yX7_part ∈ am_good := am_memI 787 rfl rfl
set_option maxRecDepth 100000 in
theorem sl_X7_part : Cond.selects RX7 yX7_part yX7_part ∈ am_good := am_memI 788 rfl rfl
set_option maxRecDepth 100000 in
theorem mk_L_52 : Cond.methodLink RL 52 yX7_lane ∈ am_good := am_memI 794 rfl rfl
set_option maxRecDepth 100000 in
theorem im_X7_lane : Cond.instanceMethod yX7_lane ∈ am_good := am_memI 795 rfl rfl
set_option maxRecDepth 100000 in
theorem sl_X7_lane : Cond.selects RX7 yX7_lane yX7_lane ∈ am_good := am_memI 796 rfl rfl
set_option maxRecDepth 100000 in
theorem mk_L_55 : Cond.methodLink RL 55 yX7_total ∈ am_good := am_memI 809 rfl rfl
set_option maxRecDepth 100000 in
theorem im_X7_total : Cond.instanceMethod yX7_total ∈ am_good := am_memI 810 rfl rfl
set_option maxRecDepth 100000 in
theorem sl_X7_total : Cond.selects RX7 yX7_total yX7_total ∈ am_good := am_memI 811 rfl rfl
set_option maxRecDepth 100000 in
theorem mk_L_58 : Cond.methodLink RL 58 yX7_lost ∈ am_good := am_memI 821 rfl rfl
set_option maxRecDepth 100000 in
theorem im_X7_lost : Cond.instanceMethod yX7_lost ∈ am_good := am_memI 822 rfl rfl
set_option maxRecDepth 100000 in
theorem sl_X7_lost : Cond.selects RX7 yX7_lost yX7_lost ∈ am_good := am_memI 823 rfl rfl
set_option maxRecDepth 100000 in
theorem mk_L_61 : Cond.methodLink RL 61 yX7_setting ∈ am_good := am_memI 829 rfl rfl
set_option maxRecDepth 100000 in
theorem im_X7_setting : Cond.instanceMethod yX7_setting ∈ am_good := am_memI 830 rfl rfl
set_option maxRecDepth 100000 in
theorem sl_X7_setting : Cond.selects RX7 yX7_setting yX7_setting ∈ am_good := am_memI 831 rfl rfl
set_option maxRecDepth 100000 in
theorem mk_L_64 : Cond.methodLink RL 64 yX7_routeAt ∈ am_good := am_memI 836 rfl rfl
set_option maxRecDepth 100000 in
theorem im_X7_routeAt : Cond.instanceMethod yX7_routeAt ∈ am_good := am_memI 837 rfl rfl
set_option maxRecDepth 100000 in
theorem sl_X7_routeAt : Cond.selects RX7 yX7_routeAt yX7_routeAt ∈ am_good := am_memI 838 rfl rfl
set_option maxRecDepth 100000 in
theorem mk_L_67 : Cond.methodLink RL 67 yX7_gapAhead ∈ am_good := am_memI 848 rfl rfl
set_option maxRecDepth 100000 in
theorem im_X7_gapAhead : Cond.instanceMethod yX7_gapAhead ∈ am_good := am_memI 849 rfl rfl
set_option maxRecDepth 100000 in
theorem sl_X7_gapAhead : Cond.selects RX7 yX7_gapAhead yX7_gapAhead ∈ am_good := am_memI 850 rfl rfl
set_option maxRecDepth 100000 in
theorem mk_L_70 : Cond.methodLink RL 70 yX7_ranked ∈ am_good := am_memI 856 rfl rfl
set_option maxRecDepth 100000 in
theorem im_X7_ranked : Cond.instanceMethod yX7_ranked ∈ am_good := am_memI 857 rfl rfl
set_option maxRecDepth 100000 in
theorem sl_X7_ranked : Cond.selects RX7 yX7_ranked yX7_ranked ∈ am_good := am_memI 858 rfl rfl
set_option maxRecDepth 100000 in
theorem mk_L_73 : Cond.methodLink RL 73 yX7_fateOf ∈ am_good := am_memI 872 rfl rfl
set_option maxRecDepth 100000 in
theorem im_X7_fateOf : Cond.instanceMethod yX7_fateOf ∈ am_good := am_memI 873 rfl rfl
set_option maxRecDepth 100000 in
theorem sl_X7_fateOf : Cond.selects RX7 yX7_fateOf yX7_fateOf ∈ am_good := am_memI 874 rfl rfl
set_option maxRecDepth 100000 in
theorem mk_L_76 : Cond.methodLink RL 76 yX7_laneFor ∈ am_good := am_memI 879 rfl rfl
set_option maxRecDepth 100000 in
theorem im_X7_laneFor : Cond.instanceMethod yX7_laneFor ∈ am_good := am_memI 880 rfl rfl
set_option maxRecDepth 100000 in
theorem sl_X7_laneFor : Cond.selects RX7 yX7_laneFor yX7_laneFor ∈ am_good := am_memI 881 rfl rfl
set_option maxRecDepth 100000 in
theorem mk_L_79 : Cond.methodLink RL 79 yX7_append ∈ am_good := am_memI 887 rfl rfl
set_option maxRecDepth 100000 in
theorem im_X7_append : Cond.instanceMethod yX7_append ∈ am_good := am_memI 888 rfl rfl
set_option maxRecDepth 100000 in
theorem sl_X7_append : Cond.selects RX7 yX7_append yX7_append ∈ am_good := am_memI 889 rfl rfl
set_option maxRecDepth 100000 in
theorem mk_L_82 : Cond.methodLink RL 82 yX7_load ∈ am_good := am_memI 900 rfl rfl
set_option maxRecDepth 100000 in
theorem im_X7_load : Cond.instanceMethod yX7_load ∈ am_good := am_memI 901 rfl rfl
set_option maxRecDepth 100000 in
theorem sl_X7_load : Cond.selects RX7 yX7_load yX7_load ∈ am_good := am_memI 902 rfl rfl
set_option maxRecDepth 100000 in
theorem ck_L_8 : Cond.classLink RL 8 (am_R 7) ∈ am_good := am_memI 79 rfl rfl
set_option maxRecDepth 100000 in
theorem in_7 : Cond.instantiable (am_R 7) (am_nf 7) ∈ am_good := am_memI 80 rfl rfl
set_option maxRecDepth 100000 in
theorem ii_7 : Cond.initialized (am_R 7) ∈ am_good := am_memI 62 rfl rfl
set_option maxRecDepth 100000 in
theorem im_X7_init : Cond.instanceMethod yX7_init ∈ am_good := am_memI 82 rfl rfl
set_option maxRecDepth 100000 in
theorem mk_L_85 : Cond.methodLink RL 85 yX7_init ∈ am_good := am_memI 81 rfl rfl
set_option maxRecDepth 100000 in
theorem ck_L_86 : Cond.classLink RL 86 (am_R 8) ∈ am_good := am_memI 905 rfl rfl
set_option maxRecDepth 100000 in
theorem in_8 : Cond.instantiable (am_R 8) (am_nf 8) ∈ am_good := am_memI 906 rfl rfl
set_option maxRecDepth 100000 in
theorem ii_8 : Cond.initialized (am_R 8) ∈ am_good := am_memI 70 rfl rfl
set_option maxRecDepth 100000 in
theorem im_X8_init : Cond.instanceMethod yX8_init ∈ am_good := am_memI 908 rfl rfl
set_option maxRecDepth 100000 in
theorem mk_L_88 : Cond.methodLink RL 88 yX8_init ∈ am_good := am_memI 907 rfl rfl
set_option maxRecDepth 100000 in
theorem ac_long : Cond.arrayClass .long ∈ am_good := am_memI 1230 rfl rfl
set_option maxRecDepth 100000 in
theorem mk_L_89 : Cond.methodLink RL 89 yL_set ∈ am_good := am_memI 536 rfl rfl
set_option maxRecDepth 100000 in
theorem sm_L_set : Cond.static yL_set ∈ am_good := am_memI 537 rfl rfl
set_option maxRecDepth 100000 in
theorem mk_L_94 : Cond.methodLink RL 94 yX8_set ∈ am_good := am_memI 958 rfl rfl
set_option maxRecDepth 100000 in
theorem im_X8_set : Cond.instanceMethod yX8_set ∈ am_good := am_memI 959 rfl rfl
set_option maxRecDepth 100000 in
theorem sl_X8_set : Cond.selects RX8 yX8_set yX8_set ∈ am_good := am_memI 960 rfl rfl
set_option maxRecDepth 100000 in
theorem mk_L_95 : Cond.methodLink RL 95 yX8_thrown ∈ am_good := am_memI 954 rfl rfl
set_option maxRecDepth 100000 in
theorem im_X8_thrown : Cond.instanceMethod yX8_thrown ∈ am_good := am_memI 955 rfl rfl
set_option maxRecDepth 100000 in
theorem sl_X8_thrown : Cond.selects RX8 yX8_thrown yX8_thrown ∈ am_good := am_memI 956 rfl rfl
set_option maxRecDepth 100000 in
theorem mk_L_98 : Cond.methodLink RL 98 yL_addLane ∈ am_good := am_memI 658 rfl rfl
set_option maxRecDepth 100000 in
theorem sm_L_addLane : Cond.static yL_addLane ∈ am_good := am_memI 659 rfl rfl
set_option maxRecDepth 100000 in
theorem mk_L_101 : Cond.methodLink RL 101 yX8_addLane ∈ am_good := am_memI 990 rfl rfl
set_option maxRecDepth 100000 in
theorem im_X8_addLane : Cond.instanceMethod yX8_addLane ∈ am_good := am_memI 991 rfl rfl
set_option maxRecDepth 100000 in
theorem sl_X8_addLane : Cond.selects RX8 yX8_addLane yX8_addLane ∈ am_good := am_memI 992 rfl rfl
set_option maxRecDepth 100000 in
theorem mk_L_102 : Cond.methodLink RL 102 yL_emptyLane ∈ am_good := am_memI 673 rfl rfl
set_option maxRecDepth 100000 in
theorem sm_L_emptyLane : Cond.static yL_emptyLane ∈ am_good := am_memI 674 rfl rfl
set_option maxRecDepth 100000 in
theorem mk_L_105 : Cond.methodLink RL 105 yX8_emptyLane ∈ am_good := am_memI 994 rfl rfl
set_option maxRecDepth 100000 in
theorem im_X8_emptyLane : Cond.instanceMethod yX8_emptyLane ∈ am_good := am_memI 995 rfl rfl
set_option maxRecDepth 100000 in
theorem sl_X8_emptyLane : Cond.selects RX8 yX8_emptyLane yX8_emptyLane ∈ am_good := am_memI 996 rfl rfl
set_option maxRecDepth 100000 in
theorem mk_L_106 : Cond.methodLink RL 106 yL_route ∈ am_good := am_memI 682 rfl rfl
set_option maxRecDepth 100000 in
theorem sm_L_route : Cond.static yL_route ∈ am_good := am_memI 683 rfl rfl
set_option maxRecDepth 100000 in
theorem mk_L_108 : Cond.methodLink RL 108 yX8_route ∈ am_good := am_memI 1002 rfl rfl
set_option maxRecDepth 100000 in
theorem im_X8_route : Cond.instanceMethod yX8_route ∈ am_good := am_memI 1003 rfl rfl
set_option maxRecDepth 100000 in
theorem sl_X8_route : Cond.selects RX8 yX8_route yX8_route ∈ am_good := am_memI 1004 rfl rfl
set_option maxRecDepth 100000 in
theorem mk_L_109 : Cond.methodLink RL 109 yL_removeRoute ∈ am_good := am_memI 696 rfl rfl
set_option maxRecDepth 100000 in
theorem sm_L_removeRoute : Cond.static yL_removeRoute ∈ am_good := am_memI 697 rfl rfl
set_option maxRecDepth 100000 in
theorem mk_L_111 : Cond.methodLink RL 111 yX8_removeRoute ∈ am_good := am_memI 1017 rfl rfl
set_option maxRecDepth 100000 in
theorem im_X8_removeRoute : Cond.instanceMethod yX8_removeRoute ∈ am_good := am_memI 1018 rfl rfl
set_option maxRecDepth 100000 in
theorem sl_X8_removeRoute : Cond.selects RX8 yX8_removeRoute yX8_removeRoute ∈ am_good := am_memI 1019 rfl rfl
set_option maxRecDepth 100000 in
theorem mk_L_112 : Cond.methodLink RL 112 yL_enter ∈ am_good := am_memI 708 rfl rfl
set_option maxRecDepth 100000 in
theorem sm_L_enter : Cond.static yL_enter ∈ am_good := am_memI 709 rfl rfl
set_option maxRecDepth 100000 in
theorem mk_L_114 : Cond.methodLink RL 114 yX8_enter ∈ am_good := am_memI 1021 rfl rfl
set_option maxRecDepth 100000 in
theorem im_X8_enter : Cond.instanceMethod yX8_enter ∈ am_good := am_memI 1022 rfl rfl
set_option maxRecDepth 100000 in
theorem sl_X8_enter : Cond.selects RX8 yX8_enter yX8_enter ∈ am_good := am_memI 1023 rfl rfl
set_option maxRecDepth 100000 in
theorem mk_L_115 : Cond.methodLink RL 115 yL_read ∈ am_good := am_memI 727 rfl rfl
set_option maxRecDepth 100000 in
theorem sm_L_read : Cond.static yL_read ∈ am_good := am_memI 728 rfl rfl
set_option maxRecDepth 100000 in
theorem mk_L_117 : Cond.methodLink RL 117 yX8_read ∈ am_good := am_memI 1037 rfl rfl
set_option maxRecDepth 100000 in
theorem im_X8_read : Cond.instanceMethod yX8_read ∈ am_good := am_memI 1038 rfl rfl
set_option maxRecDepth 100000 in
theorem sl_X8_read : Cond.selects RX8 yX8_read yX8_read ∈ am_good := am_memI 1039 rfl rfl
set_option maxRecDepth 100000 in
theorem mk_L_118 : Cond.methodLink RL 118 yL_move ∈ am_good := am_memI 742 rfl rfl
set_option maxRecDepth 100000 in
theorem sm_L_move : Cond.static yL_move ∈ am_good := am_memI 743 rfl rfl
set_option maxRecDepth 100000 in
theorem mk_L_120 : Cond.methodLink RL 120 yX8_move ∈ am_good := am_memI 1053 rfl rfl
set_option maxRecDepth 100000 in
theorem im_X8_move : Cond.instanceMethod yX8_move ∈ am_good := am_memI 1054 rfl rfl
set_option maxRecDepth 100000 in
theorem sl_X8_move : Cond.selects RX8 yX8_move yX8_move ∈ am_good := am_memI 1055 rfl rfl
set_option maxRecDepth 100000 in
theorem mk_L_121 : Cond.methodLink RL 121 yL_takeOff ∈ am_good := am_memI 761 rfl rfl
set_option maxRecDepth 100000 in
theorem sm_L_takeOff : Cond.static yL_takeOff ∈ am_good := am_memI 762 rfl rfl
set_option maxRecDepth 100000 in
theorem mk_L_123 : Cond.methodLink RL 123 yX8_takeOff ∈ am_good := am_memI 1102 rfl rfl
set_option maxRecDepth 100000 in
theorem im_X8_takeOff : Cond.instanceMethod yX8_takeOff ∈ am_good := am_memI 1103 rfl rfl
set_option maxRecDepth 100000 in
theorem sl_X8_takeOff : Cond.selects RX8 yX8_takeOff yX8_takeOff ∈ am_good := am_memI 1104 rfl rfl
set_option maxRecDepth 100000 in
theorem mk_L_124 : Cond.methodLink RL 124 yL_undo ∈ am_good := am_memI 775 rfl rfl
set_option maxRecDepth 100000 in
theorem sm_L_undo : Cond.static yL_undo ∈ am_good := am_memI 776 rfl rfl
set_option maxRecDepth 100000 in
theorem mk_L_127 : Cond.methodLink RL 127 yX8_undo ∈ am_good := am_memI 1110 rfl rfl
set_option maxRecDepth 100000 in
theorem im_X8_undo : Cond.instanceMethod yX8_undo ∈ am_good := am_memI 1111 rfl rfl
set_option maxRecDepth 100000 in
theorem sl_X8_undo : Cond.selects RX8 yX8_undo yX8_undo ∈ am_good := am_memI 1112 rfl rfl
set_option maxRecDepth 100000 in
theorem mk_L_128 : Cond.methodLink RL 128 yL_part ∈ am_good := am_memI 783 rfl rfl
set_option maxRecDepth 100000 in
theorem sm_L_part : Cond.static yL_part ∈ am_good := am_memI 784 rfl rfl
set_option maxRecDepth 100000 in
theorem mk_L_130 : Cond.methodLink RL 130 yX8_part ∈ am_good := am_memI 1114 rfl rfl
set_option maxRecDepth 100000 in
theorem im_X8_part : Cond.instanceMethod yX8_part ∈ am_good := am_memI 1115 rfl rfl
set_option maxRecDepth 100000 in
theorem sl_X8_part : Cond.selects RX8 yX8_part yX8_part ∈ am_good := am_memI 1116 rfl rfl
set_option maxRecDepth 100000 in
theorem mk_L_131 : Cond.methodLink RL 131 yL_lane ∈ am_good := am_memI 791 rfl rfl
set_option maxRecDepth 100000 in
theorem sm_L_lane : Cond.static yL_lane ∈ am_good := am_memI 792 rfl rfl
set_option maxRecDepth 100000 in
theorem mk_L_133 : Cond.methodLink RL 133 yX8_lane ∈ am_good := am_memI 1118 rfl rfl
set_option maxRecDepth 100000 in
theorem im_X8_lane : Cond.instanceMethod yX8_lane ∈ am_good := am_memI 1119 rfl rfl
set_option maxRecDepth 100000 in
theorem sl_X8_lane : Cond.selects RX8 yX8_lane yX8_lane ∈ am_good := am_memI 1120 rfl rfl
set_option maxRecDepth 100000 in
theorem mk_L_134 : Cond.methodLink RL 134 yL_total ∈ am_good := am_memI 806 rfl rfl
set_option maxRecDepth 100000 in
theorem sm_L_total : Cond.static yL_total ∈ am_good := am_memI 807 rfl rfl
set_option maxRecDepth 100000 in
theorem mk_L_136 : Cond.methodLink RL 136 yX8_total ∈ am_good := am_memI 1126 rfl rfl
set_option maxRecDepth 100000 in
theorem im_X8_total : Cond.instanceMethod yX8_total ∈ am_good := am_memI 1127 rfl rfl
set_option maxRecDepth 100000 in
theorem sl_X8_total : Cond.selects RX8 yX8_total yX8_total ∈ am_good := am_memI 1128 rfl rfl
set_option maxRecDepth 100000 in
theorem mk_L_137 : Cond.methodLink RL 137 yL_lost ∈ am_good := am_memI 818 rfl rfl
set_option maxRecDepth 100000 in
theorem sm_L_lost : Cond.static yL_lost ∈ am_good := am_memI 819 rfl rfl
set_option maxRecDepth 100000 in
theorem mk_L_139 : Cond.methodLink RL 139 yX8_lost ∈ am_good := am_memI 1138 rfl rfl
set_option maxRecDepth 100000 in
theorem im_X8_lost : Cond.instanceMethod yX8_lost ∈ am_good := am_memI 1139 rfl rfl
set_option maxRecDepth 100000 in
theorem sl_X8_lost : Cond.selects RX8 yX8_lost yX8_lost ∈ am_good := am_memI 1140 rfl rfl
set_option maxRecDepth 100000 in
theorem mk_L_140 : Cond.methodLink RL 140 yL_setting ∈ am_good := am_memI 826 rfl rfl
set_option maxRecDepth 100000 in
theorem sm_L_setting : Cond.static yL_setting ∈ am_good := am_memI 827 rfl rfl
set_option maxRecDepth 100000 in
theorem mk_L_142 : Cond.methodLink RL 142 yX8_setting ∈ am_good := am_memI 1142 rfl rfl
set_option maxRecDepth 100000 in
theorem im_X8_setting : Cond.instanceMethod yX8_setting ∈ am_good := am_memI 1143 rfl rfl
set_option maxRecDepth 100000 in
theorem sl_X8_setting : Cond.selects RX8 yX8_setting yX8_setting ∈ am_good := am_memI 1144 rfl rfl
set_option maxRecDepth 100000 in
theorem mk_L_143 : Cond.methodLink RL 143 yL_routeAt ∈ am_good := am_memI 833 rfl rfl
set_option maxRecDepth 100000 in
theorem sm_L_routeAt : Cond.static yL_routeAt ∈ am_good := am_memI 834 rfl rfl
set_option maxRecDepth 100000 in
theorem mk_L_145 : Cond.methodLink RL 145 yX8_routeAt ∈ am_good := am_memI 1146 rfl rfl
set_option maxRecDepth 100000 in
theorem im_X8_routeAt : Cond.instanceMethod yX8_routeAt ∈ am_good := am_memI 1147 rfl rfl
set_option maxRecDepth 100000 in
theorem sl_X8_routeAt : Cond.selects RX8 yX8_routeAt yX8_routeAt ∈ am_good := am_memI 1148 rfl rfl
set_option maxRecDepth 100000 in
theorem mk_L_146 : Cond.methodLink RL 146 yL_gapAhead ∈ am_good := am_memI 845 rfl rfl
set_option maxRecDepth 100000 in
theorem sm_L_gapAhead : Cond.static yL_gapAhead ∈ am_good := am_memI 846 rfl rfl
set_option maxRecDepth 100000 in
theorem mk_L_148 : Cond.methodLink RL 148 yX8_gapAhead ∈ am_good := am_memI 1150 rfl rfl
set_option maxRecDepth 100000 in
theorem im_X8_gapAhead : Cond.instanceMethod yX8_gapAhead ∈ am_good := am_memI 1151 rfl rfl
set_option maxRecDepth 100000 in
theorem sl_X8_gapAhead : Cond.selects RX8 yX8_gapAhead yX8_gapAhead ∈ am_good := am_memI 1152 rfl rfl
set_option maxRecDepth 100000 in
theorem mk_L_149 : Cond.methodLink RL 149 yL_ranked ∈ am_good := am_memI 853 rfl rfl
set_option maxRecDepth 100000 in
theorem sm_L_ranked : Cond.static yL_ranked ∈ am_good := am_memI 854 rfl rfl
set_option maxRecDepth 100000 in
theorem mk_L_151 : Cond.methodLink RL 151 yX8_ranked ∈ am_good := am_memI 1154 rfl rfl
set_option maxRecDepth 100000 in
theorem im_X8_ranked : Cond.instanceMethod yX8_ranked ∈ am_good := am_memI 1155 rfl rfl
set_option maxRecDepth 100000 in
theorem sl_X8_ranked : Cond.selects RX8 yX8_ranked yX8_ranked ∈ am_good := am_memI 1156 rfl rfl
set_option maxRecDepth 100000 in
theorem mk_L_152 : Cond.methodLink RL 152 yX7_share ∈ am_good := am_memI 331 rfl rfl
set_option maxRecDepth 100000 in
theorem im_X7_share : Cond.instanceMethod yX7_share ∈ am_good := am_memI 332 rfl rfl
set_option maxRecDepth 100000 in
theorem sl_X7_share : Cond.selects RX7 yX7_share yX7_share ∈ am_good := am_memI 333 rfl rfl
set_option maxRecDepth 100000 in
theorem mk_L_156 : Cond.methodLink RL 156 yX8_share ∈ am_good := am_memI 1162 rfl rfl
set_option maxRecDepth 100000 in
theorem im_X8_share : Cond.instanceMethod yX8_share ∈ am_good := am_memI 1163 rfl rfl
set_option maxRecDepth 100000 in
theorem sl_X8_share : Cond.selects RX8 yX8_share yX8_share ∈ am_good := am_memI 1164 rfl rfl
set_option maxRecDepth 100000 in
theorem mk_L_157 : Cond.methodLink RL 157 yL_fateOf ∈ am_good := am_memI 869 rfl rfl
set_option maxRecDepth 100000 in
theorem sm_L_fateOf : Cond.static yL_fateOf ∈ am_good := am_memI 870 rfl rfl
set_option maxRecDepth 100000 in
theorem mk_L_159 : Cond.methodLink RL 159 yX8_fateOf ∈ am_good := am_memI 1166 rfl rfl
set_option maxRecDepth 100000 in
theorem im_X8_fateOf : Cond.instanceMethod yX8_fateOf ∈ am_good := am_memI 1167 rfl rfl
set_option maxRecDepth 100000 in
theorem sl_X8_fateOf : Cond.selects RX8 yX8_fateOf yX8_fateOf ∈ am_good := am_memI 1168 rfl rfl
set_option maxRecDepth 100000 in
theorem mk_L_160 : Cond.methodLink RL 160 yX7_entryIn ∈ am_good := am_memI 382 rfl rfl
set_option maxRecDepth 100000 in
theorem im_X7_entryIn : Cond.instanceMethod yX7_entryIn ∈ am_good := am_memI 383 rfl rfl
set_option maxRecDepth 100000 in
theorem sl_X7_entryIn : Cond.selects RX7 yX7_entryIn yX7_entryIn ∈ am_good := am_memI 384 rfl rfl
set_option maxRecDepth 100000 in
theorem mk_L_163 : Cond.methodLink RL 163 yX8_entryIn ∈ am_good := am_memI 1178 rfl rfl
set_option maxRecDepth 100000 in
theorem im_X8_entryIn : Cond.instanceMethod yX8_entryIn ∈ am_good := am_memI 1179 rfl rfl
set_option maxRecDepth 100000 in
theorem sl_X8_entryIn : Cond.selects RX8 yX8_entryIn yX8_entryIn ∈ am_good := am_memI 1180 rfl rfl
set_option maxRecDepth 100000 in
theorem mk_L_164 : Cond.methodLink RL 164 yX7_nextLeaving ∈ am_good := am_memI 483 rfl rfl
set_option maxRecDepth 100000 in
theorem im_X7_nextLeaving : Cond.instanceMethod yX7_nextLeaving ∈ am_good := am_memI 484 rfl rfl
set_option maxRecDepth 100000 in
theorem sl_X7_nextLeaving : Cond.selects RX7 yX7_nextLeaving yX7_nextLeaving ∈ am_good := am_memI 485 rfl rfl
set_option maxRecDepth 100000 in
theorem mk_L_167 : Cond.methodLink RL 167 yX8_nextLeaving ∈ am_good := am_memI 1186 rfl rfl
set_option maxRecDepth 100000 in
theorem im_X8_nextLeaving : Cond.instanceMethod yX8_nextLeaving ∈ am_good := am_memI 1187 rfl rfl
set_option maxRecDepth 100000 in
theorem sl_X8_nextLeaving : Cond.selects RX8 yX8_nextLeaving yX8_nextLeaving ∈ am_good := am_memI 1188 rfl rfl
set_option maxRecDepth 100000 in
theorem mk_L_168 : Cond.methodLink RL 168 yL_laneFor ∈ am_good := am_memI 876 rfl rfl
set_option maxRecDepth 100000 in
theorem sm_L_laneFor : Cond.static yL_laneFor ∈ am_good := am_memI 877 rfl rfl
set_option maxRecDepth 100000 in
theorem mk_L_170 : Cond.methodLink RL 170 yX8_laneFor ∈ am_good := am_memI 1190 rfl rfl
set_option maxRecDepth 100000 in
theorem im_X8_laneFor : Cond.instanceMethod yX8_laneFor ∈ am_good := am_memI 1191 rfl rfl
set_option maxRecDepth 100000 in
theorem sl_X8_laneFor : Cond.selects RX8 yX8_laneFor yX8_laneFor ∈ am_good := am_memI 1192 rfl rfl
set_option maxRecDepth 100000 in
theorem mk_L_171 : Cond.methodLink RL 171 yL_append ∈ am_good := am_memI 884 rfl rfl
set_option maxRecDepth 100000 in
theorem sm_L_append : Cond.static yL_append ∈ am_good := am_memI 885 rfl rfl
set_option maxRecDepth 100000 in
theorem mk_L_173 : Cond.methodLink RL 173 yX8_append ∈ am_good := am_memI 1194 rfl rfl
set_option maxRecDepth 100000 in
theorem im_X8_append : Cond.instanceMethod yX8_append ∈ am_good := am_memI 1195 rfl rfl
set_option maxRecDepth 100000 in
theorem sl_X8_append : Cond.selects RX8 yX8_append yX8_append ∈ am_good := am_memI 1196 rfl rfl
set_option maxRecDepth 100000 in
theorem mk_L_174 : Cond.methodLink RL 174 yX7_clear ∈ am_good := am_memI 487 rfl rfl
set_option maxRecDepth 100000 in
theorem im_X7_clear : Cond.instanceMethod yX7_clear ∈ am_good := am_memI 488 rfl rfl
set_option maxRecDepth 100000 in
theorem sl_X7_clear : Cond.selects RX7 yX7_clear yX7_clear ∈ am_good := am_memI 489 rfl rfl
set_option maxRecDepth 100000 in
theorem mk_L_177 : Cond.methodLink RL 177 yX8_clear ∈ am_good := am_memI 1198 rfl rfl
set_option maxRecDepth 100000 in
theorem im_X8_clear : Cond.instanceMethod yX8_clear ∈ am_good := am_memI 1199 rfl rfl
set_option maxRecDepth 100000 in
theorem sl_X8_clear : Cond.selects RX8 yX8_clear yX8_clear ∈ am_good := am_memI 1200 rfl rfl
set_option maxRecDepth 100000 in
theorem mk_L_178 : Cond.methodLink RL 178 yX7_errorPosition ∈ am_good := am_memI 491 rfl rfl
set_option maxRecDepth 100000 in
theorem im_X7_errorPosition : Cond.instanceMethod yX7_errorPosition ∈ am_good := am_memI 492 rfl rfl
set_option maxRecDepth 100000 in
theorem sl_X7_errorPosition : Cond.selects RX7 yX7_errorPosition yX7_errorPosition ∈ am_good := am_memI 493 rfl rfl
set_option maxRecDepth 100000 in
theorem mk_L_181 : Cond.methodLink RL 181 yX8_errorPosition ∈ am_good := am_memI 1202 rfl rfl
set_option maxRecDepth 100000 in
theorem im_X8_errorPosition : Cond.instanceMethod yX8_errorPosition ∈ am_good := am_memI 1203 rfl rfl
set_option maxRecDepth 100000 in
theorem sl_X8_errorPosition : Cond.selects RX8 yX8_errorPosition yX8_errorPosition ∈ am_good := am_memI 1204 rfl rfl
set_option maxRecDepth 100000 in
theorem mk_L_182 : Cond.methodLink RL 182 yL_load ∈ am_good := am_memI 897 rfl rfl
set_option maxRecDepth 100000 in
theorem sm_L_load : Cond.static yL_load ∈ am_good := am_memI 898 rfl rfl
set_option maxRecDepth 100000 in
theorem mk_L_184 : Cond.methodLink RL 184 yX8_load ∈ am_good := am_memI 1226 rfl rfl
set_option maxRecDepth 100000 in
theorem im_X8_load : Cond.instanceMethod yX8_load ∈ am_good := am_memI 1227 rfl rfl
set_option maxRecDepth 100000 in
theorem sl_X8_load : Cond.selects RX8 yX8_load yX8_load ∈ am_good := am_memI 1228 rfl rfl

/-! the methods, and the words that their instructions need (written by wip/p30/gen_code.py) -/
abbrev m_X0_init : am_M := (RX0, yX0_init, cX0_init, 1, none, (0, 0), [])
abbrev m_X0_begin : am_M := (RX0, yX0_begin, cX0_begin, 4, none, (0, 0), [])
abbrev m_X0_copyFrom : am_M := (RX0, yX0_copyFrom, cX0_copyFrom, 2, none, (0, 0), [])
abbrev m_X0_covers : am_M := (RX0, yX0_covers, cX0_covers, 2, (some .boolean), (0, 0), [])
abbrev m_X0_takes : am_M := (RX0, yX0_takes, cX0_takes, 1, (some .boolean), (0, 0), [])
abbrev m_X0_property : am_M := (RX0, yX0_property, cX0_property, 2, (some .int), (0, 0), [])
abbrev m_X1_init : am_M := (RX1, yX1_init, cX1_init, 1, none, (1, 3000), [])
abbrev m_X1_keep : am_M := (RX1, yX1_keep, cX1_keep, 4, none, (0, 0), [])
abbrev m_X1_propertyOf : am_M := (RX1, yX1_propertyOf, cX1_propertyOf, 3, (some .int), (0, 0), [])
abbrev m_X2_init : am_M := (RX2, yX2_init, cX2_init, 1, none, (0, 0), [])
abbrev m_X2_begin : am_M := (RX2, yX2_begin, cX2_begin, 3, none, (0, 0), [])
abbrev m_X2_copyFrom : am_M := (RX2, yX2_copyFrom, cX2_copyFrom, 2, none, (0, 0), [])
abbrev m_X2_tail : am_M := (RX2, yX2_tail, cX2_tail, 1, (some .int), (0, 0), [])
abbrev m_X2_middle : am_M := (RX2, yX2_middle, cX2_middle, 1, (some .int), (0, 0), [])
abbrev m_X2_accept : am_M := (RX2, yX2_accept, cX2_accept, 4, none, (0, 0), [])
abbrev m_X2_reason : am_M := (RX2, yX2_reason, cX2_reason, 1, (some .int), (0, 0), [])
abbrev m_X2_property : am_M := (RX2, yX2_property, cX2_property, 2, (some .int), (0, 0), [])
abbrev m_X3_init : am_M := (RX3, yX3_init, cX3_init, 1, none, (2, 60), [])
abbrev m_X3_copyFrom : am_M := (RX3, yX3_copyFrom, cX3_copyFrom, 2, none, (0, 0), [])
abbrev m_X3_placeFor : am_M := (RX3, yX3_placeFor, cX3_placeFor, 3, (some .int), (0, 0), [])
abbrev m_X3_laneOf : am_M := (RX3, yX3_laneOf, cX3_laneOf, 3, (some .int), (0, 0), [])
abbrev m_X3_put : am_M := (RX3, yX3_put, cX3_put, 6, none, (0, 0), [])
abbrev m_X3_drop : am_M := (RX3, yX3_drop, cX3_drop, 4, none, (0, 0), [])
abbrev m_X3_countTo : am_M := (RX3, yX3_countTo, cX3_countTo, 4, (some .int), (0, 0), [])
abbrev m_X3_codeAndLane : am_M := (RX3, yX3_codeAndLane, cX3_codeAndLane, 2, (some .int), (0, 0), [])
abbrev m_X4_init : am_M := (RX4, yX4_init, cX4_init, 1, none, (4, 320), [])
abbrev m_X4_restart : am_M := (RX4, yX4_restart, cX4_restart, 1, none, (0, 0), [])
abbrev m_X4_addLeaf : am_M := (RX4, yX4_addLeaf, cX4_addLeaf, 2, none, (0, 0), [])
abbrev m_X4_addCondition : am_M := (RX4, yX4_addCondition, cX4_addCondition, 4, (some .int), (0, 0), [])
abbrev m_X4_addNode : am_M := (RX4, yX4_addNode, cX4_addNode, 4, (some .int), (0, 0), [])
abbrev m_X4_otherwise : am_M := (RX4, yX4_otherwise, cX4_otherwise, 2, none, (0, 0), [])
abbrev m_X4_laneBy : am_M := (RX4, yX4_laneBy, cX4_laneBy, 5, (some .int), (0, 0), [])
abbrev m_X4_holds : am_M := (RX4, yX4_holds, cX4_holds, 5, (some .boolean), (0, 0), [])
abbrev m_X5_init : am_M := (RX5, yX5_init, cX5_init, 1, none, (1, 80), [])
abbrev m_X5_parseInto : am_M := (RX5, yX5_parseInto, cX5_parseInto, 2, (some .int), (0, 0), [])
abbrev m_X5_takesRule : am_M := (RX5, yX5_takesRule, cX5_takesRule, 4, (some .boolean), (0, 0), [])
abbrev m_X5_takesChoice : am_M := (RX5, yX5_takesChoice, cX5_takesChoice, 4, (some .boolean), (0, 0), [])
abbrev m_X5_takeCondition : am_M := (RX5, yX5_takeCondition, cX5_takeCondition, 5, (some .int), (0, 0), [])
abbrev m_X5_takeNumber : am_M := (RX5, yX5_takeNumber, cX5_takeNumber, 4, (some .int), (0, 0), [])
abbrev m_X5_takesSign : am_M := (RX5, yX5_takesSign, cX5_takesSign, 2, (some .boolean), (0, 0), [])
abbrev m_X5_nextSign : am_M := (RX5, yX5_nextSign, cX5_nextSign, 1, (some .int), (0, 0), [])
abbrev m_X6_init : am_M := (RX6, yX6_init, cX6_init, 3, none, (32, 365), [])
abbrev m_X6_copyFrom : am_M := (RX6, yX6_copyFrom, cX6_copyFrom, 3, none, (0, 0), [])
abbrev m_X6_hasLane : am_M := (RX6, yX6_hasLane, cX6_hasLane, 2, (some .boolean), (0, 0), [])
abbrev m_X6_placeOf : am_M := (RX6, yX6_placeOf, cX6_placeOf, 3, (some .int), (0, 0), [])
abbrev m_X6_gapBetween : am_M := (RX6, yX6_gapBetween, cX6_gapBetween, 3, (some .int), (0, 0), [])
abbrev m_X6_freeAtEntry : am_M := (RX6, yX6_freeAtEntry, cX6_freeAtEntry, 1, (some .int), (0, 0), [])
abbrev m_X6_beginPart : am_M := (RX6, yX6_beginPart, cX6_beginPart, 4, (some .int), (0, 0), [])
abbrev m_X6_ownerOfRead : am_M := (RX6, yX6_ownerOfRead, cX6_ownerOfRead, 7, (some (.object "PickScanner$Part")), (0, 0), [])
abbrev m_X6_laneOf : am_M := (RX6, yX6_laneOf, cX6_laneOf, 2, (some .int), (0, 0), [])
abbrev m_X6_laneGiven : am_M := (RX6, yX6_laneGiven, cX6_laneGiven, 4, (some .int), (0, 0), [])
abbrev m_X6_aimParts : am_M := (RX6, yX6_aimParts, cX6_aimParts, 2, none, (0, 0), [])
abbrev m_X6_stride : am_M := (RX6, yX6_stride, cX6_stride, 4, (some .int), (0, 0), [])
abbrev m_X6_quietMillimeters : am_M := (RX6, yX6_quietMillimeters, cX6_quietMillimeters, 5, (some .int), (0, 0), [])
abbrev m_X6_advance : am_M := (RX6, yX6_advance, cX6_advance, 3, none, (0, 0), [])
abbrev m_X6_divertParts : am_M := (RX6, yX6_divertParts, cX6_divertParts, 3, none, (0, 0), [])
abbrev m_X6_diverts : am_M := (RX6, yX6_diverts, cX6_diverts, 4, (some .boolean), (0, 0), [])
abbrev m_X6_hasGaps : am_M := (RX6, yX6_hasGaps, cX6_hasGaps, 2, (some .boolean), (0, 0), [])
abbrev m_X6_loseParts : am_M := (RX6, yX6_loseParts, cX6_loseParts, 2, none, (0, 0), [])
abbrev m_X6_leave : am_M := (RX6, yX6_leave, cX6_leave, 5, none, (0, 0), [])
abbrev m_X6_rankOf : am_M := (RX6, yX6_rankOf, cX6_rankOf, 6, (some .int), (0, 0), [])
abbrev m_X6_distanceToLane : am_M := (RX6, yX6_distanceToLane, cX6_distanceToLane, 3, (some .int), (0, 0), [])
abbrev m_X7_init : am_M := (RX7, yX7_init, cX7_init, 3, none, (279, 6750), [])
abbrev m_X7_set : am_M := (RX7, yX7_set, cX7_set, 4, (some .int), (1, 6), [])
abbrev m_X7_addLane : am_M := (RX7, yX7_addLane, cX7_addLane, 5, (some .int), (1, 6), [])
abbrev m_X7_emptyLane : am_M := (RX7, yX7_emptyLane, cX7_emptyLane, 3, (some .int), (1, 6), [])
abbrev m_X7_route : am_M := (RX7, yX7_route, cX7_route, 4, (some .int), (1, 6), [])
abbrev m_X7_removeRoute : am_M := (RX7, yX7_removeRoute, cX7_removeRoute, 3, (some .int), (1, 6), [])
abbrev m_X7_enter : am_M := (RX7, yX7_enter, cX7_enter, 2, (some .int), (1, 6), [])
abbrev m_X7_read : am_M := (RX7, yX7_read, cX7_read, 3, (some .int), (1, 6), [])
abbrev m_X7_move : am_M := (RX7, yX7_move, cX7_move, 5, (some .int), (1, 6), [])
abbrev m_X7_takeOff : am_M := (RX7, yX7_takeOff, cX7_takeOff, 5, (some .int), (1, 6), [])
abbrev m_X7_undo : am_M := (RX7, yX7_undo, cX7_undo, 1, (some .int), (1, 6), [])
abbrev m_X7_part : am_M := (RX7, yX7_part, cX7_part, 3, (some .int), (1, 6), [])
abbrev m_X7_lane : am_M := (RX7, yX7_lane, cX7_lane, 3, (some .int), (1, 6), [])
abbrev m_X7_total : am_M := (RX7, yX7_total, cX7_total, 2, (some .int), (1, 6), [])
abbrev m_X7_lost : am_M := (RX7, yX7_lost, cX7_lost, 2, (some .int), (1, 6), [])
abbrev m_X7_setting : am_M := (RX7, yX7_setting, cX7_setting, 2, (some .int), (1, 6), [])
abbrev m_X7_routeAt : am_M := (RX7, yX7_routeAt, cX7_routeAt, 2, (some .int), (1, 6), [])
abbrev m_X7_gapAhead : am_M := (RX7, yX7_gapAhead, cX7_gapAhead, 3, (some .int), (1, 6), [])
abbrev m_X7_ranked : am_M := (RX7, yX7_ranked, cX7_ranked, 3, (some .int), (1, 6), [])
abbrev m_X7_share : am_M := (RX7, yX7_share, cX7_share, 2, (some .double), (0, 0), [])
abbrev m_X7_fateOf : am_M := (RX7, yX7_fateOf, cX7_fateOf, 5, (some .int), (1, 6), [])
abbrev m_X7_entryIn : am_M := (RX7, yX7_entryIn, cX7_entryIn, 4, (some .int), (0, 0), [])
abbrev m_X7_nextLeaving : am_M := (RX7, yX7_nextLeaving, cX7_nextLeaving, 4, (some .int), (0, 0), [])
abbrev m_X7_laneFor : am_M := (RX7, yX7_laneFor, cX7_laneFor, 3, (some .int), (1, 6), [])
abbrev m_X7_errorPosition : am_M := (RX7, yX7_errorPosition, cX7_errorPosition, 1, (some .int), (0, 0), [])
abbrev m_X7_save : am_M := (RX7, yX7_save, cX7_save, 1, none, (0, 0), [])
abbrev m_X7_dropOldestSaved : am_M := (RX7, yX7_dropOldestSaved, cX7_dropOldestSaved, 3, none, (0, 0), [])
abbrev m_X7_hasEntered : am_M := (RX7, yX7_hasEntered, cX7_hasEntered, 2, (some .boolean), (0, 0), [])
abbrev m_X7_keepDeparted : am_M := (RX7, yX7_keepDeparted, cX7_keepDeparted, 3, none, (0, 0), [])
abbrev m_X7_partProperty : am_M := (RX7, yX7_partProperty, cX7_partProperty, 4, (some .int), (0, 0), [])
abbrev m_X7_sumOverParts : am_M := (RX7, yX7_sumOverParts, cX7_sumOverParts, 4, (some .int), (0, 0), [])
abbrev m_X7_countFates : am_M := (RX7, yX7_countFates, cX7_countFates, 6, (some .int), (0, 0), [])
abbrev m_X7_startTrial : am_M := (RX7, yX7_startTrial, cX7_startTrial, 1, none, (0, 0), [])
abbrev m_L_cell : am_M := (RL, yL_cell, cL_cell, 2, (some .int), (0, 0), [])
abbrev m_L_low : am_M := (RL, yL_low, cL_low, 2, (some .int), (0, 0), [])
abbrev m_L_set : am_M := (RL, yL_set, cL_set, 4, (some .int), (1, 6), [(0, 6, 7, 15), (0, 6, 11, 18), (0, 6, 15, 21)])
abbrev m_L_addLane : am_M := (RL, yL_addLane, cL_addLane, 5, (some .int), (1, 6), [(0, 7, 8, 18), (0, 7, 13, 21)])
abbrev m_L_emptyLane : am_M := (RL, yL_emptyLane, cL_emptyLane, 3, (some .int), (1, 6), [(0, 5, 6, 15)])
abbrev m_L_route : am_M := (RL, yL_route, cL_route, 4, (some .int), (1, 6), [(0, 6, 7, 18), (0, 6, 11, 15), (0, 6, 15, 21)])
abbrev m_L_removeRoute : am_M := (RL, yL_removeRoute, cL_removeRoute, 3, (some .int), (1, 6), [(0, 5, 6, 18), (0, 5, 10, 21)])
abbrev m_L_enter : am_M := (RL, yL_enter, cL_enter, 3, (some .int), (1, 6), [(0, 5, 6, 18), (0, 5, 10, 21)])
abbrev m_L_read : am_M := (RL, yL_read, cL_read, 3, (some .int), (1, 6), [(0, 5, 6, 18)])
abbrev m_L_move : am_M := (RL, yL_move, cL_move, 3, (some .int), (1, 6), [(0, 5, 6, 18), (0, 5, 10, 21)])
abbrev m_L_takeOff : am_M := (RL, yL_takeOff, cL_takeOff, 3, (some .int), (1, 6), [(0, 5, 6, 15), (0, 5, 10, 21)])
abbrev m_L_undo : am_M := (RL, yL_undo, cL_undo, 2, (some .int), (1, 6), [(0, 4, 5, 21)])
abbrev m_L_part : am_M := (RL, yL_part, cL_part, 4, (some .int), (1, 6), [(0, 6, 7, 15), (0, 6, 11, 18)])
abbrev m_L_lane : am_M := (RL, yL_lane, cL_lane, 4, (some .int), (1, 6), [(0, 6, 7, 15), (0, 6, 11, 18)])
abbrev m_L_total : am_M := (RL, yL_total, cL_total, 3, (some .int), (1, 6), [(0, 5, 6, 18)])
abbrev m_L_lost : am_M := (RL, yL_lost, cL_lost, 3, (some .int), (1, 6), [(0, 5, 6, 18)])
abbrev m_L_setting : am_M := (RL, yL_setting, cL_setting, 3, (some .int), (1, 6), [(0, 5, 6, 15)])
abbrev m_L_routeAt : am_M := (RL, yL_routeAt, cL_routeAt, 3, (some .int), (1, 6), [(0, 5, 6, 18)])
abbrev m_L_gapAhead : am_M := (RL, yL_gapAhead, cL_gapAhead, 3, (some .int), (1, 6), [(0, 5, 6, 15), (0, 5, 10, 21)])
abbrev m_L_ranked : am_M := (RL, yL_ranked, cL_ranked, 3, (some .int), (1, 6), [(0, 5, 6, 18)])
abbrev m_L_fateOf : am_M := (RL, yL_fateOf, cL_fateOf, 3, (some .int), (1, 6), [(0, 5, 6, 15)])
abbrev m_L_laneFor : am_M := (RL, yL_laneFor, cL_laneFor, 4, (some .int), (1, 6), [(0, 6, 7, 18)])
abbrev m_L_change : am_M := (RL, yL_change, cL_change, 3, (some .int), (1, 6), [])
abbrev m_L_ask : am_M := (RL, yL_ask, cL_ask, 3, (some .int), (1, 6), [])
abbrev m_L_isCounted : am_M := (RL, yL_isCounted, cL_isCounted, 4, (some .boolean), (100, 600), [])
abbrev m_L_areApart : am_M := (RL, yL_areApart, cL_areApart, 4, (some .boolean), (3000, 18000), [])
abbrev m_L_areAlike : am_M := (RL, yL_areAlike, cL_areAlike, 4, (some .boolean), (200, 1200), [])
abbrev m_L_law : am_M := (RL, yL_law, cL_law, 7, (some .boolean), (600130, 7301080), [])
set_option maxRecDepth 100000 in
theorem ok_X0_init : am_okM m_X0_init 0 := ⟨rfl, by decide, am_memI 151 rfl rfl, am_memI 31 rfl rfl, ⟨by decide, by decide⟩, by decide +kernel, by decide⟩
set_option maxRecDepth 100000 in
theorem ok_X0_begin : am_okM m_X0_begin 3 := ⟨rfl, by decide, am_memI 461 rfl rfl, am_memI 31 rfl rfl, ⟨by decide, by decide⟩, by decide +kernel, by decide⟩
set_option maxRecDepth 100000 in
theorem ok_X0_copyFrom : am_okM m_X0_copyFrom 1 := ⟨rfl, by decide, am_memI 434 rfl rfl, am_memI 31 rfl rfl, ⟨by decide, by decide⟩, by decide +kernel, by decide⟩
set_option maxRecDepth 100000 in
theorem ok_X0_covers : am_okM m_X0_covers 1 := ⟨rfl, by decide, am_memI 655 rfl rfl, am_memI 31 rfl rfl, ⟨by decide, by decide⟩, by decide +kernel, by decide⟩
set_option maxRecDepth 100000 in
theorem ok_X0_takes : am_okM m_X0_takes 0 := ⟨rfl, by decide, am_memI 667 rfl rfl, am_memI 31 rfl rfl, ⟨by decide, by decide⟩, by decide +kernel, by decide⟩
set_option maxRecDepth 100000 in
theorem ok_X0_property : am_okM m_X0_property 1 := ⟨rfl, by decide, am_memI 841 rfl rfl, am_memI 31 rfl rfl, ⟨by decide, by decide⟩, by decide +kernel, by decide⟩
set_option maxRecDepth 100000 in
theorem ok_X1_init : am_okM m_X1_init 0 := ⟨rfl, by decide, am_memI 55 rfl rfl, am_memI 26 rfl rfl, ⟨by decide, by decide⟩, by decide +kernel, by decide⟩
set_option maxRecDepth 100000 in
theorem ok_X1_keep : am_okM m_X1_keep 1 := ⟨rfl, by decide, am_memI 578 rfl rfl, am_memI 26 rfl rfl, ⟨by decide, by decide⟩, by decide +kernel, by decide⟩
set_option maxRecDepth 100000 in
theorem ok_X1_propertyOf : am_okM m_X1_propertyOf 2 := ⟨rfl, by decide, am_memI 698 rfl rfl, am_memI 26 rfl rfl, ⟨by decide, by decide⟩, by decide +kernel, by decide⟩
set_option maxRecDepth 100000 in
theorem ok_X2_init : am_okM m_X2_init 0 := ⟨rfl, by decide, am_memI 174 rfl rfl, am_memI 32 rfl rfl, ⟨by decide, by decide⟩, by decide +kernel, by decide⟩
set_option maxRecDepth 100000 in
theorem ok_X2_begin : am_okM m_X2_begin 2 := ⟨rfl, by decide, am_memI 533 rfl rfl, am_memI 32 rfl rfl, ⟨by decide, by decide⟩, by decide +kernel, by decide⟩
set_option maxRecDepth 100000 in
theorem ok_X2_copyFrom : am_okM m_X2_copyFrom 1 := ⟨rfl, by decide, am_memI 443 rfl rfl, am_memI 32 rfl rfl, ⟨by decide, by decide⟩, by decide +kernel, by decide⟩
set_option maxRecDepth 100000 in
theorem ok_X2_tail : am_okM m_X2_tail 0 := ⟨rfl, by decide, am_memI 522 rfl rfl, am_memI 32 rfl rfl, ⟨by decide, by decide⟩, by decide +kernel, by decide⟩
set_option maxRecDepth 100000 in
theorem ok_X2_middle : am_okM m_X2_middle 0 := ⟨rfl, by decide, am_memI 636 rfl rfl, am_memI 32 rfl rfl, ⟨by decide, by decide⟩, by decide +kernel, by decide⟩
set_option maxRecDepth 100000 in
theorem ok_X2_accept : am_okM m_X2_accept 3 := ⟨rfl, by decide, am_memI 549 rfl rfl, am_memI 32 rfl rfl, ⟨by decide, by decide⟩, by decide +kernel, by decide⟩
set_option maxRecDepth 100000 in
theorem ok_X2_reason : am_okM m_X2_reason 0 := ⟨rfl, by decide, am_memI 676 rfl rfl, am_memI 32 rfl rfl, ⟨by decide, by decide⟩, by decide +kernel, by decide⟩
set_option maxRecDepth 100000 in
theorem ok_X2_property : am_okM m_X2_property 1 := ⟨rfl, by decide, am_memI 582 rfl rfl, am_memI 32 rfl rfl, ⟨by decide, by decide⟩, by decide +kernel, by decide⟩
set_option maxRecDepth 100000 in
theorem ok_X3_init : am_okM m_X3_init 0 := ⟨rfl, by decide, am_memI 133 rfl rfl, am_memI 30 rfl rfl, ⟨by decide, by decide⟩, by decide +kernel, by decide⟩
set_option maxRecDepth 100000 in
theorem ok_X3_copyFrom : am_okM m_X3_copyFrom 1 := ⟨rfl, by decide, am_memI 438 rfl rfl, am_memI 30 rfl rfl, ⟨by decide, by decide⟩, by decide +kernel, by decide⟩
set_option maxRecDepth 100000 in
theorem ok_X3_placeFor : am_okM m_X3_placeFor 1 := ⟨rfl, by decide, am_memI 489 rfl rfl, am_memI 30 rfl rfl, ⟨by decide, by decide⟩, by decide +kernel, by decide⟩
set_option maxRecDepth 100000 in
theorem ok_X3_laneOf : am_okM m_X3_laneOf 1 := ⟨rfl, by decide, am_memI 485 rfl rfl, am_memI 30 rfl rfl, ⟨by decide, by decide⟩, by decide +kernel, by decide⟩
set_option maxRecDepth 100000 in
theorem ok_X3_put : am_okM m_X3_put 2 := ⟨rfl, by decide, am_memI 494 rfl rfl, am_memI 30 rfl rfl, ⟨by decide, by decide⟩, by decide +kernel, by decide⟩
set_option maxRecDepth 100000 in
theorem ok_X3_drop : am_okM m_X3_drop 1 := ⟨rfl, by decide, am_memI 506 rfl rfl, am_memI 30 rfl rfl, ⟨by decide, by decide⟩, by decide +kernel, by decide⟩
set_option maxRecDepth 100000 in
theorem ok_X3_countTo : am_okM m_X3_countTo 1 := ⟨rfl, by decide, am_memI 837 rfl rfl, am_memI 30 rfl rfl, ⟨by decide, by decide⟩, by decide +kernel, by decide⟩
set_option maxRecDepth 100000 in
theorem ok_X3_codeAndLane : am_okM m_X3_codeAndLane 1 := ⟨rfl, by decide, am_memI 753 rfl rfl, am_memI 30 rfl rfl, ⟨by decide, by decide⟩, by decide +kernel, by decide⟩
set_option maxRecDepth 100000 in
theorem ok_X4_init : am_okM m_X4_init 0 := ⟨rfl, by decide, am_memI 84 rfl rfl, am_memI 28 rfl rfl, ⟨by decide, by decide⟩, by decide +kernel, by decide⟩
set_option maxRecDepth 100000 in
theorem ok_X4_restart : am_okM m_X4_restart 0 := ⟨rfl, by decide, am_memI 765 rfl rfl, am_memI 28 rfl rfl, ⟨by decide, by decide⟩, by decide +kernel, by decide⟩
set_option maxRecDepth 100000 in
theorem ok_X4_addLeaf : am_okM m_X4_addLeaf 1 := ⟨rfl, by decide, am_memI 108 rfl rfl, am_memI 28 rfl rfl, ⟨by decide, by decide⟩, by decide +kernel, by decide⟩
set_option maxRecDepth 100000 in
theorem ok_X4_addCondition : am_okM m_X4_addCondition 3 := ⟨rfl, by decide, am_memI 794 rfl rfl, am_memI 28 rfl rfl, ⟨by decide, by decide⟩, by decide +kernel, by decide⟩
set_option maxRecDepth 100000 in
theorem ok_X4_addNode : am_okM m_X4_addNode 3 := ⟨rfl, by decide, am_memI 112 rfl rfl, am_memI 28 rfl rfl, ⟨by decide, by decide⟩, by decide +kernel, by decide⟩
set_option maxRecDepth 100000 in
theorem ok_X4_otherwise : am_okM m_X4_otherwise 1 := ⟨rfl, by decide, am_memI 798 rfl rfl, am_memI 28 rfl rfl, ⟨by decide, by decide⟩, by decide +kernel, by decide⟩
set_option maxRecDepth 100000 in
theorem ok_X4_laneBy : am_okM m_X4_laneBy 2 := ⟨rfl, by decide, am_memI 617 rfl rfl, am_memI 28 rfl rfl, ⟨by decide, by decide⟩, by decide +kernel, by decide⟩
set_option maxRecDepth 100000 in
theorem ok_X4_holds : am_okM m_X4_holds 5 := ⟨rfl, by decide, am_memI 620 rfl rfl, am_memI 28 rfl rfl, ⟨by decide, by decide⟩, by decide +kernel, by decide⟩
set_option maxRecDepth 100000 in
theorem ok_X5_init : am_okM m_X5_init 0 := ⟨rfl, by decide, am_memI 66 rfl rfl, am_memI 27 rfl rfl, ⟨by decide, by decide⟩, by decide +kernel, by decide⟩
set_option maxRecDepth 100000 in
theorem ok_X5_parseInto : am_okM m_X5_parseInto 1 := ⟨rfl, by decide, am_memI 761 rfl rfl, am_memI 27 rfl rfl, ⟨by decide, by decide⟩, by decide +kernel, by decide⟩
set_option maxRecDepth 100000 in
theorem ok_X5_takesRule : am_okM m_X5_takesRule 2 := ⟨rfl, by decide, am_memI 769 rfl rfl, am_memI 27 rfl rfl, ⟨by decide, by decide⟩, by decide +kernel, by decide⟩
set_option maxRecDepth 100000 in
theorem ok_X5_takesChoice : am_okM m_X5_takesChoice 2 := ⟨rfl, by decide, am_memI 778 rfl rfl, am_memI 27 rfl rfl, ⟨by decide, by decide⟩, by decide +kernel, by decide⟩
set_option maxRecDepth 100000 in
theorem ok_X5_takeCondition : am_okM m_X5_takeCondition 1 := ⟨rfl, by decide, am_memI 786 rfl rfl, am_memI 27 rfl rfl, ⟨by decide, by decide⟩, by decide +kernel, by decide⟩
set_option maxRecDepth 100000 in
theorem ok_X5_takeNumber : am_okM m_X5_takeNumber 0 := ⟨rfl, by decide, am_memI 790 rfl rfl, am_memI 27 rfl rfl, ⟨by decide, by decide⟩, by decide +kernel, by decide⟩
set_option maxRecDepth 100000 in
theorem ok_X5_takesSign : am_okM m_X5_takesSign 1 := ⟨rfl, by decide, am_memI 782 rfl rfl, am_memI 27 rfl rfl, ⟨by decide, by decide⟩, by decide +kernel, by decide⟩
set_option maxRecDepth 100000 in
theorem ok_X5_nextSign : am_okM m_X5_nextSign 0 := ⟨rfl, by decide, am_memI 773 rfl rfl, am_memI 27 rfl rfl, ⟨by decide, by decide⟩, by decide +kernel, by decide⟩
set_option maxRecDepth 100000 in
theorem ok_X6_init : am_okM m_X6_init 1 := ⟨rfl, by decide, am_memI 116 rfl rfl, am_memI 29 rfl rfl, ⟨by decide, by decide⟩, by decide +kernel, by decide⟩
set_option maxRecDepth 100000 in
theorem ok_X6_copyFrom : am_okM m_X6_copyFrom 1 := ⟨rfl, by decide, am_memI 427 rfl rfl, am_memI 29 rfl rfl, ⟨by decide, by decide⟩, by decide +kernel, by decide⟩
set_option maxRecDepth 100000 in
theorem ok_X6_hasLane : am_okM m_X6_hasLane 1 := ⟨rfl, by decide, am_memI 472 rfl rfl, am_memI 29 rfl rfl, ⟨by decide, by decide⟩, by decide +kernel, by decide⟩
set_option maxRecDepth 100000 in
theorem ok_X6_placeOf : am_okM m_X6_placeOf 1 := ⟨rfl, by decide, am_memI 565 rfl rfl, am_memI 29 rfl rfl, ⟨by decide, by decide⟩, by decide +kernel, by decide⟩
set_option maxRecDepth 100000 in
theorem ok_X6_gapBetween : am_okM m_X6_gapBetween 2 := ⟨rfl, by decide, am_memI 663 rfl rfl, am_memI 29 rfl rfl, ⟨by decide, by decide⟩, by decide +kernel, by decide⟩
set_option maxRecDepth 100000 in
theorem ok_X6_freeAtEntry : am_okM m_X6_freeAtEntry 0 := ⟨rfl, by decide, am_memI 518 rfl rfl, am_memI 29 rfl rfl, ⟨by decide, by decide⟩, by decide +kernel, by decide⟩
set_option maxRecDepth 100000 in
theorem ok_X6_beginPart : am_okM m_X6_beginPart 1 := ⟨rfl, by decide, am_memI 529 rfl rfl, am_memI 29 rfl rfl, ⟨by decide, by decide⟩, by decide +kernel, by decide⟩
set_option maxRecDepth 100000 in
theorem ok_X6_ownerOfRead : am_okM m_X6_ownerOfRead 0 := ⟨rfl, by decide, am_memI 545 rfl rfl, am_memI 29 rfl rfl, ⟨by decide, by decide⟩, by decide +kernel, by decide⟩
set_option maxRecDepth 100000 in
theorem ok_X6_laneOf : am_okM m_X6_laneOf 1 := ⟨rfl, by decide, am_memI 608 rfl rfl, am_memI 29 rfl rfl, ⟨by decide, by decide⟩, by decide +kernel, by decide⟩
set_option maxRecDepth 100000 in
theorem ok_X6_laneGiven : am_okM m_X6_laneGiven 2 := ⟨rfl, by decide, am_memI 612 rfl rfl, am_memI 29 rfl rfl, ⟨by decide, by decide⟩, by decide +kernel, by decide⟩
set_option maxRecDepth 100000 in
theorem ok_X6_aimParts : am_okM m_X6_aimParts 0 := ⟨rfl, by decide, am_memI 604 rfl rfl, am_memI 29 rfl rfl, ⟨by decide, by decide⟩, by decide +kernel, by decide⟩
set_option maxRecDepth 100000 in
theorem ok_X6_stride : am_okM m_X6_stride 1 := ⟨rfl, by decide, am_memI 625 rfl rfl, am_memI 29 rfl rfl, ⟨by decide, by decide⟩, by decide +kernel, by decide⟩
set_option maxRecDepth 100000 in
theorem ok_X6_quietMillimeters : am_okM m_X6_quietMillimeters 0 := ⟨rfl, by decide, am_memI 629 rfl rfl, am_memI 29 rfl rfl, ⟨by decide, by decide⟩, by decide +kernel, by decide⟩
set_option maxRecDepth 100000 in
theorem ok_X6_advance : am_okM m_X6_advance 1 := ⟨rfl, by decide, am_memI 643 rfl rfl, am_memI 29 rfl rfl, ⟨by decide, by decide⟩, by decide +kernel, by decide⟩
set_option maxRecDepth 100000 in
theorem ok_X6_divertParts : am_okM m_X6_divertParts 0 := ⟨rfl, by decide, am_memI 647 rfl rfl, am_memI 29 rfl rfl, ⟨by decide, by decide⟩, by decide +kernel, by decide⟩
set_option maxRecDepth 100000 in
theorem ok_X6_diverts : am_okM m_X6_diverts 1 := ⟨rfl, by decide, am_memI 651 rfl rfl, am_memI 29 rfl rfl, ⟨by decide, by decide⟩, by decide +kernel, by decide⟩
set_option maxRecDepth 100000 in
theorem ok_X6_hasGaps : am_okM m_X6_hasGaps 1 := ⟨rfl, by decide, am_memI 659 rfl rfl, am_memI 29 rfl rfl, ⟨by decide, by decide⟩, by decide +kernel, by decide⟩
set_option maxRecDepth 100000 in
theorem ok_X6_loseParts : am_okM m_X6_loseParts 0 := ⟨rfl, by decide, am_memI 672 rfl rfl, am_memI 29 rfl rfl, ⟨by decide, by decide⟩, by decide +kernel, by decide⟩
set_option maxRecDepth 100000 in
theorem ok_X6_leave : am_okM m_X6_leave 2 := ⟨rfl, by decide, am_memI 570 rfl rfl, am_memI 29 rfl rfl, ⟨by decide, by decide⟩, by decide +kernel, by decide⟩
set_option maxRecDepth 100000 in
theorem ok_X6_rankOf : am_okM m_X6_rankOf 1 := ⟨rfl, by decide, am_memI 729 rfl rfl, am_memI 29 rfl rfl, ⟨by decide, by decide⟩, by decide +kernel, by decide⟩
set_option maxRecDepth 100000 in
theorem ok_X6_distanceToLane : am_okM m_X6_distanceToLane 1 := ⟨rfl, by decide, am_memI 733 rfl rfl, am_memI 29 rfl rfl, ⟨by decide, by decide⟩, by decide +kernel, by decide⟩
set_option maxRecDepth 100000 in
theorem ok_X7_init : am_okM m_X7_init 0 := ⟨rfl, by decide, am_memI 45 rfl rfl, am_memI 25 rfl rfl, ⟨by decide, by decide⟩, by decide +kernel, by decide⟩
set_option maxRecDepth 100000 in
theorem ok_X7_set : am_okM m_X7_set 2 := ⟨rfl, by decide, am_memI 311 rfl rfl, am_memI 25 rfl rfl, ⟨by decide, by decide⟩, by decide +kernel, by decide⟩
set_option maxRecDepth 100000 in
theorem ok_X7_addLane : am_okM m_X7_addLane 3 := ⟨rfl, by decide, am_memI 453 rfl rfl, am_memI 25 rfl rfl, ⟨by decide, by decide⟩, by decide +kernel, by decide⟩
set_option maxRecDepth 100000 in
theorem ok_X7_emptyLane : am_okM m_X7_emptyLane 1 := ⟨rfl, by decide, am_memI 468 rfl rfl, am_memI 25 rfl rfl, ⟨by decide, by decide⟩, by decide +kernel, by decide⟩
set_option maxRecDepth 100000 in
theorem ok_X7_route : am_okM m_X7_route 2 := ⟨rfl, by decide, am_memI 480 rfl rfl, am_memI 25 rfl rfl, ⟨by decide, by decide⟩, by decide +kernel, by decide⟩
set_option maxRecDepth 100000 in
theorem ok_X7_removeRoute : am_okM m_X7_removeRoute 1 := ⟨rfl, by decide, am_memI 501 rfl rfl, am_memI 25 rfl rfl, ⟨by decide, by decide⟩, by decide +kernel, by decide⟩
set_option maxRecDepth 100000 in
theorem ok_X7_enter : am_okM m_X7_enter 1 := ⟨rfl, by decide, am_memI 513 rfl rfl, am_memI 25 rfl rfl, ⟨by decide, by decide⟩, by decide +kernel, by decide⟩
set_option maxRecDepth 100000 in
theorem ok_X7_read : am_okM m_X7_read 1 := ⟨rfl, by decide, am_memI 541 rfl rfl, am_memI 25 rfl rfl, ⟨by decide, by decide⟩, by decide +kernel, by decide⟩
set_option maxRecDepth 100000 in
theorem ok_X7_move : am_okM m_X7_move 1 := ⟨rfl, by decide, am_memI 597 rfl rfl, am_memI 25 rfl rfl, ⟨by decide, by decide⟩, by decide +kernel, by decide⟩
set_option maxRecDepth 100000 in
theorem ok_X7_takeOff : am_okM m_X7_takeOff 1 := ⟨rfl, by decide, am_memI 556 rfl rfl, am_memI 25 rfl rfl, ⟨by decide, by decide⟩, by decide +kernel, by decide⟩
set_option maxRecDepth 100000 in
theorem ok_X7_undo : am_okM m_X7_undo 0 := ⟨rfl, by decide, am_memI 589 rfl rfl, am_memI 25 rfl rfl, ⟨by decide, by decide⟩, by decide +kernel, by decide⟩
set_option maxRecDepth 100000 in
theorem ok_X7_part : am_okM m_X7_part 2 := ⟨rfl, by decide, am_memI 852 rfl rfl, am_memI 25 rfl rfl, ⟨by decide, by decide⟩, by decide +kernel, by decide⟩
set_option maxRecDepth 100000 in
theorem ok_X7_lane : am_okM m_X7_lane 2 := ⟨rfl, by decide, am_memI 832 rfl rfl, am_memI 25 rfl rfl, ⟨by decide, by decide⟩, by decide +kernel, by decide⟩
set_option maxRecDepth 100000 in
theorem ok_X7_total : am_okM m_X7_total 1 := ⟨rfl, by decide, am_memI 820 rfl rfl, am_memI 25 rfl rfl, ⟨by decide, by decide⟩, by decide +kernel, by decide⟩
set_option maxRecDepth 100000 in
theorem ok_X7_lost : am_okM m_X7_lost 1 := ⟨rfl, by decide, am_memI 808 rfl rfl, am_memI 25 rfl rfl, ⟨by decide, by decide⟩, by decide +kernel, by decide⟩
set_option maxRecDepth 100000 in
theorem ok_X7_setting : am_okM m_X7_setting 1 := ⟨rfl, by decide, am_memI 859 rfl rfl, am_memI 25 rfl rfl, ⟨by decide, by decide⟩, by decide +kernel, by decide⟩
set_option maxRecDepth 100000 in
theorem ok_X7_routeAt : am_okM m_X7_routeAt 1 := ⟨rfl, by decide, am_memI 748 rfl rfl, am_memI 25 rfl rfl, ⟨by decide, by decide⟩, by decide +kernel, by decide⟩
set_option maxRecDepth 100000 in
theorem ok_X7_gapAhead : am_okM m_X7_gapAhead 1 := ⟨rfl, by decide, am_memI 740 rfl rfl, am_memI 25 rfl rfl, ⟨by decide, by decide⟩, by decide +kernel, by decide⟩
set_option maxRecDepth 100000 in
theorem ok_X7_ranked : am_okM m_X7_ranked 1 := ⟨rfl, by decide, am_memI 724 rfl rfl, am_memI 25 rfl rfl, ⟨by decide, by decide⟩, by decide +kernel, by decide⟩
set_option maxRecDepth 100000 in
theorem ok_X7_share : am_okM m_X7_share 0 := ⟨rfl, by decide, am_memI 866 rfl rfl, am_memI 25 rfl rfl, ⟨by decide, by decide⟩, by decide +kernel, by decide⟩
set_option maxRecDepth 100000 in
theorem ok_X7_fateOf : am_okM m_X7_fateOf 1 := ⟨rfl, by decide, am_memI 686 rfl rfl, am_memI 25 rfl rfl, ⟨by decide, by decide⟩, by decide +kernel, by decide⟩
set_option maxRecDepth 100000 in
theorem ok_X7_entryIn : am_okM m_X7_entryIn 0 := ⟨rfl, by decide, am_memI 705 rfl rfl, am_memI 25 rfl rfl, ⟨by decide, by decide⟩, by decide +kernel, by decide⟩
set_option maxRecDepth 100000 in
theorem ok_X7_nextLeaving : am_okM m_X7_nextLeaving 0 := ⟨rfl, by decide, am_memI 709 rfl rfl, am_memI 25 rfl rfl, ⟨by decide, by decide⟩, by decide +kernel, by decide⟩
set_option maxRecDepth 100000 in
theorem ok_X7_laneFor : am_okM m_X7_laneFor 2 := ⟨rfl, by decide, am_memI 716 rfl rfl, am_memI 25 rfl rfl, ⟨by decide, by decide⟩, by decide +kernel, by decide⟩
set_option maxRecDepth 100000 in
theorem ok_X7_errorPosition : am_okM m_X7_errorPosition 0 := ⟨rfl, by decide, am_memI 757 rfl rfl, am_memI 25 rfl rfl, ⟨by decide, by decide⟩, by decide +kernel, by decide⟩
set_option maxRecDepth 100000 in
theorem ok_X7_save : am_okM m_X7_save 0 := ⟨rfl, by decide, am_memI 419 rfl rfl, am_memI 25 rfl rfl, ⟨by decide, by decide⟩, by decide +kernel, by decide⟩
set_option maxRecDepth 100000 in
theorem ok_X7_dropOldestSaved : am_okM m_X7_dropOldestSaved 0 := ⟨rfl, by decide, am_memI 423 rfl rfl, am_memI 25 rfl rfl, ⟨by decide, by decide⟩, by decide +kernel, by decide⟩
set_option maxRecDepth 100000 in
theorem ok_X7_hasEntered : am_okM m_X7_hasEntered 1 := ⟨rfl, by decide, am_memI 560 rfl rfl, am_memI 25 rfl rfl, ⟨by decide, by decide⟩, by decide +kernel, by decide⟩
set_option maxRecDepth 100000 in
theorem ok_X7_keepDeparted : am_okM m_X7_keepDeparted 1 := ⟨rfl, by decide, am_memI 574 rfl rfl, am_memI 25 rfl rfl, ⟨by decide, by decide⟩, by decide +kernel, by decide⟩
set_option maxRecDepth 100000 in
theorem ok_X7_partProperty : am_okM m_X7_partProperty 2 := ⟨rfl, by decide, am_memI 694 rfl rfl, am_memI 25 rfl rfl, ⟨by decide, by decide⟩, by decide +kernel, by decide⟩
set_option maxRecDepth 100000 in
theorem ok_X7_sumOverParts : am_okM m_X7_sumOverParts 1 := ⟨rfl, by decide, am_memI 824 rfl rfl, am_memI 25 rfl rfl, ⟨by decide, by decide⟩, by decide +kernel, by decide⟩
set_option maxRecDepth 100000 in
theorem ok_X7_countFates : am_okM m_X7_countFates 2 := ⟨rfl, by decide, am_memI 813 rfl rfl, am_memI 25 rfl rfl, ⟨by decide, by decide⟩, by decide +kernel, by decide⟩
set_option maxRecDepth 100000 in
theorem ok_X7_startTrial : am_okM m_X7_startTrial 0 := ⟨rfl, by decide, am_memI 690 rfl rfl, am_memI 25 rfl rfl, ⟨by decide, by decide⟩, by decide +kernel, by decide⟩
set_option maxRecDepth 100000 in
theorem ok_L_cell : am_okM m_L_cell 2 := ⟨rfl, by decide, am_memI 293 rfl rfl, am_memI 24 rfl rfl, ⟨by decide, by decide⟩, by decide +kernel, by decide⟩
set_option maxRecDepth 100000 in
theorem ok_L_low : am_okM m_L_low 2 := ⟨rfl, by decide, am_memI 300 rfl rfl, am_memI 24 rfl rfl, ⟨by decide, by decide⟩, by decide +kernel, by decide⟩
set_option maxRecDepth 100000 in
theorem ok_L_set : am_okM m_L_set 3 := ⟨rfl, by decide, am_memI 304 rfl rfl, am_memI 24 rfl rfl, ⟨by decide, by decide⟩, by decide +kernel, by decide⟩
set_option maxRecDepth 100000 in
theorem ok_L_addLane : am_okM m_L_addLane 4 := ⟨rfl, by decide, am_memI 449 rfl rfl, am_memI 24 rfl rfl, ⟨by decide, by decide⟩, by decide +kernel, by decide⟩
set_option maxRecDepth 100000 in
theorem ok_L_emptyLane : am_okM m_L_emptyLane 2 := ⟨rfl, by decide, am_memI 464 rfl rfl, am_memI 24 rfl rfl, ⟨by decide, by decide⟩, by decide +kernel, by decide⟩
set_option maxRecDepth 100000 in
theorem ok_L_route : am_okM m_L_route 3 := ⟨rfl, by decide, am_memI 476 rfl rfl, am_memI 24 rfl rfl, ⟨by decide, by decide⟩, by decide +kernel, by decide⟩
set_option maxRecDepth 100000 in
theorem ok_L_removeRoute : am_okM m_L_removeRoute 2 := ⟨rfl, by decide, am_memI 497 rfl rfl, am_memI 24 rfl rfl, ⟨by decide, by decide⟩, by decide +kernel, by decide⟩
set_option maxRecDepth 100000 in
theorem ok_L_enter : am_okM m_L_enter 2 := ⟨rfl, by decide, am_memI 509 rfl rfl, am_memI 24 rfl rfl, ⟨by decide, by decide⟩, by decide +kernel, by decide⟩
set_option maxRecDepth 100000 in
theorem ok_L_read : am_okM m_L_read 2 := ⟨rfl, by decide, am_memI 537 rfl rfl, am_memI 24 rfl rfl, ⟨by decide, by decide⟩, by decide +kernel, by decide⟩
set_option maxRecDepth 100000 in
theorem ok_L_move : am_okM m_L_move 2 := ⟨rfl, by decide, am_memI 593 rfl rfl, am_memI 24 rfl rfl, ⟨by decide, by decide⟩, by decide +kernel, by decide⟩
set_option maxRecDepth 100000 in
theorem ok_L_takeOff : am_okM m_L_takeOff 2 := ⟨rfl, by decide, am_memI 552 rfl rfl, am_memI 24 rfl rfl, ⟨by decide, by decide⟩, by decide +kernel, by decide⟩
set_option maxRecDepth 100000 in
theorem ok_L_undo : am_okM m_L_undo 1 := ⟨rfl, by decide, am_memI 585 rfl rfl, am_memI 24 rfl rfl, ⟨by decide, by decide⟩, by decide +kernel, by decide⟩
set_option maxRecDepth 100000 in
theorem ok_L_part : am_okM m_L_part 3 := ⟨rfl, by decide, am_memI 848 rfl rfl, am_memI 24 rfl rfl, ⟨by decide, by decide⟩, by decide +kernel, by decide⟩
set_option maxRecDepth 100000 in
theorem ok_L_lane : am_okM m_L_lane 3 := ⟨rfl, by decide, am_memI 828 rfl rfl, am_memI 24 rfl rfl, ⟨by decide, by decide⟩, by decide +kernel, by decide⟩
set_option maxRecDepth 100000 in
theorem ok_L_total : am_okM m_L_total 2 := ⟨rfl, by decide, am_memI 816 rfl rfl, am_memI 24 rfl rfl, ⟨by decide, by decide⟩, by decide +kernel, by decide⟩
set_option maxRecDepth 100000 in
theorem ok_L_lost : am_okM m_L_lost 2 := ⟨rfl, by decide, am_memI 804 rfl rfl, am_memI 24 rfl rfl, ⟨by decide, by decide⟩, by decide +kernel, by decide⟩
set_option maxRecDepth 100000 in
theorem ok_L_setting : am_okM m_L_setting 2 := ⟨rfl, by decide, am_memI 855 rfl rfl, am_memI 24 rfl rfl, ⟨by decide, by decide⟩, by decide +kernel, by decide⟩
set_option maxRecDepth 100000 in
theorem ok_L_routeAt : am_okM m_L_routeAt 2 := ⟨rfl, by decide, am_memI 744 rfl rfl, am_memI 24 rfl rfl, ⟨by decide, by decide⟩, by decide +kernel, by decide⟩
set_option maxRecDepth 100000 in
theorem ok_L_gapAhead : am_okM m_L_gapAhead 2 := ⟨rfl, by decide, am_memI 736 rfl rfl, am_memI 24 rfl rfl, ⟨by decide, by decide⟩, by decide +kernel, by decide⟩
set_option maxRecDepth 100000 in
theorem ok_L_ranked : am_okM m_L_ranked 2 := ⟨rfl, by decide, am_memI 720 rfl rfl, am_memI 24 rfl rfl, ⟨by decide, by decide⟩, by decide +kernel, by decide⟩
set_option maxRecDepth 100000 in
theorem ok_L_fateOf : am_okM m_L_fateOf 2 := ⟨rfl, by decide, am_memI 682 rfl rfl, am_memI 24 rfl rfl, ⟨by decide, by decide⟩, by decide +kernel, by decide⟩
set_option maxRecDepth 100000 in
theorem ok_L_laneFor : am_okM m_L_laneFor 3 := ⟨rfl, by decide, am_memI 712 rfl rfl, am_memI 24 rfl rfl, ⟨by decide, by decide⟩, by decide +kernel, by decide⟩
set_option maxRecDepth 100000 in
theorem ok_L_change : am_okM m_L_change 3 := ⟨rfl, by decide, am_memI 297 rfl rfl, am_memI 24 rfl rfl, ⟨by decide, by decide⟩, by decide +kernel, by decide⟩
set_option maxRecDepth 100000 in
theorem ok_L_ask : am_okM m_L_ask 3 := ⟨rfl, by decide, am_memI 679 rfl rfl, am_memI 24 rfl rfl, ⟨by decide, by decide⟩, by decide +kernel, by decide⟩
set_option maxRecDepth 100000 in
theorem ok_L_isCounted : am_okM m_L_isCounted 1 := ⟨rfl, by decide, am_memI 801 rfl rfl, am_memI 24 rfl rfl, ⟨by decide, by decide⟩, by decide +kernel, by decide⟩
set_option maxRecDepth 100000 in
theorem ok_L_areApart : am_okM m_L_areApart 1 := ⟨rfl, by decide, am_memI 844 rfl rfl, am_memI 24 rfl rfl, ⟨by decide, by decide⟩, by decide +kernel, by decide⟩
set_option maxRecDepth 100000 in
theorem ok_L_areAlike : am_okM m_L_areAlike 2 := ⟨rfl, by decide, am_memI 862 rfl rfl, am_memI 24 rfl rfl, ⟨by decide, by decide⟩, by decide +kernel, by decide⟩
set_option maxRecDepth 100000 in
theorem mk_X0_3 : Cond.methodLink RX0 3 objectInit ∈ am_good := am_memI 152 rfl rfl
set_option maxRecDepth 100000 in
theorem oi : Cond.instanceMethod objectInit ∈ am_good := am_memI 47 rfl rfl
set_option maxRecDepth 100000 in
theorem oc : Cond.code objectInit ⟨#[0xb1]⟩ 1 none ∈ am_good := am_memI 48 rfl rfl
set_option maxRecDepth 100000 in
theorem fk_X0_9 : am_flk RX0 9 0 0 := ⟨by decide, by decide, am_memI 153 rfl rfl⟩
set_option maxRecDepth 100000 in
theorem fk_X0_15 : am_flk RX0 15 0 1 := ⟨by decide, by decide, am_memI 155 rfl rfl⟩
set_option maxRecDepth 100000 in
theorem fk_X0_18 : am_flk RX0 18 0 2 := ⟨by decide, by decide, am_memI 156 rfl rfl⟩
set_option maxRecDepth 100000 in
theorem fk_X0_21 : am_flk RX0 21 0 3 := ⟨by decide, by decide, am_memI 157 rfl rfl⟩
set_option maxRecDepth 100000 in
theorem fk_X0_24 : am_flk RX0 24 0 4 := ⟨by decide, by decide, am_memI 159 rfl rfl⟩
set_option maxRecDepth 100000 in
theorem mk_X1_3 : Cond.methodLink RX1 3 objectInit ∈ am_good := am_memI 56 rfl rfl
set_option maxRecDepth 100000 in
theorem ac_int : Cond.arrayClass .int ∈ am_good := am_memI 61 rfl rfl
set_option maxRecDepth 100000 in
theorem fk_X1_9 : am_flk RX1 9 1 0 := ⟨by decide, by decide, am_memI 57 rfl rfl⟩
set_option maxRecDepth 100000 in
theorem fk_X1_15 : am_flk RX1 15 2 0 := ⟨by decide, by decide, am_memI 176 rfl rfl⟩
set_option maxRecDepth 100000 in
theorem mk_X1_21 : Cond.methodLink RX1 21 yX2_property ∈ am_good := am_memI 579 rfl rfl
set_option maxRecDepth 100000 in
theorem im_X2_property : Cond.instanceMethod yX2_property ∈ am_good := am_memI 580 rfl rfl
set_option maxRecDepth 100000 in
theorem sl_X2_property : Cond.selects RX2 yX2_property yX2_property ∈ am_good := am_memI 581 rfl rfl
set_option maxRecDepth 100000 in
theorem mk_X2_3 : Cond.methodLink RX2 3 objectInit ∈ am_good := am_memI 175 rfl rfl
set_option maxRecDepth 100000 in
theorem fk_X2_9 : am_flk RX2 9 2 4 := ⟨by decide, by decide, am_memI 188 rfl rfl⟩
set_option maxRecDepth 100000 in
theorem fk_X2_15 : am_flk RX2 15 2 11 := ⟨by decide, by decide, am_memI 199 rfl rfl⟩
set_option maxRecDepth 100000 in
theorem fk_X2_18 : am_flk RX2 18 2 0 := ⟨by decide, by decide, am_memI 177 rfl rfl⟩
set_option maxRecDepth 100000 in
theorem fk_X2_21 : am_flk RX2 21 2 1 := ⟨by decide, by decide, am_memI 180 rfl rfl⟩
set_option maxRecDepth 100000 in
theorem fk_X2_24 : am_flk RX2 24 2 2 := ⟨by decide, by decide, am_memI 182 rfl rfl⟩
set_option maxRecDepth 100000 in
theorem fk_X2_27 : am_flk RX2 27 2 3 := ⟨by decide, by decide, am_memI 185 rfl rfl⟩
set_option maxRecDepth 100000 in
theorem fk_X2_30 : am_flk RX2 30 2 5 := ⟨by decide, by decide, am_memI 190 rfl rfl⟩
set_option maxRecDepth 100000 in
theorem fk_X2_34 : am_flk RX2 34 2 6 := ⟨by decide, by decide, am_memI 192 rfl rfl⟩
set_option maxRecDepth 100000 in
theorem fk_X2_37 : am_flk RX2 37 2 7 := ⟨by decide, by decide, am_memI 194 rfl rfl⟩
set_option maxRecDepth 100000 in
theorem fk_X2_40 : am_flk RX2 40 2 8 := ⟨by decide, by decide, am_memI 195 rfl rfl⟩
set_option maxRecDepth 100000 in
theorem fk_X2_43 : am_flk RX2 43 2 9 := ⟨by decide, by decide, am_memI 196 rfl rfl⟩
set_option maxRecDepth 100000 in
theorem fk_X2_46 : am_flk RX2 46 2 10 := ⟨by decide, by decide, am_memI 198 rfl rfl⟩
set_option maxRecDepth 100000 in
theorem mk_X3_3 : Cond.methodLink RX3 3 objectInit ∈ am_good := am_memI 134 rfl rfl
set_option maxRecDepth 100000 in
theorem fk_X3_9 : am_flk RX3 9 3 0 := ⟨by decide, by decide, am_memI 135 rfl rfl⟩
set_option maxRecDepth 100000 in
theorem fk_X3_15 : am_flk RX3 15 3 1 := ⟨by decide, by decide, am_memI 136 rfl rfl⟩
set_option maxRecDepth 100000 in
theorem mk_X3_18 : Cond.methodLink RX3 18 arraycopyName ∈ am_good := am_memI 439 rfl rfl
set_option maxRecDepth 100000 in
theorem acn : Cond.native arraycopyName ∈ am_good := am_memI 430 rfl rfl
set_option maxRecDepth 100000 in
theorem acs : Cond.static arraycopyName ∈ am_good := am_memI 429 rfl rfl
set_option maxRecDepth 100000 in
theorem aci : Cond.initialized "java/lang/System" ∈ am_good := am_memI 37 rfl rfl
set_option maxRecDepth 100000 in
theorem fk_X3_24 : am_flk RX3 24 3 2 := ⟨by decide, by decide, am_memI 137 rfl rfl⟩
set_option maxRecDepth 100000 in
theorem mk_X3_28 : Cond.methodLink RX3 28 yX3_placeFor ∈ am_good := am_memI 486 rfl rfl
set_option maxRecDepth 100000 in
theorem im_X3_placeFor : Cond.instanceMethod yX3_placeFor ∈ am_good := am_memI 488 rfl rfl
set_option maxRecDepth 100000 in
theorem sl_X3_placeFor : Cond.selects RX3 yX3_placeFor yX3_placeFor ∈ am_good := am_memI 4 rfl rfl
set_option maxRecDepth 100000 in
theorem mk_X4_3 : Cond.methodLink RX4 3 objectInit ∈ am_good := am_memI 85 rfl rfl
set_option maxRecDepth 100000 in
theorem ac_char : Cond.arrayClass .char ∈ am_good := am_memI 79 rfl rfl
set_option maxRecDepth 100000 in
theorem fk_X4_9 : am_flk RX4 9 4 0 := ⟨by decide, by decide, am_memI 86 rfl rfl⟩
set_option maxRecDepth 100000 in
theorem fk_X4_15 : am_flk RX4 15 4 1 := ⟨by decide, by decide, am_memI 87 rfl rfl⟩
set_option maxRecDepth 100000 in
theorem fk_X4_19 : am_flk RX4 19 4 2 := ⟨by decide, by decide, am_memI 88 rfl rfl⟩
set_option maxRecDepth 100000 in
theorem fk_X4_22 : am_flk RX4 22 4 3 := ⟨by decide, by decide, am_memI 89 rfl rfl⟩
set_option maxRecDepth 100000 in
theorem fk_X4_25 : am_flk RX4 25 4 4 := ⟨by decide, by decide, am_memI 90 rfl rfl⟩
set_option maxRecDepth 100000 in
theorem fk_X4_29 : am_flk RX4 29 4 5 := ⟨by decide, by decide, am_memI 91 rfl rfl⟩
set_option maxRecDepth 100000 in
theorem mk_X4_32 : Cond.methodLink RX4 32 yX4_addNode ∈ am_good := am_memI 109 rfl rfl
set_option maxRecDepth 100000 in
theorem im_X4_addNode : Cond.instanceMethod yX4_addNode ∈ am_good := am_memI 111 rfl rfl
set_option maxRecDepth 100000 in
theorem sl_X4_addNode : Cond.selects RX4 yX4_addNode yX4_addNode ∈ am_good := am_memI 0 rfl rfl
set_option maxRecDepth 100000 in
theorem mk_X4_36 : Cond.methodLink RX4 36 yX4_holds ∈ am_good := am_memI 618 rfl rfl
set_option maxRecDepth 100000 in
theorem sm_X4_holds : Cond.static yX4_holds ∈ am_good := am_memI 619 rfl rfl
set_option maxRecDepth 100000 in
theorem mk_X5_3 : Cond.methodLink RX5 3 objectInit ∈ am_good := am_memI 67 rfl rfl
set_option maxRecDepth 100000 in
theorem fk_X5_9 : am_flk RX5 9 5 0 := ⟨by decide, by decide, am_memI 68 rfl rfl⟩
set_option maxRecDepth 100000 in
theorem fk_X5_19 : am_flk RX5 19 5 2 := ⟨by decide, by decide, am_memI 71 rfl rfl⟩
set_option maxRecDepth 100000 in
theorem mk_X5_22 : Cond.methodLink RX5 22 yX4_restart ∈ am_good := am_memI 762 rfl rfl
set_option maxRecDepth 100000 in
theorem im_X4_restart : Cond.instanceMethod yX4_restart ∈ am_good := am_memI 763 rfl rfl
set_option maxRecDepth 100000 in
theorem sl_X4_restart : Cond.selects RX4 yX4_restart yX4_restart ∈ am_good := am_memI 764 rfl rfl
set_option maxRecDepth 100000 in
theorem mk_X5_27 : Cond.methodLink RX5 27 yX5_takesRule ∈ am_good := am_memI 766 rfl rfl
set_option maxRecDepth 100000 in
theorem im_X5_takesRule : Cond.instanceMethod yX5_takesRule ∈ am_good := am_memI 768 rfl rfl
set_option maxRecDepth 100000 in
theorem sl_X5_takesRule : Cond.selects RX5 yX5_takesRule yX5_takesRule ∈ am_good := am_memI 16 rfl rfl
set_option maxRecDepth 100000 in
theorem fk_X5_15 : am_flk RX5 15 5 1 := ⟨by decide, by decide, am_memI 69 rfl rfl⟩
set_option maxRecDepth 100000 in
theorem mk_X5_31 : Cond.methodLink RX5 31 yX5_nextSign ∈ am_good := am_memI 770 rfl rfl
set_option maxRecDepth 100000 in
theorem im_X5_nextSign : Cond.instanceMethod yX5_nextSign ∈ am_good := am_memI 772 rfl rfl
set_option maxRecDepth 100000 in
theorem sl_X5_nextSign : Cond.selects RX5 yX5_nextSign yX5_nextSign ∈ am_good := am_memI 17 rfl rfl
set_option maxRecDepth 100000 in
theorem mk_X5_35 : Cond.methodLink RX5 35 yX4_addLeaf ∈ am_good := am_memI 774 rfl rfl
set_option maxRecDepth 100000 in
theorem im_X4_addLeaf : Cond.instanceMethod yX4_addLeaf ∈ am_good := am_memI 106 rfl rfl
set_option maxRecDepth 100000 in
theorem sl_X4_addLeaf : Cond.selects RX4 yX4_addLeaf yX4_addLeaf ∈ am_good := am_memI 107 rfl rfl
set_option maxRecDepth 100000 in
theorem mk_X5_39 : Cond.methodLink RX5 39 yX5_takesChoice ∈ am_good := am_memI 775 rfl rfl
set_option maxRecDepth 100000 in
theorem im_X5_takesChoice : Cond.instanceMethod yX5_takesChoice ∈ am_good := am_memI 777 rfl rfl
set_option maxRecDepth 100000 in
theorem sl_X5_takesChoice : Cond.selects RX5 yX5_takesChoice yX5_takesChoice ∈ am_good := am_memI 18 rfl rfl
set_option maxRecDepth 100000 in
theorem mk_X5_42 : Cond.methodLink RX5 42 yX5_takesSign ∈ am_good := am_memI 779 rfl rfl
set_option maxRecDepth 100000 in
theorem im_X5_takesSign : Cond.instanceMethod yX5_takesSign ∈ am_good := am_memI 781 rfl rfl
set_option maxRecDepth 100000 in
theorem sl_X5_takesSign : Cond.selects RX5 yX5_takesSign yX5_takesSign ∈ am_good := am_memI 19 rfl rfl
set_option maxRecDepth 100000 in
theorem mk_X5_46 : Cond.methodLink RX5 46 yX5_takeCondition ∈ am_good := am_memI 783 rfl rfl
set_option maxRecDepth 100000 in
theorem im_X5_takeCondition : Cond.instanceMethod yX5_takeCondition ∈ am_good := am_memI 785 rfl rfl
set_option maxRecDepth 100000 in
theorem sl_X5_takeCondition : Cond.selects RX5 yX5_takeCondition yX5_takeCondition ∈ am_good := am_memI 20 rfl rfl
set_option maxRecDepth 100000 in
theorem mk_X5_50 : Cond.methodLink RX5 50 yX4_otherwise ∈ am_good := am_memI 795 rfl rfl
set_option maxRecDepth 100000 in
theorem im_X4_otherwise : Cond.instanceMethod yX4_otherwise ∈ am_good := am_memI 796 rfl rfl
set_option maxRecDepth 100000 in
theorem sl_X4_otherwise : Cond.selects RX4 yX4_otherwise yX4_otherwise ∈ am_good := am_memI 797 rfl rfl
set_option maxRecDepth 100000 in
theorem mk_X5_53 : Cond.methodLink RX5 53 yX5_takeNumber ∈ am_good := am_memI 787 rfl rfl
set_option maxRecDepth 100000 in
theorem im_X5_takeNumber : Cond.instanceMethod yX5_takeNumber ∈ am_good := am_memI 789 rfl rfl
set_option maxRecDepth 100000 in
theorem sl_X5_takeNumber : Cond.selects RX5 yX5_takeNumber yX5_takeNumber ∈ am_good := am_memI 21 rfl rfl
set_option maxRecDepth 100000 in
theorem mk_X5_56 : Cond.methodLink RX5 56 yX4_addCondition ∈ am_good := am_memI 791 rfl rfl
set_option maxRecDepth 100000 in
theorem im_X4_addCondition : Cond.instanceMethod yX4_addCondition ∈ am_good := am_memI 792 rfl rfl
set_option maxRecDepth 100000 in
theorem sl_X4_addCondition : Cond.selects RX4 yX4_addCondition yX4_addCondition ∈ am_good := am_memI 793 rfl rfl
set_option maxRecDepth 100000 in
theorem mk_X6_3 : Cond.methodLink RX6 3 objectInit ∈ am_good := am_memI 117 rfl rfl
set_option maxRecDepth 100000 in
theorem mk_X6_13 : Cond.methodLink RX6 13 am_cln ∈ am_good := am_memI 120 rfl rfl
set_option maxRecDepth 100000 in
theorem cls : Cond.sameMethod "[I" "java/lang/Object" "clone" "()Ljava/lang/Object;" ∈ am_good := am_memI 121 rfl rfl
set_option maxRecDepth 100000 in
theorem cln : Cond.native am_clo ∈ am_good := am_memI 122 rfl rfl
set_option maxRecDepth 100000 in
theorem cli : Cond.instanceMethod am_clo ∈ am_good := am_memI 123 rfl rfl
set_option maxRecDepth 100000 in
theorem clx : Cond.selects "[I" am_cln am_clo ∈ am_good := am_memI 124 rfl rfl
set_option maxRecDepth 100000 in
theorem qk_X6_14 : Cond.classLink RX6 14 "[I" ∈ am_good := am_memI 126 rfl rfl
set_option maxRecDepth 100000 in
theorem fk_X6_18 : am_flk RX6 18 6 0 := ⟨by decide, by decide, am_memI 226 rfl rfl⟩
set_option maxRecDepth 100000 in
theorem qk_X6_23 : Cond.classLink RX6 23 "PickScanner$Lane" ∈ am_good := am_memI 127 rfl rfl
set_option maxRecDepth 100000 in
theorem fk_X6_25 : am_flk RX6 25 6 1 := ⟨by decide, by decide, am_memI 228 rfl rfl⟩
set_option maxRecDepth 100000 in
theorem ck_X6_29 : Cond.classLink RX6 29 (am_R 3) ∈ am_good := am_memI 129 rfl rfl
set_option maxRecDepth 100000 in
theorem in_3 : Cond.instantiable (am_R 3) (am_nf 3) ∈ am_good := am_memI 130 rfl rfl
set_option maxRecDepth 100000 in
theorem ii_3 : Cond.initialized (am_R 3) ∈ am_good := am_memI 30 rfl rfl
set_option maxRecDepth 100000 in
theorem im_X3_init : Cond.instanceMethod yX3_init ∈ am_good := am_memI 132 rfl rfl
set_option maxRecDepth 100000 in
theorem fk_X6_32 : am_flk RX6 32 6 3 := ⟨by decide, by decide, am_memI 232 rfl rfl⟩
set_option maxRecDepth 100000 in
theorem qk_X6_36 : Cond.classLink RX6 36 "PickScanner$Part" ∈ am_good := am_memI 146 rfl rfl
set_option maxRecDepth 100000 in
theorem fk_X6_38 : am_flk RX6 38 6 5 := ⟨by decide, by decide, am_memI 235 rfl rfl⟩
set_option maxRecDepth 100000 in
theorem fk_X6_42 : am_flk RX6 42 6 4 := ⟨by decide, by decide, am_memI 234 rfl rfl⟩
set_option maxRecDepth 100000 in
theorem ck_X6_23 : Cond.classLink RX6 23 (am_R 0) ∈ am_good := am_memI 127 rfl rfl
set_option maxRecDepth 100000 in
theorem in_0 : Cond.instantiable (am_R 0) (am_nf 0) ∈ am_good := am_memI 148 rfl rfl
set_option maxRecDepth 100000 in
theorem ii_0 : Cond.initialized (am_R 0) ∈ am_good := am_memI 31 rfl rfl
set_option maxRecDepth 100000 in
theorem im_X0_init : Cond.instanceMethod yX0_init ∈ am_good := am_memI 150 rfl rfl
set_option maxRecDepth 100000 in
theorem ck_X6_36 : Cond.classLink RX6 36 (am_R 2) ∈ am_good := am_memI 146 rfl rfl
set_option maxRecDepth 100000 in
theorem in_2 : Cond.instantiable (am_R 2) (am_nf 2) ∈ am_good := am_memI 171 rfl rfl
set_option maxRecDepth 100000 in
theorem ii_2 : Cond.initialized (am_R 2) ∈ am_good := am_memI 32 rfl rfl
set_option maxRecDepth 100000 in
theorem im_X2_init : Cond.instanceMethod yX2_init ∈ am_good := am_memI 173 rfl rfl
set_option maxRecDepth 100000 in
theorem mk_X6_48 : Cond.methodLink RX6 48 arraycopyName ∈ am_good := am_memI 428 rfl rfl
set_option maxRecDepth 100000 in
theorem fk_X6_54 : am_flk RX6 54 6 2 := ⟨by decide, by decide, am_memI 230 rfl rfl⟩
set_option maxRecDepth 100000 in
theorem mk_X6_62 : Cond.methodLink RX6 62 yX3_copyFrom ∈ am_good := am_memI 435 rfl rfl
set_option maxRecDepth 100000 in
theorem im_X3_copyFrom : Cond.instanceMethod yX3_copyFrom ∈ am_good := am_memI 436 rfl rfl
set_option maxRecDepth 100000 in
theorem sl_X3_copyFrom : Cond.selects RX3 yX3_copyFrom yX3_copyFrom ∈ am_good := am_memI 437 rfl rfl
set_option maxRecDepth 100000 in
theorem fk_X6_65 : am_flk RX6 65 6 6 := ⟨by decide, by decide, am_memI 238 rfl rfl⟩
set_option maxRecDepth 100000 in
theorem mk_X6_58 : Cond.methodLink RX6 58 yX0_copyFrom ∈ am_good := am_memI 431 rfl rfl
set_option maxRecDepth 100000 in
theorem im_X0_copyFrom : Cond.instanceMethod yX0_copyFrom ∈ am_good := am_memI 432 rfl rfl
set_option maxRecDepth 100000 in
theorem sl_X0_copyFrom : Cond.selects RX0 yX0_copyFrom yX0_copyFrom ∈ am_good := am_memI 433 rfl rfl
set_option maxRecDepth 100000 in
theorem fk_X6_71 : am_flk RX6 71 6 7 := ⟨by decide, by decide, am_memI 239 rfl rfl⟩
set_option maxRecDepth 100000 in
theorem fk_X6_74 : am_flk RX6 74 6 8 := ⟨by decide, by decide, am_memI 241 rfl rfl⟩
set_option maxRecDepth 100000 in
theorem fk_X6_77 : am_flk RX6 77 6 9 := ⟨by decide, by decide, am_memI 243 rfl rfl⟩
set_option maxRecDepth 100000 in
theorem mk_X6_68 : Cond.methodLink RX6 68 yX2_copyFrom ∈ am_good := am_memI 440 rfl rfl
set_option maxRecDepth 100000 in
theorem im_X2_copyFrom : Cond.instanceMethod yX2_copyFrom ∈ am_good := am_memI 441 rfl rfl
set_option maxRecDepth 100000 in
theorem sl_X2_copyFrom : Cond.selects RX2 yX2_copyFrom yX2_copyFrom ∈ am_good := am_memI 442 rfl rfl
set_option maxRecDepth 100000 in
theorem fk_X6_80 : am_flk RX6 80 2 0 := ⟨by decide, by decide, am_memI 178 rfl rfl⟩
set_option maxRecDepth 100000 in
theorem mk_X6_83 : Cond.methodLink RX6 83 yX2_tail ∈ am_good := am_memI 519 rfl rfl
set_option maxRecDepth 100000 in
theorem im_X2_tail : Cond.instanceMethod yX2_tail ∈ am_good := am_memI 520 rfl rfl
set_option maxRecDepth 100000 in
theorem sl_X2_tail : Cond.selects RX2 yX2_tail yX2_tail ∈ am_good := am_memI 521 rfl rfl
set_option maxRecDepth 100000 in
theorem fk_X6_87 : am_flk RX6 87 2 2 := ⟨by decide, by decide, am_memI 183 rfl rfl⟩
set_option maxRecDepth 100000 in
theorem lc_X6_90 : Cond.constant RX6 90 (Int32.ofInt 1000000) ∈ am_good := am_memI 523 rfl rfl
set_option maxRecDepth 100000 in
theorem mk_X6_91 : Cond.methodLink RX6 91 yX2_begin ∈ am_good := am_memI 530 rfl rfl
set_option maxRecDepth 100000 in
theorem im_X2_begin : Cond.instanceMethod yX2_begin ∈ am_good := am_memI 531 rfl rfl
set_option maxRecDepth 100000 in
theorem sl_X2_begin : Cond.selects RX2 yX2_begin yX2_begin ∈ am_good := am_memI 532 rfl rfl
set_option maxRecDepth 100000 in
theorem mk_X6_95 : Cond.methodLink RX6 95 yX6_freeAtEntry ∈ am_good := am_memI 534 rfl rfl
set_option maxRecDepth 100000 in
theorem im_X6_freeAtEntry : Cond.instanceMethod yX6_freeAtEntry ∈ am_good := am_memI 516 rfl rfl
set_option maxRecDepth 100000 in
theorem sl_X6_freeAtEntry : Cond.selects RX6 yX6_freeAtEntry yX6_freeAtEntry ∈ am_good := am_memI 517 rfl rfl
set_option maxRecDepth 100000 in
theorem fk_X6_98 : am_flk RX6 98 2 6 := ⟨by decide, by decide, am_memI 193 rfl rfl⟩
set_option maxRecDepth 100000 in
theorem fk_X6_102 : am_flk RX6 102 2 4 := ⟨by decide, by decide, am_memI 189 rfl rfl⟩
set_option maxRecDepth 100000 in
theorem fk_X6_105 : am_flk RX6 105 2 5 := ⟨by decide, by decide, am_memI 191 rfl rfl⟩
set_option maxRecDepth 100000 in
theorem fk_X6_108 : am_flk RX6 108 2 1 := ⟨by decide, by decide, am_memI 181 rfl rfl⟩
set_option maxRecDepth 100000 in
theorem mk_X6_111 : Cond.methodLink RX6 111 yX6_laneGiven ∈ am_good := am_memI 609 rfl rfl
set_option maxRecDepth 100000 in
theorem im_X6_laneGiven : Cond.instanceMethod yX6_laneGiven ∈ am_good := am_memI 610 rfl rfl
set_option maxRecDepth 100000 in
theorem sl_X6_laneGiven : Cond.selects RX6 yX6_laneGiven yX6_laneGiven ∈ am_good := am_memI 611 rfl rfl
set_option maxRecDepth 100000 in
theorem mk_X6_115 : Cond.methodLink RX6 115 yX3_laneOf ∈ am_good := am_memI 613 rfl rfl
set_option maxRecDepth 100000 in
theorem im_X3_laneOf : Cond.instanceMethod yX3_laneOf ∈ am_good := am_memI 483 rfl rfl
set_option maxRecDepth 100000 in
theorem sl_X3_laneOf : Cond.selects RX3 yX3_laneOf yX3_laneOf ∈ am_good := am_memI 484 rfl rfl
set_option maxRecDepth 100000 in
theorem mk_X6_124 : Cond.methodLink RX6 124 yX6_hasLane ∈ am_good := am_memI 621 rfl rfl
set_option maxRecDepth 100000 in
theorem im_X6_hasLane : Cond.instanceMethod yX6_hasLane ∈ am_good := am_memI 470 rfl rfl
set_option maxRecDepth 100000 in
theorem sl_X6_hasLane : Cond.selects RX6 yX6_hasLane yX6_hasLane ∈ am_good := am_memI 471 rfl rfl
set_option maxRecDepth 100000 in
theorem mk_X6_119 : Cond.methodLink RX6 119 yX4_laneBy ∈ am_good := am_memI 614 rfl rfl
set_option maxRecDepth 100000 in
theorem im_X4_laneBy : Cond.instanceMethod yX4_laneBy ∈ am_good := am_memI 615 rfl rfl
set_option maxRecDepth 100000 in
theorem sl_X4_laneBy : Cond.selects RX4 yX4_laneBy yX4_laneBy ∈ am_good := am_memI 616 rfl rfl
set_option maxRecDepth 100000 in
theorem fk_X6_134 : am_flk RX6 134 6 10 := ⟨by decide, by decide, am_memI 245 rfl rfl⟩
set_option maxRecDepth 100000 in
theorem mk_X6_128 : Cond.methodLink RX6 128 yX6_laneOf ∈ am_good := am_memI 605 rfl rfl
set_option maxRecDepth 100000 in
theorem im_X6_laneOf : Cond.instanceMethod yX6_laneOf ∈ am_good := am_memI 606 rfl rfl
set_option maxRecDepth 100000 in
theorem sl_X6_laneOf : Cond.selects RX6 yX6_laneOf yX6_laneOf ∈ am_good := am_memI 607 rfl rfl
set_option maxRecDepth 100000 in
theorem fk_X6_131 : am_flk RX6 131 2 11 := ⟨by decide, by decide, am_memI 200 rfl rfl⟩
set_option maxRecDepth 100000 in
theorem mk_X6_148 : Cond.methodLink RX6 148 yX6_advance ∈ am_good := am_memI 640 rfl rfl
set_option maxRecDepth 100000 in
theorem im_X6_advance : Cond.instanceMethod yX6_advance ∈ am_good := am_memI 642 rfl rfl
set_option maxRecDepth 100000 in
theorem sl_X6_advance : Cond.selects RX6 yX6_advance yX6_advance ∈ am_good := am_memI 8 rfl rfl
set_option maxRecDepth 100000 in
theorem mk_X6_152 : Cond.methodLink RX6 152 yX6_divertParts ∈ am_good := am_memI 644 rfl rfl
set_option maxRecDepth 100000 in
theorem im_X6_divertParts : Cond.instanceMethod yX6_divertParts ∈ am_good := am_memI 646 rfl rfl
set_option maxRecDepth 100000 in
theorem sl_X6_divertParts : Cond.selects RX6 yX6_divertParts yX6_divertParts ∈ am_good := am_memI 9 rfl rfl
set_option maxRecDepth 100000 in
theorem mk_X6_155 : Cond.methodLink RX6 155 yX6_loseParts ∈ am_good := am_memI 669 rfl rfl
set_option maxRecDepth 100000 in
theorem im_X6_loseParts : Cond.instanceMethod yX6_loseParts ∈ am_good := am_memI 671 rfl rfl
set_option maxRecDepth 100000 in
theorem sl_X6_loseParts : Cond.selects RX6 yX6_loseParts yX6_loseParts ∈ am_good := am_memI 12 rfl rfl
set_option maxRecDepth 100000 in
theorem mk_X6_137 : Cond.methodLink RX6 137 yX6_quietMillimeters ∈ am_good := am_memI 626 rfl rfl
set_option maxRecDepth 100000 in
theorem im_X6_quietMillimeters : Cond.instanceMethod yX6_quietMillimeters ∈ am_good := am_memI 628 rfl rfl
set_option maxRecDepth 100000 in
theorem sl_X6_quietMillimeters : Cond.selects RX6 yX6_quietMillimeters yX6_quietMillimeters ∈ am_good := am_memI 7 rfl rfl
set_option maxRecDepth 100000 in
theorem mk_X6_140 : Cond.methodLink RX6 140 Lib.Math.min.name ∈ am_good := am_memI 630 rfl rfl
set_option maxRecDepth 100000 in
theorem ms_min : Cond.static Lib.Math.min.name ∈ am_good := am_memI 631 rfl rfl
set_option maxRecDepth 100000 in
theorem mi : Cond.initialized "java/lang/Math" ∈ am_good := am_memI 38 rfl rfl
set_option maxRecDepth 100000 in
theorem mc_min : Cond.code Lib.Math.min.name Lib.Math.min.code 2 (some .int) ∈ am_good := am_memI 632 rfl rfl
set_option maxRecDepth 100000 in
theorem mk_X6_145 : Cond.methodLink RX6 145 Lib.Math.max.name ∈ am_good := am_memI 637 rfl rfl
set_option maxRecDepth 100000 in
theorem ms_max : Cond.static Lib.Math.max.name ∈ am_good := am_memI 638 rfl rfl
set_option maxRecDepth 100000 in
theorem mc_max : Cond.code Lib.Math.max.name Lib.Math.max.code 2 (some .int) ∈ am_good := am_memI 639 rfl rfl
set_option maxRecDepth 100000 in
theorem fk_X6_158 : am_flk RX6 158 0 0 := ⟨by decide, by decide, am_memI 154 rfl rfl⟩
set_option maxRecDepth 100000 in
theorem mk_X6_161 : Cond.methodLink RX6 161 yX2_middle ∈ am_good := am_memI 633 rfl rfl
set_option maxRecDepth 100000 in
theorem im_X2_middle : Cond.instanceMethod yX2_middle ∈ am_good := am_memI 634 rfl rfl
set_option maxRecDepth 100000 in
theorem sl_X2_middle : Cond.selects RX2 yX2_middle yX2_middle ∈ am_good := am_memI 635 rfl rfl
set_option maxRecDepth 100000 in
theorem mk_X6_164 : Cond.methodLink RX6 164 yX6_diverts ∈ am_good := am_memI 648 rfl rfl
set_option maxRecDepth 100000 in
theorem im_X6_diverts : Cond.instanceMethod yX6_diverts ∈ am_good := am_memI 650 rfl rfl
set_option maxRecDepth 100000 in
theorem sl_X6_diverts : Cond.selects RX6 yX6_diverts yX6_diverts ∈ am_good := am_memI 10 rfl rfl
set_option maxRecDepth 100000 in
theorem mk_X6_167 : Cond.methodLink RX6 167 yX6_leave ∈ am_good := am_memI 668 rfl rfl
set_option maxRecDepth 100000 in
theorem im_X6_leave : Cond.instanceMethod yX6_leave ∈ am_good := am_memI 568 rfl rfl
set_option maxRecDepth 100000 in
theorem sl_X6_leave : Cond.selects RX6 yX6_leave yX6_leave ∈ am_good := am_memI 569 rfl rfl
set_option maxRecDepth 100000 in
theorem mk_X6_170 : Cond.methodLink RX6 170 yX0_covers ∈ am_good := am_memI 652 rfl rfl
set_option maxRecDepth 100000 in
theorem im_X0_covers : Cond.instanceMethod yX0_covers ∈ am_good := am_memI 653 rfl rfl
set_option maxRecDepth 100000 in
theorem sl_X0_covers : Cond.selects RX0 yX0_covers yX0_covers ∈ am_good := am_memI 654 rfl rfl
set_option maxRecDepth 100000 in
theorem mk_X6_173 : Cond.methodLink RX6 173 yX6_hasGaps ∈ am_good := am_memI 656 rfl rfl
set_option maxRecDepth 100000 in
theorem im_X6_hasGaps : Cond.instanceMethod yX6_hasGaps ∈ am_good := am_memI 658 rfl rfl
set_option maxRecDepth 100000 in
theorem sl_X6_hasGaps : Cond.selects RX6 yX6_hasGaps yX6_hasGaps ∈ am_good := am_memI 11 rfl rfl
set_option maxRecDepth 100000 in
theorem mk_X6_179 : Cond.methodLink RX6 179 yX0_takes ∈ am_good := am_memI 664 rfl rfl
set_option maxRecDepth 100000 in
theorem im_X0_takes : Cond.instanceMethod yX0_takes ∈ am_good := am_memI 665 rfl rfl
set_option maxRecDepth 100000 in
theorem sl_X0_takes : Cond.selects RX0 yX0_takes yX0_takes ∈ am_good := am_memI 666 rfl rfl
set_option maxRecDepth 100000 in
theorem fk_X6_176 : am_flk RX6 176 2 9 := ⟨by decide, by decide, am_memI 197 rfl rfl⟩
set_option maxRecDepth 100000 in
theorem mk_X6_183 : Cond.methodLink RX6 183 yX6_gapBetween ∈ am_good := am_memI 660 rfl rfl
set_option maxRecDepth 100000 in
theorem im_X6_gapBetween : Cond.instanceMethod yX6_gapBetween ∈ am_good := am_memI 661 rfl rfl
set_option maxRecDepth 100000 in
theorem sl_X6_gapBetween : Cond.selects RX6 yX6_gapBetween yX6_gapBetween ∈ am_good := am_memI 662 rfl rfl
set_option maxRecDepth 100000 in
theorem mk_X6_186 : Cond.methodLink RX6 186 yX2_reason ∈ am_good := am_memI 673 rfl rfl
set_option maxRecDepth 100000 in
theorem im_X2_reason : Cond.instanceMethod yX2_reason ∈ am_good := am_memI 674 rfl rfl
set_option maxRecDepth 100000 in
theorem sl_X2_reason : Cond.selects RX2 yX2_reason yX2_reason ∈ am_good := am_memI 675 rfl rfl
set_option maxRecDepth 100000 in
theorem fk_X6_189 : am_flk RX6 189 2 3 := ⟨by decide, by decide, am_memI 186 rfl rfl⟩
set_option maxRecDepth 100000 in
theorem mk_X6_192 : Cond.methodLink RX6 192 yX6_distanceToLane ∈ am_good := am_memI 730 rfl rfl
set_option maxRecDepth 100000 in
theorem im_X6_distanceToLane : Cond.instanceMethod yX6_distanceToLane ∈ am_good := am_memI 732 rfl rfl
set_option maxRecDepth 100000 in
theorem sl_X6_distanceToLane : Cond.selects RX6 yX6_distanceToLane yX6_distanceToLane ∈ am_good := am_memI 15 rfl rfl
set_option maxRecDepth 100000 in
theorem mk_X7_1 : Cond.methodLink RX7 1 objectInit ∈ am_good := am_memI 46 rfl rfl
set_option maxRecDepth 100000 in
theorem qk_X7_9 : Cond.classLink RX7 9 "PickScanner$State" ∈ am_good := am_memI 49 rfl rfl
set_option maxRecDepth 100000 in
theorem fk_X7_11 : am_flk RX7 11 7 2 := ⟨by decide, by decide, am_memI 271 rfl rfl⟩
set_option maxRecDepth 100000 in
theorem ck_X7_15 : Cond.classLink RX7 15 (am_R 1) ∈ am_good := am_memI 51 rfl rfl
set_option maxRecDepth 100000 in
theorem in_1 : Cond.instantiable (am_R 1) (am_nf 1) ∈ am_good := am_memI 52 rfl rfl
set_option maxRecDepth 100000 in
theorem ii_1 : Cond.initialized (am_R 1) ∈ am_good := am_memI 26 rfl rfl
set_option maxRecDepth 100000 in
theorem im_X1_init : Cond.instanceMethod yX1_init ∈ am_good := am_memI 54 rfl rfl
set_option maxRecDepth 100000 in
theorem fk_X7_18 : am_flk RX7 18 7 4 := ⟨by decide, by decide, am_memI 273 rfl rfl⟩
set_option maxRecDepth 100000 in
theorem ck_X7_22 : Cond.classLink RX7 22 (am_R 5) ∈ am_good := am_memI 62 rfl rfl
set_option maxRecDepth 100000 in
theorem in_5 : Cond.instantiable (am_R 5) (am_nf 5) ∈ am_good := am_memI 63 rfl rfl
set_option maxRecDepth 100000 in
theorem ii_5 : Cond.initialized (am_R 5) ∈ am_good := am_memI 27 rfl rfl
set_option maxRecDepth 100000 in
theorem im_X5_init : Cond.instanceMethod yX5_init ∈ am_good := am_memI 65 rfl rfl
set_option maxRecDepth 100000 in
theorem fk_X7_25 : am_flk RX7 25 7 5 := ⟨by decide, by decide, am_memI 274 rfl rfl⟩
set_option maxRecDepth 100000 in
theorem ck_X7_29 : Cond.classLink RX7 29 (am_R 4) ∈ am_good := am_memI 80 rfl rfl
set_option maxRecDepth 100000 in
theorem in_4 : Cond.instantiable (am_R 4) (am_nf 4) ∈ am_good := am_memI 81 rfl rfl
set_option maxRecDepth 100000 in
theorem ii_4 : Cond.initialized (am_R 4) ∈ am_good := am_memI 28 rfl rfl
set_option maxRecDepth 100000 in
theorem im_X4_init : Cond.instanceMethod yX4_init ∈ am_good := am_memI 83 rfl rfl
set_option maxRecDepth 100000 in
theorem fk_X7_32 : am_flk RX7 32 7 6 := ⟨by decide, by decide, am_memI 275 rfl rfl⟩
set_option maxRecDepth 100000 in
theorem mk_X7_36 : Cond.methodLink RX7 36 yX4_addLeaf ∈ am_good := am_memI 105 rfl rfl
set_option maxRecDepth 100000 in
theorem ck_X7_9 : Cond.classLink RX7 9 (am_R 6) ∈ am_good := am_memI 49 rfl rfl
set_option maxRecDepth 100000 in
theorem in_6 : Cond.instantiable (am_R 6) (am_nf 6) ∈ am_good := am_memI 113 rfl rfl
set_option maxRecDepth 100000 in
theorem ii_6 : Cond.initialized (am_R 6) ∈ am_good := am_memI 29 rfl rfl
set_option maxRecDepth 100000 in
theorem im_X6_init : Cond.instanceMethod yX6_init ∈ am_good := am_memI 115 rfl rfl
set_option maxRecDepth 100000 in
theorem mk_X7_40 : Cond.methodLink RX7 40 yX6_init ∈ am_good := am_memI 114 rfl rfl
set_option maxRecDepth 100000 in
theorem fk_X7_43 : am_flk RX7 43 7 0 := ⟨by decide, by decide, am_memI 269 rfl rfl⟩
set_option maxRecDepth 100000 in
theorem fk_X7_47 : am_flk RX7 47 7 1 := ⟨by decide, by decide, am_memI 270 rfl rfl⟩
set_option maxRecDepth 100000 in
theorem ck_X7_50 : Cond.classLink RX7 50 (am_exn 0) ∈ am_good := am_memI 312 rfl rfl
set_option maxRecDepth 100000 in
theorem xi_0 : Cond.initialized (am_exn 0) ∈ am_good := am_memI 36 rfl rfl
set_option maxRecDepth 100000 in
theorem xt_X7_54 : ∀ w ∈ vx_atS RX7 54 (am_exn 0) ["java/lang/RuntimeException", "java/lang/Exception"], w ∈ am_good ∨ w ∈ am_xtra 0 := fun w hw => of_decide_eq_true (List.all_eq_true.mp (show (vx_atS RX7 54 (am_exn 0) ["java/lang/RuntimeException", "java/lang/Exception"]).all (fun w => decide (w ∈ am_good ∨ w ∈ am_xtra 0)) = true by decide +kernel) w hw)
set_option maxRecDepth 100000 in
theorem sk_X7_57 : Cond.fieldLink RX7 57 "PickScanner" "LEAST_SETTINGS" "[I" ∈ am_good := am_memI 380 rfl rfl
set_option maxRecDepth 100000 in
theorem ck_X7_64 : Cond.classLink RX7 64 (am_exn 1) ∈ am_good := am_memI 384 rfl rfl
set_option maxRecDepth 100000 in
theorem xi_1 : Cond.initialized (am_exn 1) ∈ am_good := am_memI 39 rfl rfl
set_option maxRecDepth 100000 in
theorem xt_X7_68 : ∀ w ∈ vx_atS RX7 68 (am_exn 1) ["java/lang/RuntimeException", "java/lang/Exception"], w ∈ am_good ∨ w ∈ am_xtra 1 := fun w hw => of_decide_eq_true (List.all_eq_true.mp (show (vx_atS RX7 68 (am_exn 1) ["java/lang/RuntimeException", "java/lang/Exception"]).all (fun w => decide (w ∈ am_good ∨ w ∈ am_xtra 1)) = true by decide +kernel) w hw)
set_option maxRecDepth 100000 in
theorem sk_X7_61 : Cond.fieldLink RX7 61 "PickScanner" "GREATEST_SETTINGS" "[I" ∈ am_good := am_memI 382 rfl rfl
set_option maxRecDepth 100000 in
theorem fk_X7_69 : am_flk RX7 69 6 6 := ⟨by decide, by decide, am_memI 237 rfl rfl⟩
set_option maxRecDepth 100000 in
theorem mk_X7_78 : Cond.methodLink RX7 78 yX7_save ∈ am_good := am_memI 416 rfl rfl
set_option maxRecDepth 100000 in
theorem im_X7_save : Cond.instanceMethod yX7_save ∈ am_good := am_memI 418 rfl rfl
set_option maxRecDepth 100000 in
theorem sl_X7_save : Cond.selects RX7 yX7_save yX7_save ∈ am_good := am_memI 2 rfl rfl
set_option maxRecDepth 100000 in
theorem fk_X7_81 : am_flk RX7 81 6 0 := ⟨by decide, by decide, am_memI 227 rfl rfl⟩
set_option maxRecDepth 100000 in
theorem ck_X7_73 : Cond.classLink RX7 73 (am_exn 2) ∈ am_good := am_memI 400 rfl rfl
set_option maxRecDepth 100000 in
theorem xi_2 : Cond.initialized (am_exn 2) ∈ am_good := am_memI 40 rfl rfl
set_option maxRecDepth 100000 in
theorem xt_X7_77 : ∀ w ∈ vx_atS RX7 77 (am_exn 2) ["java/lang/RuntimeException", "java/lang/Exception"], w ∈ am_good ∨ w ∈ am_xtra 2 := fun w hw => of_decide_eq_true (List.all_eq_true.mp (show (vx_atS RX7 77 (am_exn 2) ["java/lang/RuntimeException", "java/lang/Exception"]).all (fun w => decide (w ∈ am_good ∨ w ∈ am_xtra 2)) = true by decide +kernel) w hw)
set_option maxRecDepth 100000 in
theorem fk_X7_90 : am_flk RX7 90 6 2 := ⟨by decide, by decide, am_memI 231 rfl rfl⟩
set_option maxRecDepth 100000 in
theorem fk_X7_95 : am_flk RX7 95 6 1 := ⟨by decide, by decide, am_memI 229 rfl rfl⟩
set_option maxRecDepth 100000 in
theorem mk_X7_99 : Cond.methodLink RX7 99 yX0_begin ∈ am_good := am_memI 458 rfl rfl
set_option maxRecDepth 100000 in
theorem im_X0_begin : Cond.instanceMethod yX0_begin ∈ am_good := am_memI 459 rfl rfl
set_option maxRecDepth 100000 in
theorem sl_X0_begin : Cond.selects RX0 yX0_begin yX0_begin ∈ am_good := am_memI 460 rfl rfl
set_option maxRecDepth 100000 in
theorem mk_X7_105 : Cond.methodLink RX7 105 yX6_hasLane ∈ am_good := am_memI 469 rfl rfl
set_option maxRecDepth 100000 in
theorem fk_X7_111 : am_flk RX7 111 0 3 := ⟨by decide, by decide, am_memI 158 rfl rfl⟩
set_option maxRecDepth 100000 in
theorem fk_X7_116 : am_flk RX7 116 6 3 := ⟨by decide, by decide, am_memI 233 rfl rfl⟩
set_option maxRecDepth 100000 in
theorem mk_X7_120 : Cond.methodLink RX7 120 yX3_laneOf ∈ am_good := am_memI 482 rfl rfl
set_option maxRecDepth 100000 in
theorem mk_X7_131 : Cond.methodLink RX7 131 yX3_put ∈ am_good := am_memI 491 rfl rfl
set_option maxRecDepth 100000 in
theorem im_X3_put : Cond.instanceMethod yX3_put ∈ am_good := am_memI 492 rfl rfl
set_option maxRecDepth 100000 in
theorem sl_X3_put : Cond.selects RX3 yX3_put yX3_put ∈ am_good := am_memI 493 rfl rfl
set_option maxRecDepth 100000 in
theorem fk_X7_126 : am_flk RX7 126 3 2 := ⟨by decide, by decide, am_memI 138 rfl rfl⟩
set_option maxRecDepth 100000 in
theorem mk_X7_137 : Cond.methodLink RX7 137 yX3_drop ∈ am_good := am_memI 503 rfl rfl
set_option maxRecDepth 100000 in
theorem im_X3_drop : Cond.instanceMethod yX3_drop ∈ am_good := am_memI 504 rfl rfl
set_option maxRecDepth 100000 in
theorem sl_X3_drop : Cond.selects RX3 yX3_drop yX3_drop ∈ am_good := am_memI 505 rfl rfl
set_option maxRecDepth 100000 in
theorem mk_X7_142 : Cond.methodLink RX7 142 yX6_freeAtEntry ∈ am_good := am_memI 515 rfl rfl
set_option maxRecDepth 100000 in
theorem fk_X7_148 : am_flk RX7 148 6 7 := ⟨by decide, by decide, am_memI 240 rfl rfl⟩
set_option maxRecDepth 100000 in
theorem mk_X7_153 : Cond.methodLink RX7 153 yX6_beginPart ∈ am_good := am_memI 526 rfl rfl
set_option maxRecDepth 100000 in
theorem im_X6_beginPart : Cond.instanceMethod yX6_beginPart ∈ am_good := am_memI 527 rfl rfl
set_option maxRecDepth 100000 in
theorem sl_X6_beginPart : Cond.selects RX6 yX6_beginPart yX6_beginPart ∈ am_good := am_memI 528 rfl rfl
set_option maxRecDepth 100000 in
theorem mk_X7_156 : Cond.methodLink RX7 156 yX6_ownerOfRead ∈ am_good := am_memI 542 rfl rfl
set_option maxRecDepth 100000 in
theorem im_X6_ownerOfRead : Cond.instanceMethod yX6_ownerOfRead ∈ am_good := am_memI 543 rfl rfl
set_option maxRecDepth 100000 in
theorem sl_X6_ownerOfRead : Cond.selects RX6 yX6_ownerOfRead yX6_ownerOfRead ∈ am_good := am_memI 544 rfl rfl
set_option maxRecDepth 100000 in
theorem fk_X7_160 : am_flk RX7 160 6 9 := ⟨by decide, by decide, am_memI 244 rfl rfl⟩
set_option maxRecDepth 100000 in
theorem fk_X7_163 : am_flk RX7 163 6 8 := ⟨by decide, by decide, am_memI 242 rfl rfl⟩
set_option maxRecDepth 100000 in
theorem mk_X7_166 : Cond.methodLink RX7 166 yX2_accept ∈ am_good := am_memI 546 rfl rfl
set_option maxRecDepth 100000 in
theorem im_X2_accept : Cond.instanceMethod yX2_accept ∈ am_good := am_memI 547 rfl rfl
set_option maxRecDepth 100000 in
theorem sl_X2_accept : Cond.selects RX2 yX2_accept yX2_accept ∈ am_good := am_memI 548 rfl rfl
set_option maxRecDepth 100000 in
theorem fk_X7_171 : am_flk RX7 171 2 0 := ⟨by decide, by decide, am_memI 179 rfl rfl⟩
set_option maxRecDepth 100000 in
theorem lc_X7_176 : Cond.constant RX7 176 (Int32.ofInt 50000) ∈ am_good := am_memI 599 rfl rfl
set_option maxRecDepth 100000 in
theorem mk_X7_179 : Cond.methodLink RX7 179 yX6_aimParts ∈ am_good := am_memI 601 rfl rfl
set_option maxRecDepth 100000 in
theorem im_X6_aimParts : Cond.instanceMethod yX6_aimParts ∈ am_good := am_memI 602 rfl rfl
set_option maxRecDepth 100000 in
theorem sl_X6_aimParts : Cond.selects RX6 yX6_aimParts yX6_aimParts ∈ am_good := am_memI 603 rfl rfl
set_option maxRecDepth 100000 in
theorem mk_X7_185 : Cond.methodLink RX7 185 yX7_keepDeparted ∈ am_good := am_memI 571 rfl rfl
set_option maxRecDepth 100000 in
theorem im_X7_keepDeparted : Cond.instanceMethod yX7_keepDeparted ∈ am_good := am_memI 573 rfl rfl
set_option maxRecDepth 100000 in
theorem sl_X7_keepDeparted : Cond.selects RX7 yX7_keepDeparted yX7_keepDeparted ∈ am_good := am_memI 6 rfl rfl
set_option maxRecDepth 100000 in
theorem mk_X7_182 : Cond.methodLink RX7 182 yX6_stride ∈ am_good := am_memI 622 rfl rfl
set_option maxRecDepth 100000 in
theorem im_X6_stride : Cond.instanceMethod yX6_stride ∈ am_good := am_memI 623 rfl rfl
set_option maxRecDepth 100000 in
theorem sl_X6_stride : Cond.selects RX6 yX6_stride yX6_stride ∈ am_good := am_memI 624 rfl rfl
set_option maxRecDepth 100000 in
theorem mk_X7_188 : Cond.methodLink RX7 188 yX7_hasEntered ∈ am_good := am_memI 557 rfl rfl
set_option maxRecDepth 100000 in
theorem im_X7_hasEntered : Cond.instanceMethod yX7_hasEntered ∈ am_good := am_memI 559 rfl rfl
set_option maxRecDepth 100000 in
theorem sl_X7_hasEntered : Cond.selects RX7 yX7_hasEntered yX7_hasEntered ∈ am_good := am_memI 5 rfl rfl
set_option maxRecDepth 100000 in
theorem mk_X7_193 : Cond.methodLink RX7 193 yX6_placeOf ∈ am_good := am_memI 562 rfl rfl
set_option maxRecDepth 100000 in
theorem im_X6_placeOf : Cond.instanceMethod yX6_placeOf ∈ am_good := am_memI 563 rfl rfl
set_option maxRecDepth 100000 in
theorem sl_X6_placeOf : Cond.selects RX6 yX6_placeOf yX6_placeOf ∈ am_good := am_memI 564 rfl rfl
set_option maxRecDepth 100000 in
theorem fk_X7_198 : am_flk RX7 198 6 5 := ⟨by decide, by decide, am_memI 236 rfl rfl⟩
set_option maxRecDepth 100000 in
theorem fk_X7_202 : am_flk RX7 202 2 2 := ⟨by decide, by decide, am_memI 184 rfl rfl⟩
set_option maxRecDepth 100000 in
theorem mk_X7_205 : Cond.methodLink RX7 205 yX6_leave ∈ am_good := am_memI 567 rfl rfl
set_option maxRecDepth 100000 in
theorem fk_X7_208 : am_flk RX7 208 7 3 := ⟨by decide, by decide, am_memI 272 rfl rfl⟩
set_option maxRecDepth 100000 in
theorem mk_X7_213 : Cond.methodLink RX7 213 yX6_copyFrom ∈ am_good := am_memI 424 rfl rfl
set_option maxRecDepth 100000 in
theorem im_X6_copyFrom : Cond.instanceMethod yX6_copyFrom ∈ am_good := am_memI 425 rfl rfl
set_option maxRecDepth 100000 in
theorem sl_X6_copyFrom : Cond.selects RX6 yX6_copyFrom yX6_copyFrom ∈ am_good := am_memI 426 rfl rfl
set_option maxRecDepth 100000 in
theorem mk_X7_219 : Cond.methodLink RX7 219 yX7_partProperty ∈ am_good := am_memI 691 rfl rfl
set_option maxRecDepth 100000 in
theorem im_X7_partProperty : Cond.instanceMethod yX7_partProperty ∈ am_good := am_memI 693 rfl rfl
set_option maxRecDepth 100000 in
theorem sl_X7_partProperty : Cond.selects RX7 yX7_partProperty yX7_partProperty ∈ am_good := am_memI 14 rfl rfl
set_option maxRecDepth 100000 in
theorem mk_X7_226 : Cond.methodLink RX7 226 yX0_property ∈ am_good := am_memI 838 rfl rfl
set_option maxRecDepth 100000 in
theorem im_X0_property : Cond.instanceMethod yX0_property ∈ am_good := am_memI 839 rfl rfl
set_option maxRecDepth 100000 in
theorem sl_X0_property : Cond.selects RX0 yX0_property yX0_property ∈ am_good := am_memI 840 rfl rfl
set_option maxRecDepth 100000 in
theorem mk_X7_223 : Cond.methodLink RX7 223 yX3_countTo ∈ am_good := am_memI 834 rfl rfl
set_option maxRecDepth 100000 in
theorem im_X3_countTo : Cond.instanceMethod yX3_countTo ∈ am_good := am_memI 835 rfl rfl
set_option maxRecDepth 100000 in
theorem sl_X3_countTo : Cond.selects RX3 yX3_countTo yX3_countTo ∈ am_good := am_memI 836 rfl rfl
set_option maxRecDepth 100000 in
theorem mk_X7_229 : Cond.methodLink RX7 229 yX7_countFates ∈ am_good := am_memI 810 rfl rfl
set_option maxRecDepth 100000 in
theorem im_X7_countFates : Cond.instanceMethod yX7_countFates ∈ am_good := am_memI 812 rfl rfl
set_option maxRecDepth 100000 in
theorem sl_X7_countFates : Cond.selects RX7 yX7_countFates yX7_countFates ∈ am_good := am_memI 22 rfl rfl
set_option maxRecDepth 100000 in
theorem mk_X7_232 : Cond.methodLink RX7 232 yX7_sumOverParts ∈ am_good := am_memI 821 rfl rfl
set_option maxRecDepth 100000 in
theorem im_X7_sumOverParts : Cond.instanceMethod yX7_sumOverParts ∈ am_good := am_memI 823 rfl rfl
set_option maxRecDepth 100000 in
theorem sl_X7_sumOverParts : Cond.selects RX7 yX7_sumOverParts yX7_sumOverParts ∈ am_good := am_memI 23 rfl rfl
set_option maxRecDepth 100000 in
theorem fk_X7_235 : am_flk RX7 235 5 1 := ⟨by decide, by decide, am_memI 70 rfl rfl⟩
set_option maxRecDepth 100000 in
theorem mk_X7_244 : Cond.methodLink RX7 244 yX3_codeAndLane ∈ am_good := am_memI 750 rfl rfl
set_option maxRecDepth 100000 in
theorem im_X3_codeAndLane : Cond.instanceMethod yX3_codeAndLane ∈ am_good := am_memI 751 rfl rfl
set_option maxRecDepth 100000 in
theorem sl_X3_codeAndLane : Cond.selects RX3 yX3_codeAndLane yX3_codeAndLane ∈ am_good := am_memI 752 rfl rfl
set_option maxRecDepth 100000 in
theorem mk_X7_247 : Cond.methodLink RX7 247 yX6_gapBetween ∈ am_good := am_memI 741 rfl rfl
set_option maxRecDepth 100000 in
theorem mk_X7_252 : Cond.methodLink RX7 252 yX6_rankOf ∈ am_good := am_memI 726 rfl rfl
set_option maxRecDepth 100000 in
theorem im_X6_rankOf : Cond.instanceMethod yX6_rankOf ∈ am_good := am_memI 727 rfl rfl
set_option maxRecDepth 100000 in
theorem sl_X6_rankOf : Cond.selects RX6 yX6_rankOf yX6_rankOf ∈ am_good := am_memI 728 rfl rfl
set_option maxRecDepth 100000 in
theorem mk_X7_255 : Cond.methodLink RX7 255 yX7_startTrial ∈ am_good := am_memI 687 rfl rfl
set_option maxRecDepth 100000 in
theorem im_X7_startTrial : Cond.instanceMethod yX7_startTrial ∈ am_good := am_memI 689 rfl rfl
set_option maxRecDepth 100000 in
theorem sl_X7_startTrial : Cond.selects RX7 yX7_startTrial yX7_startTrial ∈ am_good := am_memI 13 rfl rfl
set_option maxRecDepth 100000 in
theorem lc_X7_258 : Cond.constant RX7 258 (Int32.ofInt 1000000) ∈ am_good := am_memI 701 rfl rfl
set_option maxRecDepth 100000 in
theorem fk_X7_259 : am_flk RX7 259 2 3 := ⟨by decide, by decide, am_memI 187 rfl rfl⟩
set_option maxRecDepth 100000 in
theorem mk_X7_262 : Cond.methodLink RX7 262 yX6_laneGiven ∈ am_good := am_memI 717 rfl rfl
set_option maxRecDepth 100000 in
theorem mk_X7_272 : Cond.methodLink RX7 272 yX5_parseInto ∈ am_good := am_memI 758 rfl rfl
set_option maxRecDepth 100000 in
theorem im_X5_parseInto : Cond.instanceMethod yX5_parseInto ∈ am_good := am_memI 759 rfl rfl
set_option maxRecDepth 100000 in
theorem sl_X5_parseInto : Cond.selects RX5 yX5_parseInto yX5_parseInto ∈ am_good := am_memI 760 rfl rfl
set_option maxRecDepth 100000 in
theorem mk_X7_284 : Cond.methodLink RX7 284 yX7_dropOldestSaved ∈ am_good := am_memI 420 rfl rfl
set_option maxRecDepth 100000 in
theorem im_X7_dropOldestSaved : Cond.instanceMethod yX7_dropOldestSaved ∈ am_good := am_memI 422 rfl rfl
set_option maxRecDepth 100000 in
theorem sl_X7_dropOldestSaved : Cond.selects RX7 yX7_dropOldestSaved yX7_dropOldestSaved ∈ am_good := am_memI 3 rfl rfl
set_option maxRecDepth 100000 in
theorem mk_X7_287 : Cond.methodLink RX7 287 yX1_keep ∈ am_good := am_memI 575 rfl rfl
set_option maxRecDepth 100000 in
theorem im_X1_keep : Cond.instanceMethod yX1_keep ∈ am_good := am_memI 576 rfl rfl
set_option maxRecDepth 100000 in
theorem sl_X1_keep : Cond.selects RX1 yX1_keep yX1_keep ∈ am_good := am_memI 577 rfl rfl
set_option maxRecDepth 100000 in
theorem mk_X7_297 : Cond.methodLink RX7 297 yX2_property ∈ am_good := am_memI 700 rfl rfl
set_option maxRecDepth 100000 in
theorem mk_X7_294 : Cond.methodLink RX7 294 yX6_laneOf ∈ am_good := am_memI 699 rfl rfl
set_option maxRecDepth 100000 in
theorem mk_X7_291 : Cond.methodLink RX7 291 yX1_propertyOf ∈ am_good := am_memI 695 rfl rfl
set_option maxRecDepth 100000 in
theorem im_X1_propertyOf : Cond.instanceMethod yX1_propertyOf ∈ am_good := am_memI 696 rfl rfl
set_option maxRecDepth 100000 in
theorem sl_X1_propertyOf : Cond.selects RX1 yX1_propertyOf yX1_propertyOf ∈ am_good := am_memI 697 rfl rfl
set_option maxRecDepth 100000 in
theorem lc_L_7 : Cond.constant RL 7 (Int32.ofInt 1294055337) ∈ am_good := am_memI 294 rfl rfl
set_option maxRecDepth 100000 in
theorem lc_L_8 : Cond.constant RL 8 (Int32.ofInt 2147483647) ∈ am_good := am_memI 301 rfl rfl
set_option maxRecDepth 100000 in
theorem mk_L_9 : Cond.methodLink RL 9 yX7_set ∈ am_good := am_memI 308 rfl rfl
set_option maxRecDepth 100000 in
theorem im_X7_set : Cond.instanceMethod yX7_set ∈ am_good := am_memI 309 rfl rfl
set_option maxRecDepth 100000 in
theorem sl_X7_set : Cond.selects RX7 yX7_set yX7_set ∈ am_good := am_memI 310 rfl rfl
set_option maxRecDepth 100000 in
theorem hk_15 : Cond.classLink RL 15 (am_exn 0) ∈ am_good := am_memI 305 rfl rfl
set_option maxRecDepth 100000 in
theorem lc_L_17 : Cond.constant RL 17 (Int32.ofInt (-2000001)) ∈ am_good := am_memI 444 rfl rfl
set_option maxRecDepth 100000 in
theorem hk_18 : Cond.classLink RL 18 (am_exn 1) ∈ am_good := am_memI 306 rfl rfl
set_option maxRecDepth 100000 in
theorem lc_L_20 : Cond.constant RL 20 (Int32.ofInt (-2000002)) ∈ am_good := am_memI 445 rfl rfl
set_option maxRecDepth 100000 in
theorem hk_21 : Cond.classLink RL 21 (am_exn 2) ∈ am_good := am_memI 307 rfl rfl
set_option maxRecDepth 100000 in
theorem lc_L_23 : Cond.constant RL 23 (Int32.ofInt (-2000003)) ∈ am_good := am_memI 446 rfl rfl
set_option maxRecDepth 100000 in
theorem mk_L_24 : Cond.methodLink RL 24 yX7_addLane ∈ am_good := am_memI 450 rfl rfl
set_option maxRecDepth 100000 in
theorem im_X7_addLane : Cond.instanceMethod yX7_addLane ∈ am_good := am_memI 451 rfl rfl
set_option maxRecDepth 100000 in
theorem sl_X7_addLane : Cond.selects RX7 yX7_addLane yX7_addLane ∈ am_good := am_memI 452 rfl rfl
set_option maxRecDepth 100000 in
theorem mk_L_28 : Cond.methodLink RL 28 yX7_emptyLane ∈ am_good := am_memI 465 rfl rfl
set_option maxRecDepth 100000 in
theorem im_X7_emptyLane : Cond.instanceMethod yX7_emptyLane ∈ am_good := am_memI 466 rfl rfl
set_option maxRecDepth 100000 in
theorem sl_X7_emptyLane : Cond.selects RX7 yX7_emptyLane yX7_emptyLane ∈ am_good := am_memI 467 rfl rfl
set_option maxRecDepth 100000 in
theorem mk_L_32 : Cond.methodLink RL 32 yX7_route ∈ am_good := am_memI 477 rfl rfl
set_option maxRecDepth 100000 in
theorem im_X7_route : Cond.instanceMethod yX7_route ∈ am_good := am_memI 478 rfl rfl
set_option maxRecDepth 100000 in
theorem sl_X7_route : Cond.selects RX7 yX7_route yX7_route ∈ am_good := am_memI 479 rfl rfl
set_option maxRecDepth 100000 in
theorem mk_L_35 : Cond.methodLink RL 35 yX7_removeRoute ∈ am_good := am_memI 498 rfl rfl
set_option maxRecDepth 100000 in
theorem im_X7_removeRoute : Cond.instanceMethod yX7_removeRoute ∈ am_good := am_memI 499 rfl rfl
set_option maxRecDepth 100000 in
theorem sl_X7_removeRoute : Cond.selects RX7 yX7_removeRoute yX7_removeRoute ∈ am_good := am_memI 500 rfl rfl
set_option maxRecDepth 100000 in
theorem mk_L_38 : Cond.methodLink RL 38 yX7_enter ∈ am_good := am_memI 510 rfl rfl
set_option maxRecDepth 100000 in
theorem im_X7_enter : Cond.instanceMethod yX7_enter ∈ am_good := am_memI 511 rfl rfl
set_option maxRecDepth 100000 in
theorem sl_X7_enter : Cond.selects RX7 yX7_enter yX7_enter ∈ am_good := am_memI 512 rfl rfl
set_option maxRecDepth 100000 in
theorem mk_L_41 : Cond.methodLink RL 41 yX7_read ∈ am_good := am_memI 538 rfl rfl
set_option maxRecDepth 100000 in
theorem im_X7_read : Cond.instanceMethod yX7_read ∈ am_good := am_memI 539 rfl rfl
set_option maxRecDepth 100000 in
theorem sl_X7_read : Cond.selects RX7 yX7_read yX7_read ∈ am_good := am_memI 540 rfl rfl
set_option maxRecDepth 100000 in
theorem mk_L_44 : Cond.methodLink RL 44 yX7_move ∈ am_good := am_memI 594 rfl rfl
set_option maxRecDepth 100000 in
theorem im_X7_move : Cond.instanceMethod yX7_move ∈ am_good := am_memI 595 rfl rfl
set_option maxRecDepth 100000 in
theorem sl_X7_move : Cond.selects RX7 yX7_move yX7_move ∈ am_good := am_memI 596 rfl rfl
set_option maxRecDepth 100000 in
theorem mk_L_47 : Cond.methodLink RL 47 yX7_takeOff ∈ am_good := am_memI 553 rfl rfl
set_option maxRecDepth 100000 in
theorem im_X7_takeOff : Cond.instanceMethod yX7_takeOff ∈ am_good := am_memI 554 rfl rfl
set_option maxRecDepth 100000 in
theorem sl_X7_takeOff : Cond.selects RX7 yX7_takeOff yX7_takeOff ∈ am_good := am_memI 555 rfl rfl
set_option maxRecDepth 100000 in
theorem mk_L_50 : Cond.methodLink RL 50 yX7_undo ∈ am_good := am_memI 586 rfl rfl
set_option maxRecDepth 100000 in
theorem im_X7_undo : Cond.instanceMethod yX7_undo ∈ am_good := am_memI 587 rfl rfl
set_option maxRecDepth 100000 in
theorem sl_X7_undo : Cond.selects RX7 yX7_undo yX7_undo ∈ am_good := am_memI 588 rfl rfl
set_option maxRecDepth 100000 in
theorem mk_L_54 : Cond.methodLink RL 54 yX7_part ∈ am_good := am_memI 849 rfl rfl
set_option maxRecDepth 100000 in
theorem im_X7_part : Cond.instanceMethod yX7_part ∈ am_good := am_memI 850 rfl rfl
set_option maxRecDepth 100000 in
theorem sl_X7_part : Cond.selects RX7 yX7_part yX7_part ∈ am_good := am_memI 851 rfl rfl
set_option maxRecDepth 100000 in
theorem mk_L_57 : Cond.methodLink RL 57 yX7_lane ∈ am_good := am_memI 829 rfl rfl
set_option maxRecDepth 100000 in
theorem im_X7_lane : Cond.instanceMethod yX7_lane ∈ am_good := am_memI 830 rfl rfl
set_option maxRecDepth 100000 in
theorem sl_X7_lane : Cond.selects RX7 yX7_lane yX7_lane ∈ am_good := am_memI 831 rfl rfl
set_option maxRecDepth 100000 in
theorem mk_L_60 : Cond.methodLink RL 60 yX7_total ∈ am_good := am_memI 817 rfl rfl
set_option maxRecDepth 100000 in
theorem im_X7_total : Cond.instanceMethod yX7_total ∈ am_good := am_memI 818 rfl rfl
set_option maxRecDepth 100000 in
theorem sl_X7_total : Cond.selects RX7 yX7_total yX7_total ∈ am_good := am_memI 819 rfl rfl
set_option maxRecDepth 100000 in
theorem mk_L_63 : Cond.methodLink RL 63 yX7_lost ∈ am_good := am_memI 805 rfl rfl
set_option maxRecDepth 100000 in
theorem im_X7_lost : Cond.instanceMethod yX7_lost ∈ am_good := am_memI 806 rfl rfl
set_option maxRecDepth 100000 in
theorem sl_X7_lost : Cond.selects RX7 yX7_lost yX7_lost ∈ am_good := am_memI 807 rfl rfl
set_option maxRecDepth 100000 in
theorem mk_L_66 : Cond.methodLink RL 66 yX7_setting ∈ am_good := am_memI 856 rfl rfl
set_option maxRecDepth 100000 in
theorem im_X7_setting : Cond.instanceMethod yX7_setting ∈ am_good := am_memI 857 rfl rfl
set_option maxRecDepth 100000 in
theorem sl_X7_setting : Cond.selects RX7 yX7_setting yX7_setting ∈ am_good := am_memI 858 rfl rfl
set_option maxRecDepth 100000 in
theorem mk_L_69 : Cond.methodLink RL 69 yX7_routeAt ∈ am_good := am_memI 745 rfl rfl
set_option maxRecDepth 100000 in
theorem im_X7_routeAt : Cond.instanceMethod yX7_routeAt ∈ am_good := am_memI 746 rfl rfl
set_option maxRecDepth 100000 in
theorem sl_X7_routeAt : Cond.selects RX7 yX7_routeAt yX7_routeAt ∈ am_good := am_memI 747 rfl rfl
set_option maxRecDepth 100000 in
theorem mk_L_72 : Cond.methodLink RL 72 yX7_gapAhead ∈ am_good := am_memI 737 rfl rfl
set_option maxRecDepth 100000 in
theorem im_X7_gapAhead : Cond.instanceMethod yX7_gapAhead ∈ am_good := am_memI 738 rfl rfl
set_option maxRecDepth 100000 in
theorem sl_X7_gapAhead : Cond.selects RX7 yX7_gapAhead yX7_gapAhead ∈ am_good := am_memI 739 rfl rfl
set_option maxRecDepth 100000 in
theorem mk_L_75 : Cond.methodLink RL 75 yX7_ranked ∈ am_good := am_memI 721 rfl rfl
set_option maxRecDepth 100000 in
theorem im_X7_ranked : Cond.instanceMethod yX7_ranked ∈ am_good := am_memI 722 rfl rfl
set_option maxRecDepth 100000 in
theorem sl_X7_ranked : Cond.selects RX7 yX7_ranked yX7_ranked ∈ am_good := am_memI 723 rfl rfl
set_option maxRecDepth 100000 in
theorem mk_L_78 : Cond.methodLink RL 78 yX7_fateOf ∈ am_good := am_memI 683 rfl rfl
set_option maxRecDepth 100000 in
theorem im_X7_fateOf : Cond.instanceMethod yX7_fateOf ∈ am_good := am_memI 684 rfl rfl
set_option maxRecDepth 100000 in
theorem sl_X7_fateOf : Cond.selects RX7 yX7_fateOf yX7_fateOf ∈ am_good := am_memI 685 rfl rfl
set_option maxRecDepth 100000 in
theorem mk_L_81 : Cond.methodLink RL 81 yX7_laneFor ∈ am_good := am_memI 713 rfl rfl
set_option maxRecDepth 100000 in
theorem im_X7_laneFor : Cond.instanceMethod yX7_laneFor ∈ am_good := am_memI 714 rfl rfl
set_option maxRecDepth 100000 in
theorem sl_X7_laneFor : Cond.selects RX7 yX7_laneFor yX7_laneFor ∈ am_good := am_memI 715 rfl rfl
set_option maxRecDepth 100000 in
theorem mk_L_84 : Cond.methodLink RL 84 yL_low ∈ am_good := am_memI 298 rfl rfl
set_option maxRecDepth 100000 in
theorem sm_L_low : Cond.static yL_low ∈ am_good := am_memI 299 rfl rfl
set_option maxRecDepth 100000 in
theorem mk_L_89 : Cond.methodLink RL 89 yL_set ∈ am_good := am_memI 302 rfl rfl
set_option maxRecDepth 100000 in
theorem sm_L_set : Cond.static yL_set ∈ am_good := am_memI 303 rfl rfl
set_option maxRecDepth 100000 in
theorem mk_L_92 : Cond.methodLink RL 92 yL_addLane ∈ am_good := am_memI 447 rfl rfl
set_option maxRecDepth 100000 in
theorem sm_L_addLane : Cond.static yL_addLane ∈ am_good := am_memI 448 rfl rfl
set_option maxRecDepth 100000 in
theorem mk_L_95 : Cond.methodLink RL 95 yL_emptyLane ∈ am_good := am_memI 462 rfl rfl
set_option maxRecDepth 100000 in
theorem sm_L_emptyLane : Cond.static yL_emptyLane ∈ am_good := am_memI 463 rfl rfl
set_option maxRecDepth 100000 in
theorem mk_L_98 : Cond.methodLink RL 98 yL_route ∈ am_good := am_memI 474 rfl rfl
set_option maxRecDepth 100000 in
theorem sm_L_route : Cond.static yL_route ∈ am_good := am_memI 475 rfl rfl
set_option maxRecDepth 100000 in
theorem mk_L_100 : Cond.methodLink RL 100 yL_removeRoute ∈ am_good := am_memI 495 rfl rfl
set_option maxRecDepth 100000 in
theorem sm_L_removeRoute : Cond.static yL_removeRoute ∈ am_good := am_memI 496 rfl rfl
set_option maxRecDepth 100000 in
theorem mk_L_102 : Cond.methodLink RL 102 yL_enter ∈ am_good := am_memI 507 rfl rfl
set_option maxRecDepth 100000 in
theorem sm_L_enter : Cond.static yL_enter ∈ am_good := am_memI 508 rfl rfl
set_option maxRecDepth 100000 in
theorem mk_L_104 : Cond.methodLink RL 104 yL_read ∈ am_good := am_memI 535 rfl rfl
set_option maxRecDepth 100000 in
theorem sm_L_read : Cond.static yL_read ∈ am_good := am_memI 536 rfl rfl
set_option maxRecDepth 100000 in
theorem mk_L_106 : Cond.methodLink RL 106 yL_takeOff ∈ am_good := am_memI 550 rfl rfl
set_option maxRecDepth 100000 in
theorem sm_L_takeOff : Cond.static yL_takeOff ∈ am_good := am_memI 551 rfl rfl
set_option maxRecDepth 100000 in
theorem mk_L_108 : Cond.methodLink RL 108 yL_undo ∈ am_good := am_memI 583 rfl rfl
set_option maxRecDepth 100000 in
theorem sm_L_undo : Cond.static yL_undo ∈ am_good := am_memI 584 rfl rfl
set_option maxRecDepth 100000 in
theorem mk_L_111 : Cond.methodLink RL 111 yL_move ∈ am_good := am_memI 591 rfl rfl
set_option maxRecDepth 100000 in
theorem sm_L_move : Cond.static yL_move ∈ am_good := am_memI 592 rfl rfl
set_option maxRecDepth 100000 in
theorem mk_L_113 : Cond.methodLink RL 113 yL_fateOf ∈ am_good := am_memI 680 rfl rfl
set_option maxRecDepth 100000 in
theorem sm_L_fateOf : Cond.static yL_fateOf ∈ am_good := am_memI 681 rfl rfl
set_option maxRecDepth 100000 in
theorem mk_L_115 : Cond.methodLink RL 115 yX7_entryIn ∈ am_good := am_memI 702 rfl rfl
set_option maxRecDepth 100000 in
theorem im_X7_entryIn : Cond.instanceMethod yX7_entryIn ∈ am_good := am_memI 703 rfl rfl
set_option maxRecDepth 100000 in
theorem sl_X7_entryIn : Cond.selects RX7 yX7_entryIn yX7_entryIn ∈ am_good := am_memI 704 rfl rfl
set_option maxRecDepth 100000 in
theorem mk_L_118 : Cond.methodLink RL 118 yX7_nextLeaving ∈ am_good := am_memI 706 rfl rfl
set_option maxRecDepth 100000 in
theorem im_X7_nextLeaving : Cond.instanceMethod yX7_nextLeaving ∈ am_good := am_memI 707 rfl rfl
set_option maxRecDepth 100000 in
theorem sl_X7_nextLeaving : Cond.selects RX7 yX7_nextLeaving yX7_nextLeaving ∈ am_good := am_memI 708 rfl rfl
set_option maxRecDepth 100000 in
theorem mk_L_121 : Cond.methodLink RL 121 yL_laneFor ∈ am_good := am_memI 710 rfl rfl
set_option maxRecDepth 100000 in
theorem sm_L_laneFor : Cond.static yL_laneFor ∈ am_good := am_memI 711 rfl rfl
set_option maxRecDepth 100000 in
theorem mk_L_123 : Cond.methodLink RL 123 yL_ranked ∈ am_good := am_memI 718 rfl rfl
set_option maxRecDepth 100000 in
theorem sm_L_ranked : Cond.static yL_ranked ∈ am_good := am_memI 719 rfl rfl
set_option maxRecDepth 100000 in
theorem mk_L_125 : Cond.methodLink RL 125 yL_gapAhead ∈ am_good := am_memI 734 rfl rfl
set_option maxRecDepth 100000 in
theorem sm_L_gapAhead : Cond.static yL_gapAhead ∈ am_good := am_memI 735 rfl rfl
set_option maxRecDepth 100000 in
theorem mk_L_127 : Cond.methodLink RL 127 yL_routeAt ∈ am_good := am_memI 742 rfl rfl
set_option maxRecDepth 100000 in
theorem sm_L_routeAt : Cond.static yL_routeAt ∈ am_good := am_memI 743 rfl rfl
set_option maxRecDepth 100000 in
theorem mk_L_129 : Cond.methodLink RL 129 yX7_errorPosition ∈ am_good := am_memI 754 rfl rfl
set_option maxRecDepth 100000 in
theorem im_X7_errorPosition : Cond.instanceMethod yX7_errorPosition ∈ am_good := am_memI 755 rfl rfl
set_option maxRecDepth 100000 in
theorem sl_X7_errorPosition : Cond.selects RX7 yX7_errorPosition yX7_errorPosition ∈ am_good := am_memI 756 rfl rfl
set_option maxRecDepth 100000 in
theorem mk_L_132 : Cond.methodLink RL 132 yL_lost ∈ am_good := am_memI 802 rfl rfl
set_option maxRecDepth 100000 in
theorem sm_L_lost : Cond.static yL_lost ∈ am_good := am_memI 803 rfl rfl
set_option maxRecDepth 100000 in
theorem mk_L_134 : Cond.methodLink RL 134 yL_total ∈ am_good := am_memI 814 rfl rfl
set_option maxRecDepth 100000 in
theorem sm_L_total : Cond.static yL_total ∈ am_good := am_memI 815 rfl rfl
set_option maxRecDepth 100000 in
theorem mk_L_136 : Cond.methodLink RL 136 yL_lane ∈ am_good := am_memI 826 rfl rfl
set_option maxRecDepth 100000 in
theorem sm_L_lane : Cond.static yL_lane ∈ am_good := am_memI 827 rfl rfl
set_option maxRecDepth 100000 in
theorem lc_L_138 : Cond.constant RL 138 (Int32.ofInt 99999) ∈ am_good := am_memI 845 rfl rfl
set_option maxRecDepth 100000 in
theorem mk_L_139 : Cond.methodLink RL 139 yL_part ∈ am_good := am_memI 846 rfl rfl
set_option maxRecDepth 100000 in
theorem sm_L_part : Cond.static yL_part ∈ am_good := am_memI 847 rfl rfl
set_option maxRecDepth 100000 in
theorem mk_L_141 : Cond.methodLink RL 141 yL_setting ∈ am_good := am_memI 853 rfl rfl
set_option maxRecDepth 100000 in
theorem sm_L_setting : Cond.static yL_setting ∈ am_good := am_memI 854 rfl rfl
set_option maxRecDepth 100000 in
theorem mk_L_143 : Cond.methodLink RL 143 yX7_share ∈ am_good := am_memI 863 rfl rfl
set_option maxRecDepth 100000 in
theorem im_X7_share : Cond.instanceMethod yX7_share ∈ am_good := am_memI 864 rfl rfl
set_option maxRecDepth 100000 in
theorem sl_X7_share : Cond.selects RX7 yX7_share yX7_share ∈ am_good := am_memI 865 rfl rfl
set_option maxRecDepth 100000 in
theorem ck_L_10 : Cond.classLink RL 10 (am_R 7) ∈ am_good := am_memI 41 rfl rfl
set_option maxRecDepth 100000 in
theorem in_7 : Cond.instantiable (am_R 7) (am_nf 7) ∈ am_good := am_memI 42 rfl rfl
set_option maxRecDepth 100000 in
theorem ii_7 : Cond.initialized (am_R 7) ∈ am_good := am_memI 25 rfl rfl
set_option maxRecDepth 100000 in
theorem im_X7_init : Cond.instanceMethod yX7_init ∈ am_good := am_memI 44 rfl rfl
set_option maxRecDepth 100000 in
theorem mk_L_147 : Cond.methodLink RL 147 yX7_init ∈ am_good := am_memI 43 rfl rfl
set_option maxRecDepth 100000 in
theorem mk_L_165 : Cond.methodLink RL 165 yL_areAlike ∈ am_good := am_memI 860 rfl rfl
set_option maxRecDepth 100000 in
theorem sm_L_areAlike : Cond.static yL_areAlike ∈ am_good := am_memI 861 rfl rfl
set_option maxRecDepth 100000 in
theorem mk_L_148 : Cond.methodLink RL 148 yL_cell ∈ am_good := am_memI 291 rfl rfl
set_option maxRecDepth 100000 in
theorem sm_L_cell : Cond.static yL_cell ∈ am_good := am_memI 292 rfl rfl
set_option maxRecDepth 100000 in
theorem mk_L_152 : Cond.methodLink RL 152 yL_ask ∈ am_good := am_memI 677 rfl rfl
set_option maxRecDepth 100000 in
theorem sm_L_ask : Cond.static yL_ask ∈ am_good := am_memI 678 rfl rfl
set_option maxRecDepth 100000 in
theorem mk_L_155 : Cond.methodLink RL 155 yL_change ∈ am_good := am_memI 295 rfl rfl
set_option maxRecDepth 100000 in
theorem sm_L_change : Cond.static yL_change ∈ am_good := am_memI 296 rfl rfl
set_option maxRecDepth 100000 in
theorem mk_L_158 : Cond.methodLink RL 158 yL_isCounted ∈ am_good := am_memI 799 rfl rfl
set_option maxRecDepth 100000 in
theorem sm_L_isCounted : Cond.static yL_isCounted ∈ am_good := am_memI 800 rfl rfl
set_option maxRecDepth 100000 in
theorem mk_L_162 : Cond.methodLink RL 162 yL_areApart ∈ am_good := am_memI 842 rfl rfl
set_option maxRecDepth 100000 in
theorem sm_L_areApart : Cond.static yL_areApart ∈ am_good := am_memI 843 rfl rfl

/-! the cells: the class's world and the reference's -/
def tC : Sd := [(0, .inr (.inr (5, [some 1, some 2, some 3, some 4, some 5, some 6, some 7, none, none]))), (1, .inr (.inr (3, [some 8, some 9, none]))), (2, .inr (.inr (0, [some 10, some 11, some 12, some 13, some 14, none, none, some 15, some 16, some 17, some 18, some 19, some 20, some 21, none, none]))), (3, .inr (.inr (1, [some 22, some 23, none]))), (4, .inr (.inr (2, [some 24, some 25, some 26]))), (5, .inr (.inr (4, [some 27, some 28, some 29, none, none, none, none, none]))), (6, .inl 60), (7, .inl 41), (8, .inr (.inl (24, 100))), (9, .inl 24), (10, .inl 6), (11, .inr (.inl (6, 130))), (12, .inl 5), (13, .inl 5), (14, .inr (.inl (5, 140))), (15, .inr (.inl (25, 150))), (16, .inr (.inl (20, 180))), (17, .inl 20), (18, .inl 6), (19, .inl 6), (20, .inl 41), (21, .inl 41), (22, .inl 41), (23, .inl 41), (24, .inr (.inl (4, 210))), (25, .inl 4), (26, .inl 4), (27, .inl 60), (28, .inl 41), (29, .inl 41)] ++ (List.range 24).map (fun i => (100 + i, .inl 41)) ++ (List.range 6).map (fun i => (130 + i, .inl 41)) ++ (List.range 5).map (fun i => (140 + i, .inl 4)) ++ (List.range 25).map (fun i => (150 + i, .inl 41)) ++ (List.range 20).map (fun i => (180 + i, .inl 41)) ++ (List.range 4).map (fun i => (210 + i, .inl 60))
def tM : Sd := [(300, .inr (.inr (6, [none, none, some 302, some 303, none, none, none, some 307, some 308, some 309, none, some 311, none, some 313, some 314, some 315, none, some 317, some 318, none, some 320, some 321, some 322, some 323, none]))), (302, .inl 24), (303, .inl 3690), (307, .inl 6), (308, .inl 6), (309, .inl 6), (311, .inl 6), (313, .inl 5), (314, .inl 5), (315, .inl 20), (317, .inl 6), (318, .inl 20), (320, .inl 4), (321, .inl 4), (322, .inl 240), (323, .inl 60)]
def mJ7_fill_53178 : Mth := (yJ7_fill_53178, cJ7_fill_53178, 4, none)
def mX0_serveNothing : Mth := (yX0_serveNothing, cX0_serveNothing, 2, none)
def mX1_fillSame : Mth := (yX1_fillSame, cX1_fillSame, 2, none)
def mX0_serveBy : Mth := (yX0_serveBy, cX0_serveBy, 4, none)
def mX0_ruleBy : Mth := (yX0_ruleBy, cX0_ruleBy, 2, none)
def mX0_isFull : Mth := (yX0_isFull, cX0_isFull, 1, (some .boolean))
def mX0_comesAt : Mth := (yX0_comesAt, cX0_comesAt, 3, (some (.array .int)))
def mX0_addFlow : Mth := (yX0_addFlow, cX0_addFlow, 6, (some .int))
def mX0_hasFlow : Mth := (yX0_hasFlow, cX0_hasFlow, 2, (some .boolean))
def mX0_hasPlace : Mth := (yX0_hasPlace, cX0_hasPlace, 3, (some .boolean))
def mX0_servingNodes : Mth := (yX0_servingNodes, cX0_servingNodes, 3, (some .int))
def mX0_noteAhead : Mth := (yX0_noteAhead, cX0_noteAhead, 3, none)
def mX0_orderNodes : Mth := (yX0_orderNodes, cX0_orderNodes, 6, (some .int))
def mX0_hasRing : Mth := (yX0_hasRing, cX0_hasRing, 1, (some .boolean))
def mX0_isServedOnWays : Mth := (yX0_isServedOnWays, cX0_isServedOnWays, 3, (some .boolean))
def mX0_placeOn : Mth := (yX0_placeOn, cX0_placeOn, 4, (some .int))
def mX1_fillSum : Mth := (yX1_fillSum, cX1_fillSum, 4, none)
def mX0_sumComing : Mth := (yX0_sumComing, cX0_sumComing, 6, none)
def mX0_hasAt : Mth := (yX0_hasAt, cX0_hasAt, 3, (some (.array .int)))
def mX1_longestWait : Mth := (yX1_longestWait, cX1_longestWait, 6, (some .int))
def mX1_fillLeft : Mth := (yX1_fillLeft, cX1_fillLeft, 5, none)
def mX0_goesOnFrom : Mth := (yX0_goesOnFrom, cX0_goesOnFrom, 3, (some (.array .int)))
def mX1_fillAhead : Mth := (yX1_fillAhead, cX1_fillAhead, 4, none)
def mX1_fillOut : Mth := (yX1_fillOut, cX1_fillOut, 6, none)
def mX0_workOutAt : Mth := (yX0_workOutAt, cX0_workOutAt, 5, (some .boolean))
def mX0_workOut : Mth := (yX0_workOut, cX0_workOut, 4, (some .boolean))
def mX0_isBounded : Mth := (yX0_isBounded, cX0_isBounded, 1, (some .boolean))
def mX0_latestAt : Mth := (yX0_latestAt, cX0_latestAt, 3, (some .int))
def mX1_greatestHeap : Mth := (yX1_greatestHeap, cX1_greatestHeap, 4, (some .int))
def mX0_greatestHeapIn : Mth := (yX0_greatestHeapIn, cX0_greatestHeapIn, 2, (some .int))
def mX0_waitByNodes : Mth := (yX0_waitByNodes, cX0_waitByNodes, 4, (some .int))
def mX1_fillAlong : Mth := (yX1_fillAlong, cX1_fillAlong, 6, none)
def mX0_waitAtOnce : Mth := (yX0_waitAtOnce, cX0_waitAtOnce, 3, (some .int))
def mX1_fillSteps : Mth := (yX1_fillSteps, cX1_fillSteps, 4, none)
def mX1_fillBucket : Mth := (yX1_fillBucket, cX1_fillBucket, 4, none)
def mX1_fillLate : Mth := (yX1_fillLate, cX1_fillLate, 4, none)
def mX1_fillLeast : Mth := (yX1_fillLeast, cX1_fillLeast, 4, none)
def mX1_fillMade : Mth := (yX1_fillMade, cX1_fillMade, 4, none)
def mX1_fillHeldBack : Mth := (yX1_fillHeldBack, cX1_fillHeldBack, 4, none)
def mX2_replaceBy : Mth := (yX2_replaceBy, cX2_replaceBy, 4, none)
def mX2_firstBreak : Mth := (yX2_firstBreak, cX2_firstBreak, 4, (some .int))
def mX2_leastBurst : Mth := (yX2_leastBurst, cX2_leastBurst, 6, (some .int))
def mX2_shapeBy : Mth := (yX2_shapeBy, cX2_shapeBy, 2, none)
def mX2_mostHeld : Mth := (yX2_mostHeld, cX2_mostHeld, 1, (some .int))
def mX2_latestOfShaped : Mth := (yX2_latestOfShaped, cX2_latestOfShaped, 1, (some .int))
def mX3_has : Mth := (yX3_has, cX3_has, 2, (some .boolean))
def mX3_isLane : Mth := (yX3_isLane, cX3_isLane, 2, (some .boolean))
def mX3_renew : Mth := (yX3_renew, cX3_renew, 4, (some .int))
def mX3_drop : Mth := (yX3_drop, cX3_drop, 3, (some .int))
def mX3_cut : Mth := (yX3_cut, cX3_cut, 3, (some .int))
def mX3_write : Mth := (yX3_write, cX3_write, 4, (some .int))
def mX3_whyUntaken : Mth := (yX3_whyUntaken, cX3_whyUntaken, 3, (some .int))
def mX3_whyUnread : Mth := (yX3_whyUnread, cX3_whyUnread, 5, (some .int))
def mX3_isBeyond : Mth := (yX3_isBeyond, cX3_isBeyond, 4, (some .boolean))
def mX3_take : Mth := (yX3_take, cX3_take, 7, (some .int))
def mX3_bring : Mth := (yX3_bring, cX3_bring, 6, (some .int))
def mX4_has : Mth := (yX4_has, cX4_has, 2, (some .boolean))
def mX4_isFull : Mth := (yX4_isFull, cX4_isFull, 1, (some .boolean))
def mX4_row : Mth := (yX4_row, cX4_row, 2, (some (.array .int)))
def mX4_nextRow : Mth := (yX4_nextRow, cX4_nextRow, 1, (some (.array .int)))
def mX4_keepNext : Mth := (yX4_keepNext, cX4_keepNext, 2, (some .int))
def mX5_codeHere : Mth := (yX5_codeHere, cX5_codeHere, 1, (some .int))
def mX5_isDigit : Mth := (yX5_isDigit, cX5_isDigit, 1, (some .boolean))
def mX5_readNumber : Mth := (yX5_readNumber, cX5_readNumber, 5, (some .int))
def mX5_readPace : Mth := (yX5_readPace, cX5_readPace, 1, (some .int))
def mX5_readItem : Mth := (yX5_readItem, cX5_readItem, 3, none)
def mX5_goesOn : Mth := (yX5_goesOn, cX5_goesOn, 1, (some .boolean))
def mX5_readSign : Mth := (yX5_readSign, cX5_readSign, 3, none)
def mX5_joinItem : Mth := (yX5_joinItem, cX5_joinItem, 1, none)
def mX5_read : Mth := (yX5_read, cX5_read, 4, (some .int))
def mX6_isUpTo : Mth := (yX6_isUpTo, cX6_isUpTo, 2, (some .boolean))
def mX6_isRowOfSteps : Mth := (yX6_isRowOfSteps, cX6_isRowOfSteps, 3, (some .boolean))
def mX6_stepsOf : Mth := (yX6_stepsOf, cX6_stepsOf, 6, (some .int))
def mX6_ended : Mth := (yX6_ended, cX6_ended, 2, (some .int))
def mX6_steps : Mth := (yX6_steps, cX6_steps, 5, (some .int))
def mX6_bucket : Mth := (yX6_bucket, cX6_bucket, 3, (some .int))
def mX6_late : Mth := (yX6_late, cX6_late, 3, (some .int))
def mX6_stairOfText : Mth := (yX6_stairOfText, cX6_stairOfText, 7, (some .int))
def mX6_text : Mth := (yX6_text, cX6_text, 5, (some .int))
def mX6_at : Mth := (yX6_at, cX6_at, 3, (some .int))
def mX6_make : Mth := (yX6_make, cX6_make, 4, (some .int))
def mX6_move : Mth := (yX6_move, cX6_move, 4, (some .int))
def mX6_delay : Mth := (yX6_delay, cX6_delay, 3, (some .int))
def mX6_heap : Mth := (yX6_heap, cX6_heap, 3, (some .int))
def mX6_within : Mth := (yX6_within, cX6_within, 3, (some .int))
def mX6_serve : Mth := (yX6_serve, cX6_serve, 4, (some .int))
def mX6_whyNoWay : Mth := (yX6_whyNoWay, cX6_whyNoWay, 4, (some .int))
def mX6_newFlow : Mth := (yX6_newFlow, cX6_newFlow, 7, (some .int))
def mX6_flow : Mth := (yX6_flow, cX6_flow, 6, (some .int))
def mX6_ofFlow : Mth := (yX6_ofFlow, cX6_ofFlow, 3, (some .int))
def mX6_rule : Mth := (yX6_rule, cX6_rule, 3, (some .int))
def mX6_ring : Mth := (yX6_ring, cX6_ring, 1, (some .int))
def mX6_latest : Mth := (yX6_latest, cX6_latest, 3, (some .int))
def mX6_there : Mth := (yX6_there, cX6_there, 5, (some .int))
def mX6_heapAt : Mth := (yX6_heapAt, cX6_heapAt, 2, (some .int))
def mX6_bound : Mth := (yX6_bound, cX6_bound, 3, (some .int))
def mX6_seenOf : Mth := (yX6_seenOf, cX6_seenOf, 6, (some .int))
def mX6_see : Mth := (yX6_see, cX6_see, 5, (some .int))
def mX6_keeps : Mth := (yX6_keeps, cX6_keeps, 4, (some .int))
def mX6_burst : Mth := (yX6_burst, cX6_burst, 2, (some .int))
def mX6_shape : Mth := (yX6_shape, cX6_shape, 4, (some .int))
def mX6_letIn : Mth := (yX6_letIn, cX6_letIn, 6, (some .int))
def mX6_sheet : Mth := (yX6_sheet, cX6_sheet, 4, (some .int))
def mX6_lose : Mth := (yX6_lose, cX6_lose, 2, (some .int))
def mX6_put : Mth := (yX6_put, cX6_put, 4, (some .int))
def mX6_cell : Mth := (yX6_cell, cX6_cell, 5, (some .long))
def mX6_copy : Mth := (yX6_copy, cX6_copy, 6, (some .int))
def mX6_leaveInTrace : Mth := (yX6_leaveInTrace, cX6_leaveInTrace, 2, none)
def mX6_toldBySteps : Mth := (yX6_toldBySteps, cX6_toldBySteps, 2, (some .int))
def mX6_toldByBucket : Mth := (yX6_toldByBucket, cX6_toldByBucket, 2, (some .int))
def mX6_toldByLate : Mth := (yX6_toldByLate, cX6_toldByLate, 3, (some .int))
def mX6_tell : Mth := (yX6_tell, cX6_tell, 3, (some .int))
def mX6_draw : Mth := (yX6_draw, cX6_draw, 2, (some .int))
def mX6_takenAs : Mth := (yX6_takenAs, cX6_takenAs, 3, (some .int))
def mX6_as : Mth := (yX6_as, cX6_as, 3, (some .int))
def mX6_trace : Mth := (yX6_trace, cX6_trace, 1, (some .int))
def mX6_fault : Mth := (yX6_fault, cX6_fault, 1, (some .int))
def mX6_many : Mth := (yX6_many, cX6_many, 2, (some .int))
def mX7_in : Mth := (yX7_in, cX7_in, 6, (some .boolean))
def mX7_lost : Mth := (yX7_lost, cX7_lost, 0, (some .long))
def mX7_lesser : Mth := (yX7_lesser, cX7_lesser, 2, (some .int))
def mX7_greater : Mth := (yX7_greater, cX7_greater, 2, (some .int))
def mX7_refused : Mth := (yX7_refused, cX7_refused, 2, (some .int))
def mX7_failed : Mth := (yX7_failed, cX7_failed, 2, (some .int))
def mX7_failedLong : Mth := (yX7_failedLong, cX7_failedLong, 2, (some .long))
def mX7_isBeyond : Mth := (yX7_isBeyond, cX7_isBeyond, 4, (some .boolean))
def mX7_barred : Mth := (yX7_barred, cX7_barred, 6, (some .int))
def mX7_noStair : Mth := (yX7_noStair, cX7_noStair, 2, (some .boolean))
def mX7_of : Mth := (yX7_of, cX7_of, 3, (some .int))
def mX7_set : Mth := (yX7_set, cX7_set, 5, none)
def mX7_keep : Mth := (yX7_keep, cX7_keep, 2, (some .int))
def mX7_layBucket : Mth := (yX7_layBucket, cX7_layBucket, 5, none)
def mX7_layLate : Mth := (yX7_layLate, cX7_layLate, 5, none)
def mX7_areSteps : Mth := (yX7_areSteps, cX7_areSteps, 5, (some .boolean))
def mX7_noSheet : Mth := (yX7_noSheet, cX7_noSheet, 1, (some .boolean))
def mX7_steps : Mth := (yX7_steps, cX7_steps, 8, (some .int))
def mX7_bucket : Mth := (yX7_bucket, cX7_bucket, 3, (some .int))
def mX7_late : Mth := (yX7_late, cX7_late, 3, (some .int))
def mX7_readsNumber : Mth := (yX7_readsNumber, cX7_readsNumber, 6, (some .boolean))
def mX7_readsItem : Mth := (yX7_readsItem, cX7_readsItem, 6, (some .boolean))
def mX7_readStair : Mth := (yX7_readStair, cX7_readStair, 6, (some .int))
def mX7_layItem : Mth := (yX7_layItem, cX7_layItem, 3, none)
def mX7_alongAt : Mth := (yX7_alongAt, cX7_alongAt, 6, (some .int))
def mX7_outAt : Mth := (yX7_outAt, cX7_outAt, 6, (some .int))
def mX7_layBoth : Mth := (yX7_layBoth, cX7_layBoth, 7, none)
def mX7_text : Mth := (yX7_text, cX7_text, 8, (some .int))
def mX7_at : Mth := (yX7_at, cX7_at, 3, (some .int))
def mX7_layMoved : Mth := (yX7_layMoved, cX7_layMoved, 7, none)
def mX7_make : Mth := (yX7_make, cX7_make, 4, (some .int))
def mX7_move : Mth := (yX7_move, cX7_move, 4, (some .int))
def mX7_laterBy : Mth := (yX7_laterBy, cX7_laterBy, 5, (some .int))
def mX7_waitOf : Mth := (yX7_waitOf, cX7_waitOf, 7, (some .int))
def mX7_heapOf : Mth := (yX7_heapOf, cX7_heapOf, 5, (some .int))
def mX7_delay : Mth := (yX7_delay, cX7_delay, 3, (some .int))
def mX7_heap : Mth := (yX7_heap, cX7_heap, 3, (some .int))
def mX7_within : Mth := (yX7_within, cX7_within, 3, (some .int))
def mX7_noNode : Mth := (yX7_noNode, cX7_noNode, 1, (some .boolean))
def mX7_noFlow : Mth := (yX7_noFlow, cX7_noFlow, 2, (some .boolean))
def mX7_serve : Mth := (yX7_serve, cX7_serve, 4, (some .int))
def mX7_wayFault : Mth := (yX7_wayFault, cX7_wayFault, 5, (some .int))
def mX7_flow : Mth := (yX7_flow, cX7_flow, 9, (some .int))
def mX7_ofFlow : Mth := (yX7_ofFlow, cX7_ofFlow, 3, (some .int))
def mX7_rule : Mth := (yX7_rule, cX7_rule, 3, (some .int))
def mX7_layRounds : Mth := (yX7_layRounds, cX7_layRounds, 7, (some .boolean))
def mX7_ring : Mth := (yX7_ring, cX7_ring, 1, (some .int))
def mX7_areServed : Mth := (yX7_areServed, cX7_areServed, 4, (some .boolean))
def mX7_placeOf : Mth := (yX7_placeOf, cX7_placeOf, 4, (some .int))
def mX7_layZero : Mth := (yX7_layZero, cX7_layZero, 3, none)
def mX7_laySum : Mth := (yX7_laySum, cX7_laySum, 7, none)
def mX7_layThere : Mth := (yX7_layThere, cX7_layThere, 5, (some .boolean))
def mX7_layComing : Mth := (yX7_layComing, cX7_layComing, 4, none)
def mX7_layAll : Mth := (yX7_layAll, cX7_layAll, 6, (some .boolean))
def mX7_noStep : Mth := (yX7_noStep, cX7_noStep, 3, (some .boolean))
def mX7_latest : Mth := (yX7_latest, cX7_latest, 3, (some .int))
def mX7_there : Mth := (yX7_there, cX7_there, 5, (some .int))
def mX7_heapAt : Mth := (yX7_heapAt, cX7_heapAt, 2, (some .int))
def mX7_bound : Mth := (yX7_bound, cX7_bound, 5, (some .int))
def mX7_see : Mth := (yX7_see, cX7_see, 8, (some .int))
def mX7_breaks : Mth := (yX7_breaks, cX7_breaks, 4, (some .int))
def mX7_keeps : Mth := (yX7_keeps, cX7_keeps, 4, (some .int))
def mX7_burst : Mth := (yX7_burst, cX7_burst, 5, (some .int))
def mX7_shape : Mth := (yX7_shape, cX7_shape, 3, (some .int))
def mX7_letIn : Mth := (yX7_letIn, cX7_letIn, 6, (some .int))
def mX7_sheet : Mth := (yX7_sheet, cX7_sheet, 5, (some .int))
def mX7_lose : Mth := (yX7_lose, cX7_lose, 3, (some .int))
def mX7_noCell : Mth := (yX7_noCell, cX7_noCell, 3, (some .int))
def mX7_put : Mth := (yX7_put, cX7_put, 4, (some .int))
def mX7_cell : Mth := (yX7_cell, cX7_cell, 4, (some .long))
def mX7_copy : Mth := (yX7_copy, cX7_copy, 7, (some .int))
def mX7_traced : Mth := (yX7_traced, cX7_traced, 2, none)
def mX7_tell : Mth := (yX7_tell, cX7_tell, 4, (some .int))
def mX7_draw : Mth := (yX7_draw, cX7_draw, 2, (some .int))
def mX7_as : Mth := (yX7_as, cX7_as, 3, (some .int))
def mX7_trace : Mth := (yX7_trace, cX7_trace, 1, (some .int))
def mX7_fault : Mth := (yX7_fault, cX7_fault, 1, (some .int))
def mX7_many : Mth := (yX7_many, cX7_many, 4, (some .int))
theorem wd_0 : Cond.selects RX6 yX6_stepsOf yX6_stepsOf ∈ gtb := gm (List.mem_of_getElem? (i := 0) (by decide +kernel)) rfl
theorem wd_1 : Cond.selects RX3 yX3_whyUntaken yX3_whyUntaken ∈ gtb := gm (List.mem_of_getElem? (i := 1) (by decide +kernel)) rfl
theorem wd_2 : Cond.selects RX3 yX3_isLane yX3_isLane ∈ gtb := gm (List.mem_of_getElem? (i := 2) (by decide +kernel)) rfl
theorem wd_3 : Cond.selects RX3 yX3_isBeyond yX3_isBeyond ∈ gtb := gm (List.mem_of_getElem? (i := 3) (by decide +kernel)) rfl
theorem wd_4 : Cond.selects RX6 yX6_isRowOfSteps yX6_isRowOfSteps ∈ gtb := gm (List.mem_of_getElem? (i := 4) (by decide +kernel)) rfl
theorem wd_5 : Cond.selects RX6 yX6_ended yX6_ended ∈ gtb := gm (List.mem_of_getElem? (i := 5) (by decide +kernel)) rfl
theorem wd_6 : Cond.selects RX6 yX6_stairOfText yX6_stairOfText ∈ gtb := gm (List.mem_of_getElem? (i := 6) (by decide +kernel)) rfl
theorem wd_7 : Cond.selects RX5 yX5_readItem yX5_readItem ∈ gtb := gm (List.mem_of_getElem? (i := 7) (by decide +kernel)) rfl
theorem wd_8 : Cond.selects RX5 yX5_codeHere yX5_codeHere ∈ gtb := gm (List.mem_of_getElem? (i := 8) (by decide +kernel)) rfl
theorem wd_9 : Cond.selects RX5 yX5_readNumber yX5_readNumber ∈ gtb := gm (List.mem_of_getElem? (i := 9) (by decide +kernel)) rfl
theorem wd_10 : Cond.selects RX5 yX5_readPace yX5_readPace ∈ gtb := gm (List.mem_of_getElem? (i := 10) (by decide +kernel)) rfl
theorem wd_11 : Cond.selects RX5 yX5_goesOn yX5_goesOn ∈ gtb := gm (List.mem_of_getElem? (i := 11) (by decide +kernel)) rfl
theorem wd_12 : Cond.selects RX5 yX5_readSign yX5_readSign ∈ gtb := gm (List.mem_of_getElem? (i := 12) (by decide +kernel)) rfl
theorem wd_13 : Cond.selects RX5 yX5_joinItem yX5_joinItem ∈ gtb := gm (List.mem_of_getElem? (i := 13) (by decide +kernel)) rfl
theorem wd_14 : Cond.selects RX6 yX6_newFlow yX6_newFlow ∈ gtb := gm (List.mem_of_getElem? (i := 14) (by decide +kernel)) rfl
theorem wd_15 : Cond.selects RX6 yX6_whyNoWay yX6_whyNoWay ∈ gtb := gm (List.mem_of_getElem? (i := 15) (by decide +kernel)) rfl
theorem wd_16 : Cond.selects RX0 yX0_orderNodes yX0_orderNodes ∈ gtb := gm (List.mem_of_getElem? (i := 16) (by decide +kernel)) rfl
theorem wd_17 : Cond.selects RX0 yX0_noteAhead yX0_noteAhead ∈ gtb := gm (List.mem_of_getElem? (i := 17) (by decide +kernel)) rfl
theorem wd_18 : Cond.selects RX0 yX0_isServedOnWays yX0_isServedOnWays ∈ gtb := gm (List.mem_of_getElem? (i := 18) (by decide +kernel)) rfl
theorem wd_19 : Cond.selects RX0 yX0_workOut yX0_workOut ∈ gtb := gm (List.mem_of_getElem? (i := 19) (by decide +kernel)) rfl
theorem wd_20 : Cond.selects RX0 yX0_placeOn yX0_placeOn ∈ gtb := gm (List.mem_of_getElem? (i := 20) (by decide +kernel)) rfl
theorem wd_21 : Cond.selects RX0 yX0_workOutAt yX0_workOutAt ∈ gtb := gm (List.mem_of_getElem? (i := 21) (by decide +kernel)) rfl
theorem wd_22 : Cond.selects RX0 yX0_sumComing yX0_sumComing ∈ gtb := gm (List.mem_of_getElem? (i := 22) (by decide +kernel)) rfl
theorem wd_23 : Cond.selects RX6 yX6_seenOf yX6_seenOf ∈ gtb := gm (List.mem_of_getElem? (i := 23) (by decide +kernel)) rfl
theorem wd_24 : Cond.selects RX3 yX3_cut yX3_cut ∈ gtb := gm (List.mem_of_getElem? (i := 24) (by decide +kernel)) rfl
theorem wd_25 : Cond.selects RX6 yX6_toldByLate yX6_toldByLate ∈ gtb := gm (List.mem_of_getElem? (i := 25) (by decide +kernel)) rfl
theorem wd_26 : Cond.selects RX6 yX6_leaveInTrace yX6_leaveInTrace ∈ gtb := gm (List.mem_of_getElem? (i := 26) (by decide +kernel)) rfl
theorem wd_27 : Cond.selects RX6 yX6_toldByBucket yX6_toldByBucket ∈ gtb := gm (List.mem_of_getElem? (i := 27) (by decide +kernel)) rfl
theorem wd_28 : Cond.selects RX6 yX6_toldBySteps yX6_toldBySteps ∈ gtb := gm (List.mem_of_getElem? (i := 28) (by decide +kernel)) rfl
theorem wd_29 : Cond.selects RX6 yX6_takenAs yX6_takenAs ∈ gtb := gm (List.mem_of_getElem? (i := 29) (by decide +kernel)) rfl
theorem wd_30 : Cond.selects RX7 yX7_refused yX7_refused ∈ gtb := gm (List.mem_of_getElem? (i := 30) (by decide +kernel)) rfl
theorem wd_31 : Cond.selects RX7 yX7_barred yX7_barred ∈ gtb := gm (List.mem_of_getElem? (i := 31) (by decide +kernel)) rfl
theorem wd_32 : Cond.selects RX7 yX7_failed yX7_failed ∈ gtb := gm (List.mem_of_getElem? (i := 32) (by decide +kernel)) rfl
theorem wd_33 : Cond.selects RX7 yX7_areSteps yX7_areSteps ∈ gtb := gm (List.mem_of_getElem? (i := 33) (by decide +kernel)) rfl
theorem wd_34 : Cond.selects RX7 yX7_set yX7_set ∈ gtb := gm (List.mem_of_getElem? (i := 34) (by decide +kernel)) rfl
theorem wd_35 : Cond.selects RX7 yX7_of yX7_of ∈ gtb := gm (List.mem_of_getElem? (i := 35) (by decide +kernel)) rfl
theorem wd_36 : Cond.selects RX7 yX7_keep yX7_keep ∈ gtb := gm (List.mem_of_getElem? (i := 36) (by decide +kernel)) rfl
theorem wd_37 : Cond.selects RX7 yX7_layBucket yX7_layBucket ∈ gtb := gm (List.mem_of_getElem? (i := 37) (by decide +kernel)) rfl
theorem wd_38 : Cond.selects RX7 yX7_layLate yX7_layLate ∈ gtb := gm (List.mem_of_getElem? (i := 38) (by decide +kernel)) rfl
theorem wd_39 : Cond.selects RX7 yX7_readStair yX7_readStair ∈ gtb := gm (List.mem_of_getElem? (i := 39) (by decide +kernel)) rfl
theorem wd_40 : Cond.selects RX7 yX7_readsItem yX7_readsItem ∈ gtb := gm (List.mem_of_getElem? (i := 40) (by decide +kernel)) rfl
theorem wd_41 : Cond.selects RX7 yX7_readsNumber yX7_readsNumber ∈ gtb := gm (List.mem_of_getElem? (i := 41) (by decide +kernel)) rfl
theorem wd_42 : Cond.selects RX7 yX7_layItem yX7_layItem ∈ gtb := gm (List.mem_of_getElem? (i := 42) (by decide +kernel)) rfl
theorem wd_43 : Cond.selects RX7 yX7_layBoth yX7_layBoth ∈ gtb := gm (List.mem_of_getElem? (i := 43) (by decide +kernel)) rfl
theorem wd_44 : Cond.selects RX7 yX7_alongAt yX7_alongAt ∈ gtb := gm (List.mem_of_getElem? (i := 44) (by decide +kernel)) rfl
theorem wd_45 : Cond.selects RX7 yX7_outAt yX7_outAt ∈ gtb := gm (List.mem_of_getElem? (i := 45) (by decide +kernel)) rfl
theorem wd_46 : Cond.selects RX7 yX7_noStair yX7_noStair ∈ gtb := gm (List.mem_of_getElem? (i := 46) (by decide +kernel)) rfl
theorem wd_47 : Cond.selects RX7 yX7_layMoved yX7_layMoved ∈ gtb := gm (List.mem_of_getElem? (i := 47) (by decide +kernel)) rfl
theorem wd_48 : Cond.selects RX7 yX7_waitOf yX7_waitOf ∈ gtb := gm (List.mem_of_getElem? (i := 48) (by decide +kernel)) rfl
theorem wd_49 : Cond.selects RX7 yX7_laterBy yX7_laterBy ∈ gtb := gm (List.mem_of_getElem? (i := 49) (by decide +kernel)) rfl
theorem wd_50 : Cond.selects RX7 yX7_heapOf yX7_heapOf ∈ gtb := gm (List.mem_of_getElem? (i := 50) (by decide +kernel)) rfl
theorem wd_51 : Cond.selects RX7 yX7_wayFault yX7_wayFault ∈ gtb := gm (List.mem_of_getElem? (i := 51) (by decide +kernel)) rfl
theorem wd_52 : Cond.selects RX7 yX7_noFlow yX7_noFlow ∈ gtb := gm (List.mem_of_getElem? (i := 52) (by decide +kernel)) rfl
theorem wd_53 : Cond.selects RX7 yX7_layRounds yX7_layRounds ∈ gtb := gm (List.mem_of_getElem? (i := 53) (by decide +kernel)) rfl
theorem wd_54 : Cond.selects RX7 yX7_noStep yX7_noStep ∈ gtb := gm (List.mem_of_getElem? (i := 54) (by decide +kernel)) rfl
theorem wd_55 : Cond.selects RX7 yX7_layAll yX7_layAll ∈ gtb := gm (List.mem_of_getElem? (i := 55) (by decide +kernel)) rfl
theorem wd_56 : Cond.selects RX7 yX7_areServed yX7_areServed ∈ gtb := gm (List.mem_of_getElem? (i := 56) (by decide +kernel)) rfl
theorem wd_57 : Cond.selects RX7 yX7_layComing yX7_layComing ∈ gtb := gm (List.mem_of_getElem? (i := 57) (by decide +kernel)) rfl
theorem wd_58 : Cond.selects RX7 yX7_placeOf yX7_placeOf ∈ gtb := gm (List.mem_of_getElem? (i := 58) (by decide +kernel)) rfl
theorem wd_59 : Cond.selects RX7 yX7_layThere yX7_layThere ∈ gtb := gm (List.mem_of_getElem? (i := 59) (by decide +kernel)) rfl
theorem wd_60 : Cond.selects RX7 yX7_laySum yX7_laySum ∈ gtb := gm (List.mem_of_getElem? (i := 60) (by decide +kernel)) rfl
theorem wd_61 : Cond.selects RX7 yX7_layZero yX7_layZero ∈ gtb := gm (List.mem_of_getElem? (i := 61) (by decide +kernel)) rfl
theorem wd_62 : Cond.selects RX7 yX7_breaks yX7_breaks ∈ gtb := gm (List.mem_of_getElem? (i := 62) (by decide +kernel)) rfl
theorem wd_63 : Cond.selects RX7 yX7_noCell yX7_noCell ∈ gtb := gm (List.mem_of_getElem? (i := 63) (by decide +kernel)) rfl
theorem wd_64 : Cond.selects RX7 yX7_failedLong yX7_failedLong ∈ gtb := gm (List.mem_of_getElem? (i := 64) (by decide +kernel)) rfl
theorem wd_65 : Cond.selects RX7 yX7_traced yX7_traced ∈ gtb := gm (List.mem_of_getElem? (i := 65) (by decide +kernel)) rfl
theorem wd_67 : Cond.initialized RX6 ∈ gtb := gm (List.mem_of_getElem? (i := 67) (by decide +kernel)) rfl
theorem wd_68 : Cond.initialized RX4 ∈ gtb := gm (List.mem_of_getElem? (i := 68) (by decide +kernel)) rfl
theorem wd_69 : Cond.initialized RX0 ∈ gtb := gm (List.mem_of_getElem? (i := 69) (by decide +kernel)) rfl
theorem wd_70 : Cond.initialized RJ7 ∈ gtb := gm (List.mem_of_getElem? (i := 70) (by decide +kernel)) rfl
theorem wd_71 : Cond.initialized RX2 ∈ gtb := gm (List.mem_of_getElem? (i := 71) (by decide +kernel)) rfl
theorem wd_72 : Cond.initialized RX3 ∈ gtb := gm (List.mem_of_getElem? (i := 72) (by decide +kernel)) rfl
theorem wd_73 : Cond.initialized RX5 ∈ gtb := gm (List.mem_of_getElem? (i := 73) (by decide +kernel)) rfl
theorem wd_74 : Cond.initialized RX7 ∈ gtb := gm (List.mem_of_getElem? (i := 74) (by decide +kernel)) rfl
theorem wd_75 : Cond.initialized "java/lang/System" ∈ gtb := gm (List.mem_of_getElem? (i := 75) (by decide +kernel)) rfl
theorem wd_76 : Cond.initialized RX1 ∈ gtb := gm (List.mem_of_getElem? (i := 76) (by decide +kernel)) rfl
theorem wd_77 : Cond.initialized "java/lang/Math" ∈ gtb := gm (List.mem_of_getElem? (i := 77) (by decide +kernel)) rfl
theorem wd_94 : Cond.fieldLink RX4 11 "BurstBounds$Stairs" "rows" "[[I" ∈ gtb := gm (List.mem_of_getElem? (i := 94) (by decide +kernel)) rfl
theorem wd_95 : Cond.fieldLink RX4 16 "BurstBounds$Stairs" "kinds" "[I" ∈ gtb := gm (List.mem_of_getElem? (i := 95) (by decide +kernel)) rfl
theorem wd_96 : Cond.fieldLinkNest RX6 281 "BurstBounds$Stairs" "kinds" "[I" "BurstBounds" ∈ lw_tbl := List.mem_of_getElem? (i := 96) (by decide +kernel)
theorem wd_97 : Cond.fieldLink RX4 20 "BurstBounds$Stairs" "count" "I" ∈ gtb := gm (List.mem_of_getElem? (i := 97) (by decide +kernel)) rfl
theorem wd_98 : Cond.fieldLinkNest RX6 299 "BurstBounds$Stairs" "count" "I" "BurstBounds" ∈ lw_tbl := List.mem_of_getElem? (i := 98) (by decide +kernel)
theorem wd_114 : Cond.methodLink RX0 64 yJ7_fill_53178 ∈ gtb := gm (List.mem_of_getElem? (i := 114) (by decide +kernel)) rfl
theorem wd_115 : Cond.static yJ7_fill_53178 ∈ gtb := gm (List.mem_of_getElem? (i := 115) (by decide +kernel)) rfl
theorem wd_116 : Cond.code yJ7_fill_53178 cJ7_fill_53178 4 none ∈ gtb := gm (List.mem_of_getElem? (i := 116) (by decide +kernel)) rfl
theorem wd_117 : Cond.fieldLink RX0 9 "BurstBounds$Network" "servedBy" "[I" ∈ gtb := gm (List.mem_of_getElem? (i := 117) (by decide +kernel)) rfl
theorem wd_118 : Cond.fieldLinkNest RX6 146 "BurstBounds$Network" "servedBy" "[I" "BurstBounds" ∈ lw_tbl := List.mem_of_getElem? (i := 118) (by decide +kernel)
theorem wd_119 : Cond.fieldLink RX0 17 "BurstBounds$Network" "served" "[[I" ∈ gtb := gm (List.mem_of_getElem? (i := 119) (by decide +kernel)) rfl
theorem wd_120 : Cond.fieldLink RX0 20 "BurstBounds$Network" "flowStairs" "[I" ∈ gtb := gm (List.mem_of_getElem? (i := 120) (by decide +kernel)) rfl
theorem wd_121 : Cond.fieldLinkNest RX6 163 "BurstBounds$Network" "flowStairs" "[I" "BurstBounds" ∈ lw_tbl := List.mem_of_getElem? (i := 121) (by decide +kernel)
theorem wd_122 : Cond.fieldLink RX0 23 "BurstBounds$Network" "lengths" "[I" ∈ gtb := gm (List.mem_of_getElem? (i := 122) (by decide +kernel)) rfl
theorem wd_123 : Cond.fieldLinkNest RX6 166 "BurstBounds$Network" "lengths" "[I" "BurstBounds" ∈ lw_tbl := List.mem_of_getElem? (i := 123) (by decide +kernel)
theorem wd_124 : Cond.fieldLink RX0 26 "BurstBounds$Network" "ways" "[[I" ∈ gtb := gm (List.mem_of_getElem? (i := 124) (by decide +kernel)) rfl
theorem wd_125 : Cond.fieldLinkNest RX6 172 "BurstBounds$Network" "ways" "[[I" "BurstBounds" ∈ lw_tbl := List.mem_of_getElem? (i := 125) (by decide +kernel)
theorem wd_126 : Cond.fieldLink RX0 29 "BurstBounds$Network" "flows" "I" ∈ gtb := gm (List.mem_of_getElem? (i := 126) (by decide +kernel)) rfl
theorem wd_127 : Cond.fieldLinkNest RX6 300 "BurstBounds$Network" "flows" "I" "BurstBounds" ∈ lw_tbl := List.mem_of_getElem? (i := 127) (by decide +kernel)
theorem wd_128 : Cond.fieldLink RX0 33 "BurstBounds$Network" "ruleNow" "I" ∈ gtb := gm (List.mem_of_getElem? (i := 128) (by decide +kernel)) rfl
theorem wd_129 : Cond.fieldLinkNest RX6 176 "BurstBounds$Network" "ruleNow" "I" "BurstBounds" ∈ lw_tbl := List.mem_of_getElem? (i := 129) (by decide +kernel)
theorem wd_130 : Cond.fieldLink RX0 36 "BurstBounds$Network" "comes" "[[I" ∈ gtb := gm (List.mem_of_getElem? (i := 130) (by decide +kernel)) rfl
theorem wd_131 : Cond.fieldLink RX0 39 "BurstBounds$Network" "has" "[[I" ∈ gtb := gm (List.mem_of_getElem? (i := 131) (by decide +kernel)) rfl
theorem wd_132 : Cond.fieldLink RX0 42 "BurstBounds$Network" "waits" "[I" ∈ gtb := gm (List.mem_of_getElem? (i := 132) (by decide +kernel)) rfl
theorem wd_133 : Cond.fieldLink RX0 45 "BurstBounds$Network" "ahead" "[I" ∈ gtb := gm (List.mem_of_getElem? (i := 133) (by decide +kernel)) rfl
theorem wd_134 : Cond.fieldLink RX0 48 "BurstBounds$Network" "order" "[I" ∈ gtb := gm (List.mem_of_getElem? (i := 134) (by decide +kernel)) rfl
theorem wd_135 : Cond.fieldLink RX0 51 "BurstBounds$Network" "sum" "[I" ∈ gtb := gm (List.mem_of_getElem? (i := 135) (by decide +kernel)) rfl
theorem wd_136 : Cond.fieldLink RX0 54 "BurstBounds$Network" "along" "[I" ∈ gtb := gm (List.mem_of_getElem? (i := 136) (by decide +kernel)) rfl
theorem wd_137 : Cond.fieldLink RX0 57 "BurstBounds$Network" "isFresh" "Z" ∈ gtb := gm (List.mem_of_getElem? (i := 137) (by decide +kernel)) rfl
theorem wd_138 : Cond.fieldLink RX0 61 "BurstBounds$Network" "bounded" "Z" ∈ gtb := gm (List.mem_of_getElem? (i := 138) (by decide +kernel)) rfl
theorem wd_178 : Cond.fieldLink RX2 9 "BurstBounds$Seen" "came" "[I" ∈ gtb := gm (List.mem_of_getElem? (i := 178) (by decide +kernel)) rfl
theorem wd_179 : Cond.fieldLink RX2 15 "BurstBounds$Seen" "shaped" "[I" ∈ gtb := gm (List.mem_of_getElem? (i := 179) (by decide +kernel)) rfl
theorem wd_180 : Cond.fieldLinkNest RX6 236 "BurstBounds$Seen" "shaped" "[I" "BurstBounds" ∈ lw_tbl := List.mem_of_getElem? (i := 180) (by decide +kernel)
theorem wd_181 : Cond.fieldLink RX2 18 "BurstBounds$Seen" "count" "I" ∈ gtb := gm (List.mem_of_getElem? (i := 181) (by decide +kernel)) rfl
theorem wd_182 : Cond.fieldLinkNest RX6 222 "BurstBounds$Seen" "count" "I" "BurstBounds" ∈ lw_tbl := List.mem_of_getElem? (i := 182) (by decide +kernel)
theorem wd_197 : Cond.methodLink RX3 23 yJ7_fill_53178 ∈ gtb := gm (List.mem_of_getElem? (i := 197) (by decide +kernel)) rfl
theorem wd_198 : Cond.fieldLink RX3 11 "BurstBounds$Sheets" "cells" "[[I" ∈ gtb := gm (List.mem_of_getElem? (i := 198) (by decide +kernel)) rfl
theorem wd_199 : Cond.fieldLinkNest RX6 273 "BurstBounds$Sheets" "cells" "[[I" "BurstBounds" ∈ lw_tbl := List.mem_of_getElem? (i := 199) (by decide +kernel)
theorem wd_200 : Cond.fieldLink RX3 16 "BurstBounds$Sheets" "lengths" "[I" ∈ gtb := gm (List.mem_of_getElem? (i := 200) (by decide +kernel)) rfl
theorem wd_201 : Cond.fieldLink RX3 20 "BurstBounds$Sheets" "lanes" "[I" ∈ gtb := gm (List.mem_of_getElem? (i := 201) (by decide +kernel)) rfl
theorem wd_215 : Cond.fieldLink RX5 9 "BurstBounds$TextReader" "codes" "[I" ∈ gtb := gm (List.mem_of_getElem? (i := 215) (by decide +kernel)) rfl
theorem wd_216 : Cond.fieldLink RX5 15 "BurstBounds$TextReader" "item" "[I" ∈ gtb := gm (List.mem_of_getElem? (i := 216) (by decide +kernel)) rfl
theorem wd_217 : Cond.fieldLink RX5 18 "BurstBounds$TextReader" "whole" "[I" ∈ gtb := gm (List.mem_of_getElem? (i := 217) (by decide +kernel)) rfl
theorem wd_218 : Cond.fieldLinkNest RX6 118 "BurstBounds$TextReader" "whole" "[I" "BurstBounds" ∈ lw_tbl := List.mem_of_getElem? (i := 218) (by decide +kernel)
theorem wd_219 : Cond.fieldLink RX5 21 "BurstBounds$TextReader" "kind" "I" ∈ gtb := gm (List.mem_of_getElem? (i := 219) (by decide +kernel)) rfl
theorem wd_220 : Cond.fieldLinkNest RX6 125 "BurstBounds$TextReader" "kind" "I" "BurstBounds" ∈ lw_tbl := List.mem_of_getElem? (i := 220) (by decide +kernel)
theorem wd_221 : Cond.fieldLink RX5 25 "BurstBounds$TextReader" "count" "I" ∈ gtb := gm (List.mem_of_getElem? (i := 221) (by decide +kernel)) rfl
theorem wd_222 : Cond.fieldLink RX5 28 "BurstBounds$TextReader" "place" "I" ∈ gtb := gm (List.mem_of_getElem? (i := 222) (by decide +kernel)) rfl
theorem wd_223 : Cond.fieldLink RX5 31 "BurstBounds$TextReader" "sign" "I" ∈ gtb := gm (List.mem_of_getElem? (i := 223) (by decide +kernel)) rfl
theorem wd_224 : Cond.fieldLink RX5 34 "BurstBounds$TextReader" "wrong" "I" ∈ gtb := gm (List.mem_of_getElem? (i := 224) (by decide +kernel)) rfl
theorem wd_242 : Cond.fieldLink RX6 12 "BurstBounds" "stairs" "LBurstBounds$Stairs;" ∈ gtb := gm (List.mem_of_getElem? (i := 242) (by decide +kernel)) rfl
theorem wd_243 : Cond.fieldLink RX6 21 "BurstBounds" "network" "LBurstBounds$Network;" ∈ gtb := gm (List.mem_of_getElem? (i := 243) (by decide +kernel)) rfl
theorem wd_244 : Cond.fieldLink RX6 28 "BurstBounds" "seen" "LBurstBounds$Seen;" ∈ gtb := gm (List.mem_of_getElem? (i := 244) (by decide +kernel)) rfl
theorem wd_245 : Cond.fieldLink RX6 35 "BurstBounds" "sheets" "LBurstBounds$Sheets;" ∈ gtb := gm (List.mem_of_getElem? (i := 245) (by decide +kernel)) rfl
theorem wd_246 : Cond.fieldLink RX6 42 "BurstBounds" "reader" "LBurstBounds$TextReader;" ∈ gtb := gm (List.mem_of_getElem? (i := 246) (by decide +kernel)) rfl
theorem wd_247 : Cond.fieldLink RX6 46 "BurstBounds" "taken" "[I" ∈ gtb := gm (List.mem_of_getElem? (i := 247) (by decide +kernel)) rfl
theorem wd_248 : Cond.fieldLink RX6 50 "BurstBounds" "summed" "[I" ∈ gtb := gm (List.mem_of_getElem? (i := 248) (by decide +kernel)) rfl
theorem wd_249 : Cond.fieldLink RX6 53 "BurstBounds" "traced" "I" ∈ gtb := gm (List.mem_of_getElem? (i := 249) (by decide +kernel)) rfl
theorem wd_250 : Cond.fieldLink RX6 57 "BurstBounds" "latestFault" "I" ∈ gtb := gm (List.mem_of_getElem? (i := 250) (by decide +kernel)) rfl
theorem wd_274 : Cond.methodLink RX6 60 yX6_stepsOf ∈ gtb := gm (List.mem_of_getElem? (i := 274) (by decide +kernel)) rfl
theorem wd_276 : Cond.instanceMethod yX6_stepsOf ∈ gtb := gm (List.mem_of_getElem? (i := 276) (by decide +kernel)) rfl
theorem wd_277 : Cond.code yX6_stepsOf cX6_stepsOf 6 (some .int) ∈ gtb := gm (List.mem_of_getElem? (i := 277) (by decide +kernel)) rfl
theorem wd_278 : Cond.methodLink RX6 103 yX3_take ∈ gtb := gm (List.mem_of_getElem? (i := 278) (by decide +kernel)) rfl
theorem wd_279 : Cond.instanceMethod yX3_take ∈ gtb := gm (List.mem_of_getElem? (i := 279) (by decide +kernel)) rfl
theorem wd_280 : Cond.selects RX3 yX3_take yX3_take ∈ gtb := gm (List.mem_of_getElem? (i := 280) (by decide +kernel)) rfl
theorem wd_281 : Cond.code yX3_take cX3_take 7 (some .int) ∈ gtb := gm (List.mem_of_getElem? (i := 281) (by decide +kernel)) rfl
theorem wd_282 : Cond.methodLink RX3 40 yX3_whyUntaken ∈ gtb := gm (List.mem_of_getElem? (i := 282) (by decide +kernel)) rfl
theorem wd_284 : Cond.instanceMethod yX3_whyUntaken ∈ gtb := gm (List.mem_of_getElem? (i := 284) (by decide +kernel)) rfl
theorem wd_285 : Cond.code yX3_whyUntaken cX3_whyUntaken 3 (some .int) ∈ gtb := gm (List.mem_of_getElem? (i := 285) (by decide +kernel)) rfl
theorem wd_286 : Cond.methodLink RX3 29 yX3_has ∈ gtb := gm (List.mem_of_getElem? (i := 286) (by decide +kernel)) rfl
theorem wd_287 : Cond.instanceMethod yX3_has ∈ gtb := gm (List.mem_of_getElem? (i := 287) (by decide +kernel)) rfl
theorem wd_288 : Cond.selects RX3 yX3_has yX3_has ∈ gtb := gm (List.mem_of_getElem? (i := 288) (by decide +kernel)) rfl
theorem wd_289 : Cond.code yX3_has cX3_has 2 (some .boolean) ∈ gtb := gm (List.mem_of_getElem? (i := 289) (by decide +kernel)) rfl
theorem wd_290 : Cond.methodLink RX3 33 yX3_isLane ∈ gtb := gm (List.mem_of_getElem? (i := 290) (by decide +kernel)) rfl
theorem wd_292 : Cond.instanceMethod yX3_isLane ∈ gtb := gm (List.mem_of_getElem? (i := 292) (by decide +kernel)) rfl
theorem wd_293 : Cond.code yX3_isLane cX3_isLane 2 (some .boolean) ∈ gtb := gm (List.mem_of_getElem? (i := 293) (by decide +kernel)) rfl
theorem wd_294 : Cond.methodLink RX3 43 yX3_isBeyond ∈ gtb := gm (List.mem_of_getElem? (i := 294) (by decide +kernel)) rfl
theorem wd_296 : Cond.instanceMethod yX3_isBeyond ∈ gtb := gm (List.mem_of_getElem? (i := 296) (by decide +kernel)) rfl
theorem wd_297 : Cond.code yX3_isBeyond cX3_isBeyond 4 (some .boolean) ∈ gtb := gm (List.mem_of_getElem? (i := 297) (by decide +kernel)) rfl
theorem wd_298 : Cond.methodLink RX3 47 arraycopyName ∈ gtb := gm (List.mem_of_getElem? (i := 298) (by decide +kernel)) rfl
theorem wd_299 : Cond.static arraycopyName ∈ gtb := gm (List.mem_of_getElem? (i := 299) (by decide +kernel)) rfl
theorem wd_300 : Cond.native arraycopyName ∈ gtb := gm (List.mem_of_getElem? (i := 300) (by decide +kernel)) rfl
theorem wd_301 : Cond.methodLink RX6 107 yX6_isRowOfSteps ∈ gtb := gm (List.mem_of_getElem? (i := 301) (by decide +kernel)) rfl
theorem wd_303 : Cond.instanceMethod yX6_isRowOfSteps ∈ gtb := gm (List.mem_of_getElem? (i := 303) (by decide +kernel)) rfl
theorem wd_304 : Cond.code yX6_isRowOfSteps cX6_isRowOfSteps 3 (some .boolean) ∈ gtb := gm (List.mem_of_getElem? (i := 304) (by decide +kernel)) rfl
theorem wd_305 : Cond.methodLink RX6 68 yX6_isUpTo ∈ gtb := gm (List.mem_of_getElem? (i := 305) (by decide +kernel)) rfl
theorem wd_306 : Cond.static yX6_isUpTo ∈ gtb := gm (List.mem_of_getElem? (i := 306) (by decide +kernel)) rfl
theorem wd_307 : Cond.code yX6_isUpTo cX6_isUpTo 2 (some .boolean) ∈ gtb := gm (List.mem_of_getElem? (i := 307) (by decide +kernel)) rfl
theorem wd_308 : Cond.methodLink RX6 72 yX4_isFull ∈ gtb := gm (List.mem_of_getElem? (i := 308) (by decide +kernel)) rfl
theorem wd_309 : Cond.instanceMethod yX4_isFull ∈ gtb := gm (List.mem_of_getElem? (i := 309) (by decide +kernel)) rfl
theorem wd_310 : Cond.selects RX4 yX4_isFull yX4_isFull ∈ gtb := gm (List.mem_of_getElem? (i := 310) (by decide +kernel)) rfl
theorem wd_311 : Cond.code yX4_isFull cX4_isFull 1 (some .boolean) ∈ gtb := gm (List.mem_of_getElem? (i := 311) (by decide +kernel)) rfl
theorem wd_312 : Cond.methodLink RX6 76 yX4_nextRow ∈ gtb := gm (List.mem_of_getElem? (i := 312) (by decide +kernel)) rfl
theorem wd_313 : Cond.instanceMethod yX4_nextRow ∈ gtb := gm (List.mem_of_getElem? (i := 313) (by decide +kernel)) rfl
theorem wd_314 : Cond.selects RX4 yX4_nextRow yX4_nextRow ∈ gtb := gm (List.mem_of_getElem? (i := 314) (by decide +kernel)) rfl
theorem wd_315 : Cond.code yX4_nextRow cX4_nextRow 1 (some (.array .int)) ∈ gtb := gm (List.mem_of_getElem? (i := 315) (by decide +kernel)) rfl
theorem wd_316 : Cond.methodLink RX6 110 yX1_fillSteps ∈ gtb := gm (List.mem_of_getElem? (i := 316) (by decide +kernel)) rfl
theorem wd_317 : Cond.static yX1_fillSteps ∈ gtb := gm (List.mem_of_getElem? (i := 317) (by decide +kernel)) rfl
theorem wd_318 : Cond.code yX1_fillSteps cX1_fillSteps 4 none ∈ gtb := gm (List.mem_of_getElem? (i := 318) (by decide +kernel)) rfl
theorem wd_319 : Cond.methodLink RX1 9 Lib.Math.min.name ∈ gtb := gm (List.mem_of_getElem? (i := 319) (by decide +kernel)) rfl
theorem wd_320 : Cond.static Lib.Math.min.name ∈ gtb := gm (List.mem_of_getElem? (i := 320) (by decide +kernel)) rfl
theorem wd_321 : Cond.code Lib.Math.min.name Lib.Math.min.code 2 (some .int) ∈ gtb := gm (List.mem_of_getElem? (i := 321) (by decide +kernel)) rfl
theorem wd_322 : Cond.constant RX1 15 (99999) ∈ gtb := gm (List.mem_of_getElem? (i := 322) (by decide +kernel)) rfl
theorem wd_323 : Cond.methodLink RX6 86 yX4_keepNext ∈ gtb := gm (List.mem_of_getElem? (i := 323) (by decide +kernel)) rfl
theorem wd_324 : Cond.instanceMethod yX4_keepNext ∈ gtb := gm (List.mem_of_getElem? (i := 324) (by decide +kernel)) rfl
theorem wd_325 : Cond.selects RX4 yX4_keepNext yX4_keepNext ∈ gtb := gm (List.mem_of_getElem? (i := 325) (by decide +kernel)) rfl
theorem wd_326 : Cond.code yX4_keepNext cX4_keepNext 2 (some .int) ∈ gtb := gm (List.mem_of_getElem? (i := 326) (by decide +kernel)) rfl
theorem wd_327 : Cond.methodLink RX6 64 yX6_ended ∈ gtb := gm (List.mem_of_getElem? (i := 327) (by decide +kernel)) rfl
theorem wd_329 : Cond.instanceMethod yX6_ended ∈ gtb := gm (List.mem_of_getElem? (i := 329) (by decide +kernel)) rfl
theorem wd_330 : Cond.code yX6_ended cX6_ended 2 (some .int) ∈ gtb := gm (List.mem_of_getElem? (i := 330) (by decide +kernel)) rfl
theorem wd_335 : Cond.methodLink RX6 80 yX1_fillBucket ∈ gtb := gm (List.mem_of_getElem? (i := 335) (by decide +kernel)) rfl
theorem wd_336 : Cond.static yX1_fillBucket ∈ gtb := gm (List.mem_of_getElem? (i := 336) (by decide +kernel)) rfl
theorem wd_337 : Cond.code yX1_fillBucket cX1_fillBucket 4 none ∈ gtb := gm (List.mem_of_getElem? (i := 337) (by decide +kernel)) rfl
theorem wd_342 : Cond.methodLink RX6 89 yX1_fillLate ∈ gtb := gm (List.mem_of_getElem? (i := 342) (by decide +kernel)) rfl
theorem wd_343 : Cond.static yX1_fillLate ∈ gtb := gm (List.mem_of_getElem? (i := 343) (by decide +kernel)) rfl
theorem wd_344 : Cond.code yX1_fillLate cX1_fillLate 4 none ∈ gtb := gm (List.mem_of_getElem? (i := 344) (by decide +kernel)) rfl
theorem wd_349 : Cond.methodLink RX6 92 yX6_stairOfText ∈ gtb := gm (List.mem_of_getElem? (i := 349) (by decide +kernel)) rfl
theorem wd_351 : Cond.instanceMethod yX6_stairOfText ∈ gtb := gm (List.mem_of_getElem? (i := 351) (by decide +kernel)) rfl
theorem wd_352 : Cond.code yX6_stairOfText cX6_stairOfText 7 (some .int) ∈ gtb := gm (List.mem_of_getElem? (i := 352) (by decide +kernel)) rfl
theorem wd_353 : Cond.methodLink RX6 114 yX5_read ∈ gtb := gm (List.mem_of_getElem? (i := 353) (by decide +kernel)) rfl
theorem wd_354 : Cond.instanceMethod yX5_read ∈ gtb := gm (List.mem_of_getElem? (i := 354) (by decide +kernel)) rfl
theorem wd_355 : Cond.selects RX5 yX5_read yX5_read ∈ gtb := gm (List.mem_of_getElem? (i := 355) (by decide +kernel)) rfl
theorem wd_356 : Cond.code yX5_read cX5_read 4 (some .int) ∈ gtb := gm (List.mem_of_getElem? (i := 356) (by decide +kernel)) rfl
theorem wd_357 : Cond.methodLink RX5 37 arraycopyName ∈ gtb := gm (List.mem_of_getElem? (i := 357) (by decide +kernel)) rfl
theorem wd_358 : Cond.methodLink RX5 43 yX5_readItem ∈ gtb := gm (List.mem_of_getElem? (i := 358) (by decide +kernel)) rfl
theorem wd_360 : Cond.instanceMethod yX5_readItem ∈ gtb := gm (List.mem_of_getElem? (i := 360) (by decide +kernel)) rfl
theorem wd_361 : Cond.code yX5_readItem cX5_readItem 3 none ∈ gtb := gm (List.mem_of_getElem? (i := 361) (by decide +kernel)) rfl
theorem wd_362 : Cond.methodLink RX5 62 yX5_codeHere ∈ gtb := gm (List.mem_of_getElem? (i := 362) (by decide +kernel)) rfl
theorem wd_364 : Cond.instanceMethod yX5_codeHere ∈ gtb := gm (List.mem_of_getElem? (i := 364) (by decide +kernel)) rfl
theorem wd_365 : Cond.code yX5_codeHere cX5_codeHere 1 (some .int) ∈ gtb := gm (List.mem_of_getElem? (i := 365) (by decide +kernel)) rfl
theorem wd_366 : Cond.methodLink RX5 66 yX5_readNumber ∈ gtb := gm (List.mem_of_getElem? (i := 366) (by decide +kernel)) rfl
theorem wd_368 : Cond.instanceMethod yX5_readNumber ∈ gtb := gm (List.mem_of_getElem? (i := 368) (by decide +kernel)) rfl
theorem wd_369 : Cond.code yX5_readNumber cX5_readNumber 5 (some .int) ∈ gtb := gm (List.mem_of_getElem? (i := 369) (by decide +kernel)) rfl
theorem wd_370 : Cond.methodLink RX5 87 yX5_isDigit ∈ gtb := gm (List.mem_of_getElem? (i := 370) (by decide +kernel)) rfl
theorem wd_371 : Cond.static yX5_isDigit ∈ gtb := gm (List.mem_of_getElem? (i := 371) (by decide +kernel)) rfl
theorem wd_372 : Cond.code yX5_isDigit cX5_isDigit 1 (some .boolean) ∈ gtb := gm (List.mem_of_getElem? (i := 372) (by decide +kernel)) rfl
theorem wd_373 : Cond.methodLink RX5 70 yX5_readPace ∈ gtb := gm (List.mem_of_getElem? (i := 373) (by decide +kernel)) rfl
theorem wd_375 : Cond.instanceMethod yX5_readPace ∈ gtb := gm (List.mem_of_getElem? (i := 375) (by decide +kernel)) rfl
theorem wd_376 : Cond.code yX5_readPace cX5_readPace 1 (some .int) ∈ gtb := gm (List.mem_of_getElem? (i := 376) (by decide +kernel)) rfl
theorem wd_377 : Cond.methodLink RX5 73 yX1_fillBucket ∈ gtb := gm (List.mem_of_getElem? (i := 377) (by decide +kernel)) rfl
theorem wd_378 : Cond.methodLink RX5 77 yX1_fillLate ∈ gtb := gm (List.mem_of_getElem? (i := 378) (by decide +kernel)) rfl
theorem wd_379 : Cond.methodLink RX5 46 yX1_fillSame ∈ gtb := gm (List.mem_of_getElem? (i := 379) (by decide +kernel)) rfl
theorem wd_380 : Cond.static yX1_fillSame ∈ gtb := gm (List.mem_of_getElem? (i := 380) (by decide +kernel)) rfl
theorem wd_381 : Cond.code yX1_fillSame cX1_fillSame 2 none ∈ gtb := gm (List.mem_of_getElem? (i := 381) (by decide +kernel)) rfl
theorem wd_382 : Cond.methodLink RX1 16 arraycopyName ∈ gtb := gm (List.mem_of_getElem? (i := 382) (by decide +kernel)) rfl
theorem wd_383 : Cond.methodLink RX5 52 yX5_goesOn ∈ gtb := gm (List.mem_of_getElem? (i := 383) (by decide +kernel)) rfl
theorem wd_385 : Cond.instanceMethod yX5_goesOn ∈ gtb := gm (List.mem_of_getElem? (i := 385) (by decide +kernel)) rfl
theorem wd_386 : Cond.code yX5_goesOn cX5_goesOn 1 (some .boolean) ∈ gtb := gm (List.mem_of_getElem? (i := 386) (by decide +kernel)) rfl
theorem wd_387 : Cond.methodLink RX5 56 yX5_readSign ∈ gtb := gm (List.mem_of_getElem? (i := 387) (by decide +kernel)) rfl
theorem wd_389 : Cond.instanceMethod yX5_readSign ∈ gtb := gm (List.mem_of_getElem? (i := 389) (by decide +kernel)) rfl
theorem wd_390 : Cond.code yX5_readSign cX5_readSign 3 none ∈ gtb := gm (List.mem_of_getElem? (i := 390) (by decide +kernel)) rfl
theorem wd_391 : Cond.methodLink RX5 59 yX5_joinItem ∈ gtb := gm (List.mem_of_getElem? (i := 391) (by decide +kernel)) rfl
theorem wd_393 : Cond.instanceMethod yX5_joinItem ∈ gtb := gm (List.mem_of_getElem? (i := 393) (by decide +kernel)) rfl
theorem wd_394 : Cond.code yX5_joinItem cX5_joinItem 1 none ∈ gtb := gm (List.mem_of_getElem? (i := 394) (by decide +kernel)) rfl
theorem wd_395 : Cond.methodLink RX5 80 yX1_fillLeast ∈ gtb := gm (List.mem_of_getElem? (i := 395) (by decide +kernel)) rfl
theorem wd_396 : Cond.static yX1_fillLeast ∈ gtb := gm (List.mem_of_getElem? (i := 396) (by decide +kernel)) rfl
theorem wd_397 : Cond.code yX1_fillLeast cX1_fillLeast 4 none ∈ gtb := gm (List.mem_of_getElem? (i := 397) (by decide +kernel)) rfl
theorem wd_398 : Cond.methodLink RX5 84 yX1_fillSum ∈ gtb := gm (List.mem_of_getElem? (i := 398) (by decide +kernel)) rfl
theorem wd_399 : Cond.static yX1_fillSum ∈ gtb := gm (List.mem_of_getElem? (i := 399) (by decide +kernel)) rfl
theorem wd_400 : Cond.code yX1_fillSum cX1_fillSum 4 none ∈ gtb := gm (List.mem_of_getElem? (i := 400) (by decide +kernel)) rfl
theorem wd_401 : Cond.methodLink RX6 121 yX1_fillSame ∈ gtb := gm (List.mem_of_getElem? (i := 401) (by decide +kernel)) rfl
theorem wd_406 : Cond.methodLink RX6 95 yX4_has ∈ gtb := gm (List.mem_of_getElem? (i := 406) (by decide +kernel)) rfl
theorem wd_407 : Cond.instanceMethod yX4_has ∈ gtb := gm (List.mem_of_getElem? (i := 407) (by decide +kernel)) rfl
theorem wd_408 : Cond.selects RX4 yX4_has yX4_has ∈ gtb := gm (List.mem_of_getElem? (i := 408) (by decide +kernel)) rfl
theorem wd_409 : Cond.code yX4_has cX4_has 2 (some .boolean) ∈ gtb := gm (List.mem_of_getElem? (i := 409) (by decide +kernel)) rfl
theorem wd_410 : Cond.methodLink RX6 99 yX4_row ∈ gtb := gm (List.mem_of_getElem? (i := 410) (by decide +kernel)) rfl
theorem wd_411 : Cond.instanceMethod yX4_row ∈ gtb := gm (List.mem_of_getElem? (i := 411) (by decide +kernel)) rfl
theorem wd_412 : Cond.selects RX4 yX4_row yX4_row ∈ gtb := gm (List.mem_of_getElem? (i := 412) (by decide +kernel)) rfl
theorem wd_413 : Cond.code yX4_row cX4_row 2 (some (.array .int)) ∈ gtb := gm (List.mem_of_getElem? (i := 413) (by decide +kernel)) rfl
theorem wd_418 : Cond.methodLink RX6 128 yX1_fillMade ∈ gtb := gm (List.mem_of_getElem? (i := 418) (by decide +kernel)) rfl
theorem wd_419 : Cond.static yX1_fillMade ∈ gtb := gm (List.mem_of_getElem? (i := 419) (by decide +kernel)) rfl
theorem wd_420 : Cond.code yX1_fillMade cX1_fillMade 4 none ∈ gtb := gm (List.mem_of_getElem? (i := 420) (by decide +kernel)) rfl
theorem wd_421 : Cond.methodLink RX1 22 yX1_fillLeast ∈ gtb := gm (List.mem_of_getElem? (i := 421) (by decide +kernel)) rfl
theorem wd_422 : Cond.methodLink RX1 28 yX1_fillSum ∈ gtb := gm (List.mem_of_getElem? (i := 422) (by decide +kernel)) rfl
theorem wd_423 : Cond.methodLink RX1 31 yX1_fillAlong ∈ gtb := gm (List.mem_of_getElem? (i := 423) (by decide +kernel)) rfl
theorem wd_424 : Cond.static yX1_fillAlong ∈ gtb := gm (List.mem_of_getElem? (i := 424) (by decide +kernel)) rfl
theorem wd_425 : Cond.code yX1_fillAlong cX1_fillAlong 6 none ∈ gtb := gm (List.mem_of_getElem? (i := 425) (by decide +kernel)) rfl
theorem wd_426 : Cond.methodLink RX1 34 yX1_fillOut ∈ gtb := gm (List.mem_of_getElem? (i := 426) (by decide +kernel)) rfl
theorem wd_427 : Cond.static yX1_fillOut ∈ gtb := gm (List.mem_of_getElem? (i := 427) (by decide +kernel)) rfl
theorem wd_428 : Cond.code yX1_fillOut cX1_fillOut 6 none ∈ gtb := gm (List.mem_of_getElem? (i := 428) (by decide +kernel)) rfl
theorem wd_429 : Cond.methodLink RX1 40 Lib.Math.max.name ∈ gtb := gm (List.mem_of_getElem? (i := 429) (by decide +kernel)) rfl
theorem wd_430 : Cond.static Lib.Math.max.name ∈ gtb := gm (List.mem_of_getElem? (i := 430) (by decide +kernel)) rfl
theorem wd_431 : Cond.code Lib.Math.max.name Lib.Math.max.code 2 (some .int) ∈ gtb := gm (List.mem_of_getElem? (i := 431) (by decide +kernel)) rfl
theorem wd_432 : Cond.methodLink RX1 37 yX1_fillLeft ∈ gtb := gm (List.mem_of_getElem? (i := 432) (by decide +kernel)) rfl
theorem wd_433 : Cond.static yX1_fillLeft ∈ gtb := gm (List.mem_of_getElem? (i := 433) (by decide +kernel)) rfl
theorem wd_434 : Cond.code yX1_fillLeft cX1_fillLeft 5 none ∈ gtb := gm (List.mem_of_getElem? (i := 434) (by decide +kernel)) rfl
theorem wd_439 : Cond.methodLink RX6 132 yX1_fillHeldBack ∈ gtb := gm (List.mem_of_getElem? (i := 439) (by decide +kernel)) rfl
theorem wd_440 : Cond.static yX1_fillHeldBack ∈ gtb := gm (List.mem_of_getElem? (i := 440) (by decide +kernel)) rfl
theorem wd_441 : Cond.code yX1_fillHeldBack cX1_fillHeldBack 4 none ∈ gtb := gm (List.mem_of_getElem? (i := 441) (by decide +kernel)) rfl
theorem wd_442 : Cond.methodLink RX6 135 yX1_fillAhead ∈ gtb := gm (List.mem_of_getElem? (i := 442) (by decide +kernel)) rfl
theorem wd_443 : Cond.static yX1_fillAhead ∈ gtb := gm (List.mem_of_getElem? (i := 443) (by decide +kernel)) rfl
theorem wd_444 : Cond.code yX1_fillAhead cX1_fillAhead 4 none ∈ gtb := gm (List.mem_of_getElem? (i := 444) (by decide +kernel)) rfl
theorem wd_449 : Cond.methodLink RX6 138 yX1_longestWait ∈ gtb := gm (List.mem_of_getElem? (i := 449) (by decide +kernel)) rfl
theorem wd_450 : Cond.static yX1_longestWait ∈ gtb := gm (List.mem_of_getElem? (i := 450) (by decide +kernel)) rfl
theorem wd_451 : Cond.code yX1_longestWait cX1_longestWait 6 (some .int) ∈ gtb := gm (List.mem_of_getElem? (i := 451) (by decide +kernel)) rfl
theorem wd_456 : Cond.methodLink RX6 142 yX1_greatestHeap ∈ gtb := gm (List.mem_of_getElem? (i := 456) (by decide +kernel)) rfl
theorem wd_457 : Cond.static yX1_greatestHeap ∈ gtb := gm (List.mem_of_getElem? (i := 457) (by decide +kernel)) rfl
theorem wd_458 : Cond.code yX1_greatestHeap cX1_greatestHeap 4 (some .int) ∈ gtb := gm (List.mem_of_getElem? (i := 458) (by decide +kernel)) rfl
theorem wd_467 : Cond.methodLink RX6 149 yX0_serveNothing ∈ gtb := gm (List.mem_of_getElem? (i := 467) (by decide +kernel)) rfl
theorem wd_468 : Cond.instanceMethod yX0_serveNothing ∈ gtb := gm (List.mem_of_getElem? (i := 468) (by decide +kernel)) rfl
theorem wd_469 : Cond.selects RX0 yX0_serveNothing yX0_serveNothing ∈ gtb := gm (List.mem_of_getElem? (i := 469) (by decide +kernel)) rfl
theorem wd_470 : Cond.code yX0_serveNothing cX0_serveNothing 2 none ∈ gtb := gm (List.mem_of_getElem? (i := 470) (by decide +kernel)) rfl
theorem wd_471 : Cond.methodLink RX6 153 yX0_serveBy ∈ gtb := gm (List.mem_of_getElem? (i := 471) (by decide +kernel)) rfl
theorem wd_472 : Cond.instanceMethod yX0_serveBy ∈ gtb := gm (List.mem_of_getElem? (i := 472) (by decide +kernel)) rfl
theorem wd_473 : Cond.selects RX0 yX0_serveBy yX0_serveBy ∈ gtb := gm (List.mem_of_getElem? (i := 473) (by decide +kernel)) rfl
theorem wd_474 : Cond.code yX0_serveBy cX0_serveBy 4 none ∈ gtb := gm (List.mem_of_getElem? (i := 474) (by decide +kernel)) rfl
theorem wd_475 : Cond.methodLink RX0 70 yX1_fillSame ∈ gtb := gm (List.mem_of_getElem? (i := 475) (by decide +kernel)) rfl
theorem wd_480 : Cond.methodLink RX6 156 yX6_newFlow ∈ gtb := gm (List.mem_of_getElem? (i := 480) (by decide +kernel)) rfl
theorem wd_482 : Cond.instanceMethod yX6_newFlow ∈ gtb := gm (List.mem_of_getElem? (i := 482) (by decide +kernel)) rfl
theorem wd_483 : Cond.code yX6_newFlow cX6_newFlow 7 (some .int) ∈ gtb := gm (List.mem_of_getElem? (i := 483) (by decide +kernel)) rfl
theorem wd_484 : Cond.methodLink RX6 211 yX6_whyNoWay ∈ gtb := gm (List.mem_of_getElem? (i := 484) (by decide +kernel)) rfl
theorem wd_486 : Cond.instanceMethod yX6_whyNoWay ∈ gtb := gm (List.mem_of_getElem? (i := 486) (by decide +kernel)) rfl
theorem wd_487 : Cond.code yX6_whyNoWay cX6_whyNoWay 4 (some .int) ∈ gtb := gm (List.mem_of_getElem? (i := 487) (by decide +kernel)) rfl
theorem wd_488 : Cond.methodLink RX6 214 yX0_isFull ∈ gtb := gm (List.mem_of_getElem? (i := 488) (by decide +kernel)) rfl
theorem wd_489 : Cond.instanceMethod yX0_isFull ∈ gtb := gm (List.mem_of_getElem? (i := 489) (by decide +kernel)) rfl
theorem wd_490 : Cond.selects RX0 yX0_isFull yX0_isFull ∈ gtb := gm (List.mem_of_getElem? (i := 490) (by decide +kernel)) rfl
theorem wd_491 : Cond.code yX0_isFull cX0_isFull 1 (some .boolean) ∈ gtb := gm (List.mem_of_getElem? (i := 491) (by decide +kernel)) rfl
theorem wd_492 : Cond.methodLink RX6 215 yX0_addFlow ∈ gtb := gm (List.mem_of_getElem? (i := 492) (by decide +kernel)) rfl
theorem wd_493 : Cond.instanceMethod yX0_addFlow ∈ gtb := gm (List.mem_of_getElem? (i := 493) (by decide +kernel)) rfl
theorem wd_494 : Cond.selects RX0 yX0_addFlow yX0_addFlow ∈ gtb := gm (List.mem_of_getElem? (i := 494) (by decide +kernel)) rfl
theorem wd_495 : Cond.code yX0_addFlow cX0_addFlow 6 (some .int) ∈ gtb := gm (List.mem_of_getElem? (i := 495) (by decide +kernel)) rfl
theorem wd_496 : Cond.methodLink RX0 76 arraycopyName ∈ gtb := gm (List.mem_of_getElem? (i := 496) (by decide +kernel)) rfl
theorem wd_497 : Cond.methodLink RX0 82 yX0_comesAt ∈ gtb := gm (List.mem_of_getElem? (i := 497) (by decide +kernel)) rfl
theorem wd_498 : Cond.instanceMethod yX0_comesAt ∈ gtb := gm (List.mem_of_getElem? (i := 498) (by decide +kernel)) rfl
theorem wd_499 : Cond.selects RX0 yX0_comesAt yX0_comesAt ∈ gtb := gm (List.mem_of_getElem? (i := 499) (by decide +kernel)) rfl
theorem wd_500 : Cond.code yX0_comesAt cX0_comesAt 3 (some (.array .int)) ∈ gtb := gm (List.mem_of_getElem? (i := 500) (by decide +kernel)) rfl
theorem wd_505 : Cond.methodLink RX6 160 yX0_hasFlow ∈ gtb := gm (List.mem_of_getElem? (i := 505) (by decide +kernel)) rfl
theorem wd_506 : Cond.instanceMethod yX0_hasFlow ∈ gtb := gm (List.mem_of_getElem? (i := 506) (by decide +kernel)) rfl
theorem wd_507 : Cond.selects RX0 yX0_hasFlow yX0_hasFlow ∈ gtb := gm (List.mem_of_getElem? (i := 507) (by decide +kernel)) rfl
theorem wd_508 : Cond.code yX0_hasFlow cX0_hasFlow 2 (some .boolean) ∈ gtb := gm (List.mem_of_getElem? (i := 508) (by decide +kernel)) rfl
theorem wd_509 : Cond.methodLink RX6 169 yX0_hasPlace ∈ gtb := gm (List.mem_of_getElem? (i := 509) (by decide +kernel)) rfl
theorem wd_510 : Cond.instanceMethod yX0_hasPlace ∈ gtb := gm (List.mem_of_getElem? (i := 510) (by decide +kernel)) rfl
theorem wd_511 : Cond.selects RX0 yX0_hasPlace yX0_hasPlace ∈ gtb := gm (List.mem_of_getElem? (i := 511) (by decide +kernel)) rfl
theorem wd_512 : Cond.code yX0_hasPlace cX0_hasPlace 3 (some .boolean) ∈ gtb := gm (List.mem_of_getElem? (i := 512) (by decide +kernel)) rfl
theorem wd_513 : Cond.methodLink RX0 86 yX0_hasFlow ∈ gtb := gm (List.mem_of_getElem? (i := 513) (by decide +kernel)) rfl
theorem wd_518 : Cond.methodLink RX6 179 yX0_ruleBy ∈ gtb := gm (List.mem_of_getElem? (i := 518) (by decide +kernel)) rfl
theorem wd_519 : Cond.instanceMethod yX0_ruleBy ∈ gtb := gm (List.mem_of_getElem? (i := 519) (by decide +kernel)) rfl
theorem wd_520 : Cond.selects RX0 yX0_ruleBy yX0_ruleBy ∈ gtb := gm (List.mem_of_getElem? (i := 520) (by decide +kernel)) rfl
theorem wd_521 : Cond.code yX0_ruleBy cX0_ruleBy 2 none ∈ gtb := gm (List.mem_of_getElem? (i := 521) (by decide +kernel)) rfl
theorem wd_526 : Cond.methodLink RX6 182 yX0_hasRing ∈ gtb := gm (List.mem_of_getElem? (i := 526) (by decide +kernel)) rfl
theorem wd_527 : Cond.instanceMethod yX0_hasRing ∈ gtb := gm (List.mem_of_getElem? (i := 527) (by decide +kernel)) rfl
theorem wd_528 : Cond.selects RX0 yX0_hasRing yX0_hasRing ∈ gtb := gm (List.mem_of_getElem? (i := 528) (by decide +kernel)) rfl
theorem wd_529 : Cond.code yX0_hasRing cX0_hasRing 1 (some .boolean) ∈ gtb := gm (List.mem_of_getElem? (i := 529) (by decide +kernel)) rfl
theorem wd_530 : Cond.methodLink RX0 90 yX0_orderNodes ∈ gtb := gm (List.mem_of_getElem? (i := 530) (by decide +kernel)) rfl
theorem wd_532 : Cond.instanceMethod yX0_orderNodes ∈ gtb := gm (List.mem_of_getElem? (i := 532) (by decide +kernel)) rfl
theorem wd_533 : Cond.code yX0_orderNodes cX0_orderNodes 6 (some .int) ∈ gtb := gm (List.mem_of_getElem? (i := 533) (by decide +kernel)) rfl
theorem wd_534 : Cond.methodLink RX0 94 yX0_noteAhead ∈ gtb := gm (List.mem_of_getElem? (i := 534) (by decide +kernel)) rfl
theorem wd_536 : Cond.instanceMethod yX0_noteAhead ∈ gtb := gm (List.mem_of_getElem? (i := 536) (by decide +kernel)) rfl
theorem wd_537 : Cond.code yX0_noteAhead cX0_noteAhead 3 none ∈ gtb := gm (List.mem_of_getElem? (i := 537) (by decide +kernel)) rfl
theorem wd_542 : Cond.methodLink RX6 185 yX0_isBounded ∈ gtb := gm (List.mem_of_getElem? (i := 542) (by decide +kernel)) rfl
theorem wd_543 : Cond.instanceMethod yX0_isBounded ∈ gtb := gm (List.mem_of_getElem? (i := 543) (by decide +kernel)) rfl
theorem wd_544 : Cond.selects RX0 yX0_isBounded yX0_isBounded ∈ gtb := gm (List.mem_of_getElem? (i := 544) (by decide +kernel)) rfl
theorem wd_545 : Cond.code yX0_isBounded cX0_isBounded 1 (some .boolean) ∈ gtb := gm (List.mem_of_getElem? (i := 545) (by decide +kernel)) rfl
theorem wd_546 : Cond.methodLink RX0 97 yX0_isServedOnWays ∈ gtb := gm (List.mem_of_getElem? (i := 546) (by decide +kernel)) rfl
theorem wd_548 : Cond.instanceMethod yX0_isServedOnWays ∈ gtb := gm (List.mem_of_getElem? (i := 548) (by decide +kernel)) rfl
theorem wd_549 : Cond.code yX0_isServedOnWays cX0_isServedOnWays 3 (some .boolean) ∈ gtb := gm (List.mem_of_getElem? (i := 549) (by decide +kernel)) rfl
theorem wd_550 : Cond.methodLink RX0 101 yX0_workOut ∈ gtb := gm (List.mem_of_getElem? (i := 550) (by decide +kernel)) rfl
theorem wd_552 : Cond.instanceMethod yX0_workOut ∈ gtb := gm (List.mem_of_getElem? (i := 552) (by decide +kernel)) rfl
theorem wd_553 : Cond.code yX0_workOut cX0_workOut 4 (some .boolean) ∈ gtb := gm (List.mem_of_getElem? (i := 553) (by decide +kernel)) rfl
theorem wd_554 : Cond.methodLink RX0 104 yX0_placeOn ∈ gtb := gm (List.mem_of_getElem? (i := 554) (by decide +kernel)) rfl
theorem wd_556 : Cond.instanceMethod yX0_placeOn ∈ gtb := gm (List.mem_of_getElem? (i := 556) (by decide +kernel)) rfl
theorem wd_557 : Cond.code yX0_placeOn cX0_placeOn 4 (some .int) ∈ gtb := gm (List.mem_of_getElem? (i := 557) (by decide +kernel)) rfl
theorem wd_558 : Cond.methodLink RX0 108 yX0_workOutAt ∈ gtb := gm (List.mem_of_getElem? (i := 558) (by decide +kernel)) rfl
theorem wd_560 : Cond.instanceMethod yX0_workOutAt ∈ gtb := gm (List.mem_of_getElem? (i := 560) (by decide +kernel)) rfl
theorem wd_561 : Cond.code yX0_workOutAt cX0_workOutAt 5 (some .boolean) ∈ gtb := gm (List.mem_of_getElem? (i := 561) (by decide +kernel)) rfl
theorem wd_562 : Cond.methodLink RX0 112 yX0_sumComing ∈ gtb := gm (List.mem_of_getElem? (i := 562) (by decide +kernel)) rfl
theorem wd_564 : Cond.instanceMethod yX0_sumComing ∈ gtb := gm (List.mem_of_getElem? (i := 564) (by decide +kernel)) rfl
theorem wd_565 : Cond.code yX0_sumComing cX0_sumComing 6 none ∈ gtb := gm (List.mem_of_getElem? (i := 565) (by decide +kernel)) rfl
theorem wd_566 : Cond.methodLink RX0 137 yX1_fillSum ∈ gtb := gm (List.mem_of_getElem? (i := 566) (by decide +kernel)) rfl
theorem wd_567 : Cond.methodLink RX0 116 yX0_hasAt ∈ gtb := gm (List.mem_of_getElem? (i := 567) (by decide +kernel)) rfl
theorem wd_568 : Cond.instanceMethod yX0_hasAt ∈ gtb := gm (List.mem_of_getElem? (i := 568) (by decide +kernel)) rfl
theorem wd_569 : Cond.selects RX0 yX0_hasAt yX0_hasAt ∈ gtb := gm (List.mem_of_getElem? (i := 569) (by decide +kernel)) rfl
theorem wd_570 : Cond.code yX0_hasAt cX0_hasAt 3 (some (.array .int)) ∈ gtb := gm (List.mem_of_getElem? (i := 570) (by decide +kernel)) rfl
theorem wd_571 : Cond.methodLink RX0 119 yX1_longestWait ∈ gtb := gm (List.mem_of_getElem? (i := 571) (by decide +kernel)) rfl
theorem wd_572 : Cond.methodLink RX0 123 yX1_fillLeft ∈ gtb := gm (List.mem_of_getElem? (i := 572) (by decide +kernel)) rfl
theorem wd_573 : Cond.methodLink RX0 127 yX0_goesOnFrom ∈ gtb := gm (List.mem_of_getElem? (i := 573) (by decide +kernel)) rfl
theorem wd_574 : Cond.instanceMethod yX0_goesOnFrom ∈ gtb := gm (List.mem_of_getElem? (i := 574) (by decide +kernel)) rfl
theorem wd_575 : Cond.selects RX0 yX0_goesOnFrom yX0_goesOnFrom ∈ gtb := gm (List.mem_of_getElem? (i := 575) (by decide +kernel)) rfl
theorem wd_576 : Cond.code yX0_goesOnFrom cX0_goesOnFrom 3 (some (.array .int)) ∈ gtb := gm (List.mem_of_getElem? (i := 576) (by decide +kernel)) rfl
theorem wd_577 : Cond.methodLink RX0 130 yX1_fillAhead ∈ gtb := gm (List.mem_of_getElem? (i := 577) (by decide +kernel)) rfl
theorem wd_578 : Cond.methodLink RX0 134 yX1_fillOut ∈ gtb := gm (List.mem_of_getElem? (i := 578) (by decide +kernel)) rfl
theorem wd_579 : Cond.methodLink RX6 188 yX0_latestAt ∈ gtb := gm (List.mem_of_getElem? (i := 579) (by decide +kernel)) rfl
theorem wd_580 : Cond.instanceMethod yX0_latestAt ∈ gtb := gm (List.mem_of_getElem? (i := 580) (by decide +kernel)) rfl
theorem wd_581 : Cond.selects RX0 yX0_latestAt yX0_latestAt ∈ gtb := gm (List.mem_of_getElem? (i := 581) (by decide +kernel)) rfl
theorem wd_582 : Cond.code yX0_latestAt cX0_latestAt 3 (some .int) ∈ gtb := gm (List.mem_of_getElem? (i := 582) (by decide +kernel)) rfl
theorem wd_587 : Cond.methodLink RX6 192 yX0_comesAt ∈ gtb := gm (List.mem_of_getElem? (i := 587) (by decide +kernel)) rfl
theorem wd_588 : Cond.methodLink RX6 196 yX0_hasAt ∈ gtb := gm (List.mem_of_getElem? (i := 588) (by decide +kernel)) rfl
theorem wd_589 : Cond.methodLink RX6 199 yX0_goesOnFrom ∈ gtb := gm (List.mem_of_getElem? (i := 589) (by decide +kernel)) rfl
theorem wd_594 : Cond.methodLink RX6 202 yX0_greatestHeapIn ∈ gtb := gm (List.mem_of_getElem? (i := 594) (by decide +kernel)) rfl
theorem wd_595 : Cond.instanceMethod yX0_greatestHeapIn ∈ gtb := gm (List.mem_of_getElem? (i := 595) (by decide +kernel)) rfl
theorem wd_596 : Cond.selects RX0 yX0_greatestHeapIn yX0_greatestHeapIn ∈ gtb := gm (List.mem_of_getElem? (i := 596) (by decide +kernel)) rfl
theorem wd_597 : Cond.code yX0_greatestHeapIn cX0_greatestHeapIn 2 (some .int) ∈ gtb := gm (List.mem_of_getElem? (i := 597) (by decide +kernel)) rfl
theorem wd_598 : Cond.methodLink RX0 140 yX1_greatestHeap ∈ gtb := gm (List.mem_of_getElem? (i := 598) (by decide +kernel)) rfl
theorem wd_603 : Cond.methodLink RX6 205 yX0_waitByNodes ∈ gtb := gm (List.mem_of_getElem? (i := 603) (by decide +kernel)) rfl
theorem wd_604 : Cond.instanceMethod yX0_waitByNodes ∈ gtb := gm (List.mem_of_getElem? (i := 604) (by decide +kernel)) rfl
theorem wd_605 : Cond.selects RX0 yX0_waitByNodes yX0_waitByNodes ∈ gtb := gm (List.mem_of_getElem? (i := 605) (by decide +kernel)) rfl
theorem wd_606 : Cond.code yX0_waitByNodes cX0_waitByNodes 4 (some .int) ∈ gtb := gm (List.mem_of_getElem? (i := 606) (by decide +kernel)) rfl
theorem wd_607 : Cond.methodLink RX0 144 yX0_latestAt ∈ gtb := gm (List.mem_of_getElem? (i := 607) (by decide +kernel)) rfl
theorem wd_608 : Cond.methodLink RX6 208 yX0_waitAtOnce ∈ gtb := gm (List.mem_of_getElem? (i := 608) (by decide +kernel)) rfl
theorem wd_609 : Cond.instanceMethod yX0_waitAtOnce ∈ gtb := gm (List.mem_of_getElem? (i := 609) (by decide +kernel)) rfl
theorem wd_610 : Cond.selects RX0 yX0_waitAtOnce yX0_waitAtOnce ∈ gtb := gm (List.mem_of_getElem? (i := 610) (by decide +kernel)) rfl
theorem wd_611 : Cond.code yX0_waitAtOnce cX0_waitAtOnce 3 (some .int) ∈ gtb := gm (List.mem_of_getElem? (i := 611) (by decide +kernel)) rfl
theorem wd_612 : Cond.methodLink RX0 147 yX1_fillAlong ∈ gtb := gm (List.mem_of_getElem? (i := 612) (by decide +kernel)) rfl
theorem wd_617 : Cond.methodLink RX6 219 yX6_seenOf ∈ gtb := gm (List.mem_of_getElem? (i := 617) (by decide +kernel)) rfl
theorem wd_619 : Cond.instanceMethod yX6_seenOf ∈ gtb := gm (List.mem_of_getElem? (i := 619) (by decide +kernel)) rfl
theorem wd_620 : Cond.code yX6_seenOf cX6_seenOf 6 (some .int) ∈ gtb := gm (List.mem_of_getElem? (i := 620) (by decide +kernel)) rfl
theorem wd_621 : Cond.methodLink RX6 256 yX2_replaceBy ∈ gtb := gm (List.mem_of_getElem? (i := 621) (by decide +kernel)) rfl
theorem wd_622 : Cond.instanceMethod yX2_replaceBy ∈ gtb := gm (List.mem_of_getElem? (i := 622) (by decide +kernel)) rfl
theorem wd_623 : Cond.selects RX2 yX2_replaceBy yX2_replaceBy ∈ gtb := gm (List.mem_of_getElem? (i := 623) (by decide +kernel)) rfl
theorem wd_624 : Cond.code yX2_replaceBy cX2_replaceBy 4 none ∈ gtb := gm (List.mem_of_getElem? (i := 624) (by decide +kernel)) rfl
theorem wd_629 : Cond.methodLink RX6 225 yX2_firstBreak ∈ gtb := gm (List.mem_of_getElem? (i := 629) (by decide +kernel)) rfl
theorem wd_630 : Cond.instanceMethod yX2_firstBreak ∈ gtb := gm (List.mem_of_getElem? (i := 630) (by decide +kernel)) rfl
theorem wd_631 : Cond.selects RX2 yX2_firstBreak yX2_firstBreak ∈ gtb := gm (List.mem_of_getElem? (i := 631) (by decide +kernel)) rfl
theorem wd_632 : Cond.code yX2_firstBreak cX2_firstBreak 4 (some .int) ∈ gtb := gm (List.mem_of_getElem? (i := 632) (by decide +kernel)) rfl
theorem wd_637 : Cond.methodLink RX6 229 yX2_leastBurst ∈ gtb := gm (List.mem_of_getElem? (i := 637) (by decide +kernel)) rfl
theorem wd_638 : Cond.instanceMethod yX2_leastBurst ∈ gtb := gm (List.mem_of_getElem? (i := 638) (by decide +kernel)) rfl
theorem wd_639 : Cond.selects RX2 yX2_leastBurst yX2_leastBurst ∈ gtb := gm (List.mem_of_getElem? (i := 639) (by decide +kernel)) rfl
theorem wd_640 : Cond.code yX2_leastBurst cX2_leastBurst 6 (some .int) ∈ gtb := gm (List.mem_of_getElem? (i := 640) (by decide +kernel)) rfl
theorem wd_641 : Cond.methodLink RX2 22 Lib.Math.max.name ∈ gtb := gm (List.mem_of_getElem? (i := 641) (by decide +kernel)) rfl
theorem wd_642 : Cond.methodLink RX2 28 Lib.Math.min.name ∈ gtb := gm (List.mem_of_getElem? (i := 642) (by decide +kernel)) rfl
theorem wd_647 : Cond.methodLink RX6 232 yX2_shapeBy ∈ gtb := gm (List.mem_of_getElem? (i := 647) (by decide +kernel)) rfl
theorem wd_648 : Cond.instanceMethod yX2_shapeBy ∈ gtb := gm (List.mem_of_getElem? (i := 648) (by decide +kernel)) rfl
theorem wd_649 : Cond.selects RX2 yX2_shapeBy yX2_shapeBy ∈ gtb := gm (List.mem_of_getElem? (i := 649) (by decide +kernel)) rfl
theorem wd_650 : Cond.code yX2_shapeBy cX2_shapeBy 2 none ∈ gtb := gm (List.mem_of_getElem? (i := 650) (by decide +kernel)) rfl
theorem wd_651 : Cond.methodLink RX2 31 yX1_fillAlong ∈ gtb := gm (List.mem_of_getElem? (i := 651) (by decide +kernel)) rfl
theorem wd_652 : Cond.methodLink RX6 239 yX2_mostHeld ∈ gtb := gm (List.mem_of_getElem? (i := 652) (by decide +kernel)) rfl
theorem wd_653 : Cond.instanceMethod yX2_mostHeld ∈ gtb := gm (List.mem_of_getElem? (i := 653) (by decide +kernel)) rfl
theorem wd_654 : Cond.selects RX2 yX2_mostHeld yX2_mostHeld ∈ gtb := gm (List.mem_of_getElem? (i := 654) (by decide +kernel)) rfl
theorem wd_655 : Cond.code yX2_mostHeld cX2_mostHeld 1 (some .int) ∈ gtb := gm (List.mem_of_getElem? (i := 655) (by decide +kernel)) rfl
theorem wd_656 : Cond.methodLink RX2 37 yX1_greatestHeap ∈ gtb := gm (List.mem_of_getElem? (i := 656) (by decide +kernel)) rfl
theorem wd_657 : Cond.methodLink RX6 243 yX2_latestOfShaped ∈ gtb := gm (List.mem_of_getElem? (i := 657) (by decide +kernel)) rfl
theorem wd_658 : Cond.instanceMethod yX2_latestOfShaped ∈ gtb := gm (List.mem_of_getElem? (i := 658) (by decide +kernel)) rfl
theorem wd_659 : Cond.selects RX2 yX2_latestOfShaped yX2_latestOfShaped ∈ gtb := gm (List.mem_of_getElem? (i := 659) (by decide +kernel)) rfl
theorem wd_660 : Cond.code yX2_latestOfShaped cX2_latestOfShaped 1 (some .int) ∈ gtb := gm (List.mem_of_getElem? (i := 660) (by decide +kernel)) rfl
theorem wd_661 : Cond.methodLink RX2 41 yX1_longestWait ∈ gtb := gm (List.mem_of_getElem? (i := 661) (by decide +kernel)) rfl
theorem wd_666 : Cond.methodLink RX6 246 yJ7_fill_53178 ∈ gtb := gm (List.mem_of_getElem? (i := 666) (by decide +kernel)) rfl
theorem wd_667 : Cond.methodLink RX6 252 yX1_fillSum ∈ gtb := gm (List.mem_of_getElem? (i := 667) (by decide +kernel)) rfl
theorem wd_672 : Cond.methodLink RX6 259 yX3_renew ∈ gtb := gm (List.mem_of_getElem? (i := 672) (by decide +kernel)) rfl
theorem wd_673 : Cond.instanceMethod yX3_renew ∈ gtb := gm (List.mem_of_getElem? (i := 673) (by decide +kernel)) rfl
theorem wd_674 : Cond.selects RX3 yX3_renew yX3_renew ∈ gtb := gm (List.mem_of_getElem? (i := 674) (by decide +kernel)) rfl
theorem wd_675 : Cond.code yX3_renew cX3_renew 4 (some .int) ∈ gtb := gm (List.mem_of_getElem? (i := 675) (by decide +kernel)) rfl
theorem wd_680 : Cond.methodLink RX6 263 yX3_has ∈ gtb := gm (List.mem_of_getElem? (i := 680) (by decide +kernel)) rfl
theorem wd_681 : Cond.methodLink RX6 264 yX3_drop ∈ gtb := gm (List.mem_of_getElem? (i := 681) (by decide +kernel)) rfl
theorem wd_682 : Cond.instanceMethod yX3_drop ∈ gtb := gm (List.mem_of_getElem? (i := 682) (by decide +kernel)) rfl
theorem wd_683 : Cond.selects RX3 yX3_drop yX3_drop ∈ gtb := gm (List.mem_of_getElem? (i := 683) (by decide +kernel)) rfl
theorem wd_684 : Cond.code yX3_drop cX3_drop 3 (some .int) ∈ gtb := gm (List.mem_of_getElem? (i := 684) (by decide +kernel)) rfl
theorem wd_689 : Cond.methodLink RX6 267 yX3_write ∈ gtb := gm (List.mem_of_getElem? (i := 689) (by decide +kernel)) rfl
theorem wd_690 : Cond.instanceMethod yX3_write ∈ gtb := gm (List.mem_of_getElem? (i := 690) (by decide +kernel)) rfl
theorem wd_691 : Cond.selects RX3 yX3_write yX3_write ∈ gtb := gm (List.mem_of_getElem? (i := 691) (by decide +kernel)) rfl
theorem wd_692 : Cond.code yX3_write cX3_write 4 (some .int) ∈ gtb := gm (List.mem_of_getElem? (i := 692) (by decide +kernel)) rfl
theorem wd_693 : Cond.methodLink RX3 36 yX3_cut ∈ gtb := gm (List.mem_of_getElem? (i := 693) (by decide +kernel)) rfl
theorem wd_695 : Cond.instanceMethod yX3_cut ∈ gtb := gm (List.mem_of_getElem? (i := 695) (by decide +kernel)) rfl
theorem wd_696 : Cond.code yX3_cut cX3_cut 3 (some .int) ∈ gtb := gm (List.mem_of_getElem? (i := 696) (by decide +kernel)) rfl
theorem wd_701 : Cond.methodLink RX6 270 yX3_whyUnread ∈ gtb := gm (List.mem_of_getElem? (i := 701) (by decide +kernel)) rfl
theorem wd_702 : Cond.instanceMethod yX3_whyUnread ∈ gtb := gm (List.mem_of_getElem? (i := 702) (by decide +kernel)) rfl
theorem wd_703 : Cond.selects RX3 yX3_whyUnread yX3_whyUnread ∈ gtb := gm (List.mem_of_getElem? (i := 703) (by decide +kernel)) rfl
theorem wd_704 : Cond.code yX3_whyUnread cX3_whyUnread 5 (some .int) ∈ gtb := gm (List.mem_of_getElem? (i := 704) (by decide +kernel)) rfl
theorem wd_705 : Cond.constantLong RX6 276 (-9223372036854775808) ∈ gtb := gm (List.mem_of_getElem? (i := 705) (by decide +kernel)) rfl
theorem wd_710 : Cond.methodLink RX6 278 yX3_bring ∈ gtb := gm (List.mem_of_getElem? (i := 710) (by decide +kernel)) rfl
theorem wd_711 : Cond.instanceMethod yX3_bring ∈ gtb := gm (List.mem_of_getElem? (i := 711) (by decide +kernel)) rfl
theorem wd_712 : Cond.selects RX3 yX3_bring yX3_bring ∈ gtb := gm (List.mem_of_getElem? (i := 712) (by decide +kernel)) rfl
theorem wd_713 : Cond.code yX3_bring cX3_bring 6 (some .int) ∈ gtb := gm (List.mem_of_getElem? (i := 713) (by decide +kernel)) rfl
theorem wd_718 : Cond.methodLink RX6 284 yX6_toldByLate ∈ gtb := gm (List.mem_of_getElem? (i := 718) (by decide +kernel)) rfl
theorem wd_720 : Cond.instanceMethod yX6_toldByLate ∈ gtb := gm (List.mem_of_getElem? (i := 720) (by decide +kernel)) rfl
theorem wd_721 : Cond.code yX6_toldByLate cX6_toldByLate 3 (some .int) ∈ gtb := gm (List.mem_of_getElem? (i := 721) (by decide +kernel)) rfl
theorem wd_722 : Cond.methodLink RX6 293 yX6_leaveInTrace ∈ gtb := gm (List.mem_of_getElem? (i := 722) (by decide +kernel)) rfl
theorem wd_724 : Cond.instanceMethod yX6_leaveInTrace ∈ gtb := gm (List.mem_of_getElem? (i := 724) (by decide +kernel)) rfl
theorem wd_725 : Cond.code yX6_leaveInTrace cX6_leaveInTrace 2 none ∈ gtb := gm (List.mem_of_getElem? (i := 725) (by decide +kernel)) rfl
theorem wd_726 : Cond.methodLink RX6 287 yX6_toldByBucket ∈ gtb := gm (List.mem_of_getElem? (i := 726) (by decide +kernel)) rfl
theorem wd_728 : Cond.instanceMethod yX6_toldByBucket ∈ gtb := gm (List.mem_of_getElem? (i := 728) (by decide +kernel)) rfl
theorem wd_729 : Cond.code yX6_toldByBucket cX6_toldByBucket 2 (some .int) ∈ gtb := gm (List.mem_of_getElem? (i := 729) (by decide +kernel)) rfl
theorem wd_730 : Cond.methodLink RX6 290 yX6_toldBySteps ∈ gtb := gm (List.mem_of_getElem? (i := 730) (by decide +kernel)) rfl
theorem wd_732 : Cond.instanceMethod yX6_toldBySteps ∈ gtb := gm (List.mem_of_getElem? (i := 732) (by decide +kernel)) rfl
theorem wd_733 : Cond.code yX6_toldBySteps cX6_toldBySteps 2 (some .int) ∈ gtb := gm (List.mem_of_getElem? (i := 733) (by decide +kernel)) rfl
theorem wd_734 : Cond.constant RX6 306 (100000) ∈ gtb := gm (List.mem_of_getElem? (i := 734) (by decide +kernel)) rfl
theorem wd_743 : Cond.methodLink RX6 296 yX6_takenAs ∈ gtb := gm (List.mem_of_getElem? (i := 743) (by decide +kernel)) rfl
theorem wd_745 : Cond.instanceMethod yX6_takenAs ∈ gtb := gm (List.mem_of_getElem? (i := 745) (by decide +kernel)) rfl
theorem wd_746 : Cond.code yX6_takenAs cX6_takenAs 3 (some .int) ∈ gtb := gm (List.mem_of_getElem? (i := 746) (by decide +kernel)) rfl
theorem wd_759 : Cond.methodLink RX6 303 yX0_servingNodes ∈ gtb := gm (List.mem_of_getElem? (i := 759) (by decide +kernel)) rfl
theorem wd_760 : Cond.instanceMethod yX0_servingNodes ∈ gtb := gm (List.mem_of_getElem? (i := 760) (by decide +kernel)) rfl
theorem wd_761 : Cond.selects RX0 yX0_servingNodes yX0_servingNodes ∈ gtb := gm (List.mem_of_getElem? (i := 761) (by decide +kernel)) rfl
theorem wd_762 : Cond.code yX0_servingNodes cX0_servingNodes 3 (some .int) ∈ gtb := gm (List.mem_of_getElem? (i := 762) (by decide +kernel)) rfl
theorem wd_769 : Cond.fieldLink RX7 57 "BurstBoundsModel" "fault" "I" ∈ gtb := gm (List.mem_of_getElem? (i := 769) (by decide +kernel)) rfl
theorem wd_770 : Cond.fieldLink RX7 82 "BurstBoundsModel" "stairs" "I" ∈ gtb := gm (List.mem_of_getElem? (i := 770) (by decide +kernel)) rfl
theorem wd_771 : Cond.fieldLink RX7 7 "BurstBoundsModel" "kindOf" "[I" ∈ gtb := gm (List.mem_of_getElem? (i := 771) (by decide +kernel)) rfl
theorem wd_772 : Cond.fieldLink RX7 13 "BurstBoundsModel" "row" "[I" ∈ gtb := gm (List.mem_of_getElem? (i := 772) (by decide +kernel)) rfl
theorem wd_773 : Cond.fieldLink RX7 127 "BurstBoundsModel" "readAt" "I" ∈ gtb := gm (List.mem_of_getElem? (i := 773) (by decide +kernel)) rfl
theorem wd_774 : Cond.fieldLink RX7 141 "BurstBoundsModel" "readMany" "I" ∈ gtb := gm (List.mem_of_getElem? (i := 774) (by decide +kernel)) rfl
theorem wd_775 : Cond.fieldLink RX7 144 "BurstBoundsModel" "readSign" "I" ∈ gtb := gm (List.mem_of_getElem? (i := 775) (by decide +kernel)) rfl
theorem wd_776 : Cond.fieldLink RX7 16 "BurstBoundsModel" "readKind" "[I" ∈ gtb := gm (List.mem_of_getElem? (i := 776) (by decide +kernel)) rfl
theorem wd_777 : Cond.fieldLink RX7 19 "BurstBoundsModel" "readFirst" "[I" ∈ gtb := gm (List.mem_of_getElem? (i := 777) (by decide +kernel)) rfl
theorem wd_778 : Cond.fieldLink RX7 22 "BurstBoundsModel" "readRate" "[I" ∈ gtb := gm (List.mem_of_getElem? (i := 778) (by decide +kernel)) rfl
theorem wd_779 : Cond.fieldLink RX7 134 "BurstBoundsModel" "readNumber" "I" ∈ gtb := gm (List.mem_of_getElem? (i := 779) (by decide +kernel)) rfl
theorem wd_780 : Cond.fieldLink RX7 25 "BurstBoundsModel" "servedAt" "[I" ∈ gtb := gm (List.mem_of_getElem? (i := 780) (by decide +kernel)) rfl
theorem wd_781 : Cond.fieldLink RX7 190 "BurstBoundsModel" "flows" "I" ∈ gtb := gm (List.mem_of_getElem? (i := 781) (by decide +kernel)) rfl
theorem wd_782 : Cond.fieldLink RX7 28 "BurstBoundsModel" "flowStair" "[I" ∈ gtb := gm (List.mem_of_getElem? (i := 782) (by decide +kernel)) rfl
theorem wd_783 : Cond.fieldLink RX7 31 "BurstBoundsModel" "flowMany" "[I" ∈ gtb := gm (List.mem_of_getElem? (i := 783) (by decide +kernel)) rfl
theorem wd_784 : Cond.fieldLink RX7 34 "BurstBoundsModel" "flowNode" "[I" ∈ gtb := gm (List.mem_of_getElem? (i := 784) (by decide +kernel)) rfl
theorem wd_785 : Cond.fieldLink RX7 206 "BurstBoundsModel" "ruleNow" "I" ∈ gtb := gm (List.mem_of_getElem? (i := 785) (by decide +kernel)) rfl
theorem wd_786 : Cond.fieldLink RX7 37 "BurstBoundsModel" "round" "[I" ∈ gtb := gm (List.mem_of_getElem? (i := 786) (by decide +kernel)) rfl
theorem wd_787 : Cond.fieldLink RX7 40 "BurstBoundsModel" "latestAt" "[I" ∈ gtb := gm (List.mem_of_getElem? (i := 787) (by decide +kernel)) rfl
theorem wd_788 : Cond.fieldLink RX7 238 "BurstBoundsModel" "seenMany" "I" ∈ gtb := gm (List.mem_of_getElem? (i := 788) (by decide +kernel)) rfl
theorem wd_789 : Cond.fieldLink RX7 43 "BurstBoundsModel" "sheetSize" "[I" ∈ gtb := gm (List.mem_of_getElem? (i := 789) (by decide +kernel)) rfl
theorem wd_790 : Cond.fieldLink RX7 46 "BurstBoundsModel" "sheetLane" "[I" ∈ gtb := gm (List.mem_of_getElem? (i := 790) (by decide +kernel)) rfl
theorem wd_791 : Cond.fieldLink RX7 49 "BurstBoundsModel" "sheet" "[I" ∈ gtb := gm (List.mem_of_getElem? (i := 791) (by decide +kernel)) rfl
theorem wd_792 : Cond.fieldLink RX7 52 "BurstBoundsModel" "hands" "[I" ∈ gtb := gm (List.mem_of_getElem? (i := 792) (by decide +kernel)) rfl
theorem wd_793 : Cond.fieldLink RX7 257 "BurstBoundsModel" "traceNow" "I" ∈ gtb := gm (List.mem_of_getElem? (i := 793) (by decide +kernel)) rfl
theorem wd_849 : Cond.methodLink RX7 96 yX7_noSheet ∈ gtb := gm (List.mem_of_getElem? (i := 849) (by decide +kernel)) rfl
theorem wd_850 : Cond.static yX7_noSheet ∈ gtb := gm (List.mem_of_getElem? (i := 850) (by decide +kernel)) rfl
theorem wd_851 : Cond.code yX7_noSheet cX7_noSheet 1 (some .boolean) ∈ gtb := gm (List.mem_of_getElem? (i := 851) (by decide +kernel)) rfl
theorem wd_852 : Cond.constantLong RX7 248 (3) ∈ gtb := gm (List.mem_of_getElem? (i := 852) (by decide +kernel)) rfl
theorem wd_853 : Cond.methodLink RX7 67 yX7_in ∈ gtb := gm (List.mem_of_getElem? (i := 853) (by decide +kernel)) rfl
theorem wd_854 : Cond.static yX7_in ∈ gtb := gm (List.mem_of_getElem? (i := 854) (by decide +kernel)) rfl
theorem wd_855 : Cond.code yX7_in cX7_in 6 (some .boolean) ∈ gtb := gm (List.mem_of_getElem? (i := 855) (by decide +kernel)) rfl
theorem wd_856 : Cond.methodLink RX7 71 yX7_refused ∈ gtb := gm (List.mem_of_getElem? (i := 856) (by decide +kernel)) rfl
theorem wd_858 : Cond.instanceMethod yX7_refused ∈ gtb := gm (List.mem_of_getElem? (i := 858) (by decide +kernel)) rfl
theorem wd_859 : Cond.code yX7_refused cX7_refused 2 (some .int) ∈ gtb := gm (List.mem_of_getElem? (i := 859) (by decide +kernel)) rfl
theorem wd_860 : Cond.methodLink RX7 100 yX7_barred ∈ gtb := gm (List.mem_of_getElem? (i := 860) (by decide +kernel)) rfl
theorem wd_862 : Cond.instanceMethod yX7_barred ∈ gtb := gm (List.mem_of_getElem? (i := 862) (by decide +kernel)) rfl
theorem wd_863 : Cond.code yX7_barred cX7_barred 6 (some .int) ∈ gtb := gm (List.mem_of_getElem? (i := 863) (by decide +kernel)) rfl
theorem wd_864 : Cond.constantLong RX7 65 (2) ∈ gtb := gm (List.mem_of_getElem? (i := 864) (by decide +kernel)) rfl
theorem wd_865 : Cond.methodLink RX7 75 yX7_failed ∈ gtb := gm (List.mem_of_getElem? (i := 865) (by decide +kernel)) rfl
theorem wd_867 : Cond.instanceMethod yX7_failed ∈ gtb := gm (List.mem_of_getElem? (i := 867) (by decide +kernel)) rfl
theorem wd_868 : Cond.code yX7_failed cX7_failed 2 (some .int) ∈ gtb := gm (List.mem_of_getElem? (i := 868) (by decide +kernel)) rfl
theorem wd_869 : Cond.methodLink RX7 78 yX7_isBeyond ∈ gtb := gm (List.mem_of_getElem? (i := 869) (by decide +kernel)) rfl
theorem wd_870 : Cond.static yX7_isBeyond ∈ gtb := gm (List.mem_of_getElem? (i := 870) (by decide +kernel)) rfl
theorem wd_871 : Cond.code yX7_isBeyond cX7_isBeyond 4 (some .boolean) ∈ gtb := gm (List.mem_of_getElem? (i := 871) (by decide +kernel)) rfl
theorem wd_872 : Cond.methodLink RX7 104 yX7_areSteps ∈ gtb := gm (List.mem_of_getElem? (i := 872) (by decide +kernel)) rfl
theorem wd_874 : Cond.instanceMethod yX7_areSteps ∈ gtb := gm (List.mem_of_getElem? (i := 874) (by decide +kernel)) rfl
theorem wd_875 : Cond.code yX7_areSteps cX7_areSteps 5 (some .boolean) ∈ gtb := gm (List.mem_of_getElem? (i := 875) (by decide +kernel)) rfl
theorem wd_876 : Cond.constantLong RX7 92 (40) ∈ gtb := gm (List.mem_of_getElem? (i := 876) (by decide +kernel)) rfl
theorem wd_877 : Cond.constantLong RX7 94 (999) ∈ gtb := gm (List.mem_of_getElem? (i := 877) (by decide +kernel)) rfl
theorem wd_878 : Cond.methodLink RX7 88 yX7_set ∈ gtb := gm (List.mem_of_getElem? (i := 878) (by decide +kernel)) rfl
theorem wd_880 : Cond.instanceMethod yX7_set ∈ gtb := gm (List.mem_of_getElem? (i := 880) (by decide +kernel)) rfl
theorem wd_881 : Cond.code yX7_set cX7_set 5 none ∈ gtb := gm (List.mem_of_getElem? (i := 881) (by decide +kernel)) rfl
theorem wd_882 : Cond.constantLong RX7 85 (99999) ∈ gtb := gm (List.mem_of_getElem? (i := 882) (by decide +kernel)) rfl
theorem wd_883 : Cond.constant RX7 87 (99999) ∈ gtb := gm (List.mem_of_getElem? (i := 883) (by decide +kernel)) rfl
theorem wd_884 : Cond.methodLink RX7 108 yX7_of ∈ gtb := gm (List.mem_of_getElem? (i := 884) (by decide +kernel)) rfl
theorem wd_886 : Cond.instanceMethod yX7_of ∈ gtb := gm (List.mem_of_getElem? (i := 886) (by decide +kernel)) rfl
theorem wd_887 : Cond.code yX7_of cX7_of 3 (some .int) ∈ gtb := gm (List.mem_of_getElem? (i := 887) (by decide +kernel)) rfl
theorem wd_888 : Cond.methodLink RX7 112 yX7_lesser ∈ gtb := gm (List.mem_of_getElem? (i := 888) (by decide +kernel)) rfl
theorem wd_889 : Cond.static yX7_lesser ∈ gtb := gm (List.mem_of_getElem? (i := 889) (by decide +kernel)) rfl
theorem wd_890 : Cond.code yX7_lesser cX7_lesser 2 (some .int) ∈ gtb := gm (List.mem_of_getElem? (i := 890) (by decide +kernel)) rfl
theorem wd_891 : Cond.methodLink RX7 115 yX7_keep ∈ gtb := gm (List.mem_of_getElem? (i := 891) (by decide +kernel)) rfl
theorem wd_893 : Cond.instanceMethod yX7_keep ∈ gtb := gm (List.mem_of_getElem? (i := 893) (by decide +kernel)) rfl
theorem wd_894 : Cond.code yX7_keep cX7_keep 2 (some .int) ∈ gtb := gm (List.mem_of_getElem? (i := 894) (by decide +kernel)) rfl
theorem wd_899 : Cond.constantLong RX7 118 (9999) ∈ gtb := gm (List.mem_of_getElem? (i := 899) (by decide +kernel)) rfl
theorem wd_900 : Cond.methodLink RX7 120 yX7_layBucket ∈ gtb := gm (List.mem_of_getElem? (i := 900) (by decide +kernel)) rfl
theorem wd_902 : Cond.instanceMethod yX7_layBucket ∈ gtb := gm (List.mem_of_getElem? (i := 902) (by decide +kernel)) rfl
theorem wd_903 : Cond.code yX7_layBucket cX7_layBucket 5 none ∈ gtb := gm (List.mem_of_getElem? (i := 903) (by decide +kernel)) rfl
theorem wd_908 : Cond.methodLink RX7 124 yX7_layLate ∈ gtb := gm (List.mem_of_getElem? (i := 908) (by decide +kernel)) rfl
theorem wd_910 : Cond.instanceMethod yX7_layLate ∈ gtb := gm (List.mem_of_getElem? (i := 910) (by decide +kernel)) rfl
theorem wd_911 : Cond.code yX7_layLate cX7_layLate 5 none ∈ gtb := gm (List.mem_of_getElem? (i := 911) (by decide +kernel)) rfl
theorem wd_916 : Cond.methodLink RX7 150 yX7_readStair ∈ gtb := gm (List.mem_of_getElem? (i := 916) (by decide +kernel)) rfl
theorem wd_918 : Cond.instanceMethod yX7_readStair ∈ gtb := gm (List.mem_of_getElem? (i := 918) (by decide +kernel)) rfl
theorem wd_919 : Cond.code yX7_readStair cX7_readStair 6 (some .int) ∈ gtb := gm (List.mem_of_getElem? (i := 919) (by decide +kernel)) rfl
theorem wd_920 : Cond.methodLink RX7 147 yX7_readsItem ∈ gtb := gm (List.mem_of_getElem? (i := 920) (by decide +kernel)) rfl
theorem wd_922 : Cond.instanceMethod yX7_readsItem ∈ gtb := gm (List.mem_of_getElem? (i := 922) (by decide +kernel)) rfl
theorem wd_923 : Cond.code yX7_readsItem cX7_readsItem 6 (some .boolean) ∈ gtb := gm (List.mem_of_getElem? (i := 923) (by decide +kernel)) rfl
theorem wd_924 : Cond.methodLink RX7 137 yX7_readsNumber ∈ gtb := gm (List.mem_of_getElem? (i := 924) (by decide +kernel)) rfl
theorem wd_926 : Cond.instanceMethod yX7_readsNumber ∈ gtb := gm (List.mem_of_getElem? (i := 926) (by decide +kernel)) rfl
theorem wd_927 : Cond.code yX7_readsNumber cX7_readsNumber 6 (some .boolean) ∈ gtb := gm (List.mem_of_getElem? (i := 927) (by decide +kernel)) rfl
theorem wd_928 : Cond.constantLong RX7 130 (48) ∈ gtb := gm (List.mem_of_getElem? (i := 928) (by decide +kernel)) rfl
theorem wd_929 : Cond.constantLong RX7 132 (57) ∈ gtb := gm (List.mem_of_getElem? (i := 929) (by decide +kernel)) rfl
theorem wd_930 : Cond.methodLink RX7 153 yX7_layItem ∈ gtb := gm (List.mem_of_getElem? (i := 930) (by decide +kernel)) rfl
theorem wd_932 : Cond.instanceMethod yX7_layItem ∈ gtb := gm (List.mem_of_getElem? (i := 932) (by decide +kernel)) rfl
theorem wd_933 : Cond.code yX7_layItem cX7_layItem 3 none ∈ gtb := gm (List.mem_of_getElem? (i := 933) (by decide +kernel)) rfl
theorem wd_934 : Cond.methodLink RX7 157 yX7_layBoth ∈ gtb := gm (List.mem_of_getElem? (i := 934) (by decide +kernel)) rfl
theorem wd_936 : Cond.instanceMethod yX7_layBoth ∈ gtb := gm (List.mem_of_getElem? (i := 936) (by decide +kernel)) rfl
theorem wd_937 : Cond.code yX7_layBoth cX7_layBoth 7 none ∈ gtb := gm (List.mem_of_getElem? (i := 937) (by decide +kernel)) rfl
theorem wd_938 : Cond.methodLink RX7 164 yX7_alongAt ∈ gtb := gm (List.mem_of_getElem? (i := 938) (by decide +kernel)) rfl
theorem wd_940 : Cond.instanceMethod yX7_alongAt ∈ gtb := gm (List.mem_of_getElem? (i := 940) (by decide +kernel)) rfl
theorem wd_941 : Cond.code yX7_alongAt cX7_alongAt 6 (some .int) ∈ gtb := gm (List.mem_of_getElem? (i := 941) (by decide +kernel)) rfl
theorem wd_942 : Cond.methodLink RX7 168 yX7_outAt ∈ gtb := gm (List.mem_of_getElem? (i := 942) (by decide +kernel)) rfl
theorem wd_944 : Cond.instanceMethod yX7_outAt ∈ gtb := gm (List.mem_of_getElem? (i := 944) (by decide +kernel)) rfl
theorem wd_945 : Cond.code yX7_outAt cX7_outAt 6 (some .int) ∈ gtb := gm (List.mem_of_getElem? (i := 945) (by decide +kernel)) rfl
theorem wd_946 : Cond.methodLink RX7 171 yX7_greater ∈ gtb := gm (List.mem_of_getElem? (i := 946) (by decide +kernel)) rfl
theorem wd_947 : Cond.static yX7_greater ∈ gtb := gm (List.mem_of_getElem? (i := 947) (by decide +kernel)) rfl
theorem wd_948 : Cond.code yX7_greater cX7_greater 2 (some .int) ∈ gtb := gm (List.mem_of_getElem? (i := 948) (by decide +kernel)) rfl
theorem wd_953 : Cond.methodLink RX7 161 yX7_noStair ∈ gtb := gm (List.mem_of_getElem? (i := 953) (by decide +kernel)) rfl
theorem wd_955 : Cond.instanceMethod yX7_noStair ∈ gtb := gm (List.mem_of_getElem? (i := 955) (by decide +kernel)) rfl
theorem wd_956 : Cond.code yX7_noStair cX7_noStair 2 (some .boolean) ∈ gtb := gm (List.mem_of_getElem? (i := 956) (by decide +kernel)) rfl
theorem wd_961 : Cond.constantLong RX7 174 (4) ∈ gtb := gm (List.mem_of_getElem? (i := 961) (by decide +kernel)) rfl
theorem wd_966 : Cond.methodLink RX7 176 yX7_layMoved ∈ gtb := gm (List.mem_of_getElem? (i := 966) (by decide +kernel)) rfl
theorem wd_968 : Cond.instanceMethod yX7_layMoved ∈ gtb := gm (List.mem_of_getElem? (i := 968) (by decide +kernel)) rfl
theorem wd_969 : Cond.code yX7_layMoved cX7_layMoved 7 none ∈ gtb := gm (List.mem_of_getElem? (i := 969) (by decide +kernel)) rfl
theorem wd_974 : Cond.methodLink RX7 182 yX7_waitOf ∈ gtb := gm (List.mem_of_getElem? (i := 974) (by decide +kernel)) rfl
theorem wd_976 : Cond.instanceMethod yX7_waitOf ∈ gtb := gm (List.mem_of_getElem? (i := 976) (by decide +kernel)) rfl
theorem wd_977 : Cond.code yX7_waitOf cX7_waitOf 7 (some .int) ∈ gtb := gm (List.mem_of_getElem? (i := 977) (by decide +kernel)) rfl
theorem wd_978 : Cond.methodLink RX7 179 yX7_laterBy ∈ gtb := gm (List.mem_of_getElem? (i := 978) (by decide +kernel)) rfl
theorem wd_980 : Cond.instanceMethod yX7_laterBy ∈ gtb := gm (List.mem_of_getElem? (i := 980) (by decide +kernel)) rfl
theorem wd_981 : Cond.code yX7_laterBy cX7_laterBy 5 (some .int) ∈ gtb := gm (List.mem_of_getElem? (i := 981) (by decide +kernel)) rfl
theorem wd_986 : Cond.methodLink RX7 185 yX7_heapOf ∈ gtb := gm (List.mem_of_getElem? (i := 986) (by decide +kernel)) rfl
theorem wd_988 : Cond.instanceMethod yX7_heapOf ∈ gtb := gm (List.mem_of_getElem? (i := 988) (by decide +kernel)) rfl
theorem wd_989 : Cond.code yX7_heapOf cX7_heapOf 5 (some .int) ∈ gtb := gm (List.mem_of_getElem? (i := 989) (by decide +kernel)) rfl
theorem wd_998 : Cond.methodLink RX7 193 yX7_noNode ∈ gtb := gm (List.mem_of_getElem? (i := 998) (by decide +kernel)) rfl
theorem wd_999 : Cond.static yX7_noNode ∈ gtb := gm (List.mem_of_getElem? (i := 999) (by decide +kernel)) rfl
theorem wd_1000 : Cond.code yX7_noNode cX7_noNode 1 (some .boolean) ∈ gtb := gm (List.mem_of_getElem? (i := 1000) (by decide +kernel)) rfl
theorem wd_1001 : Cond.constantLong RX7 188 (5) ∈ gtb := gm (List.mem_of_getElem? (i := 1001) (by decide +kernel)) rfl
theorem wd_1006 : Cond.methodLink RX7 196 yX7_wayFault ∈ gtb := gm (List.mem_of_getElem? (i := 1006) (by decide +kernel)) rfl
theorem wd_1008 : Cond.instanceMethod yX7_wayFault ∈ gtb := gm (List.mem_of_getElem? (i := 1008) (by decide +kernel)) rfl
theorem wd_1009 : Cond.code yX7_wayFault cX7_wayFault 5 (some .int) ∈ gtb := gm (List.mem_of_getElem? (i := 1009) (by decide +kernel)) rfl
theorem wd_1014 : Cond.methodLink RX7 199 yX7_noFlow ∈ gtb := gm (List.mem_of_getElem? (i := 1014) (by decide +kernel)) rfl
theorem wd_1016 : Cond.instanceMethod yX7_noFlow ∈ gtb := gm (List.mem_of_getElem? (i := 1016) (by decide +kernel)) rfl
theorem wd_1017 : Cond.code yX7_noFlow cX7_noFlow 2 (some .boolean) ∈ gtb := gm (List.mem_of_getElem? (i := 1017) (by decide +kernel)) rfl
theorem wd_1018 : Cond.constantLong RX7 202 (10) ∈ gtb := gm (List.mem_of_getElem? (i := 1018) (by decide +kernel)) rfl
theorem wd_1019 : Cond.constantLong RX7 204 (9) ∈ gtb := gm (List.mem_of_getElem? (i := 1019) (by decide +kernel)) rfl
theorem wd_1028 : Cond.methodLink RX7 209 yX7_layRounds ∈ gtb := gm (List.mem_of_getElem? (i := 1028) (by decide +kernel)) rfl
theorem wd_1030 : Cond.instanceMethod yX7_layRounds ∈ gtb := gm (List.mem_of_getElem? (i := 1030) (by decide +kernel)) rfl
theorem wd_1031 : Cond.code yX7_layRounds cX7_layRounds 7 (some .boolean) ∈ gtb := gm (List.mem_of_getElem? (i := 1031) (by decide +kernel)) rfl
theorem wd_1036 : Cond.methodLink RX7 232 yX7_noStep ∈ gtb := gm (List.mem_of_getElem? (i := 1036) (by decide +kernel)) rfl
theorem wd_1038 : Cond.instanceMethod yX7_noStep ∈ gtb := gm (List.mem_of_getElem? (i := 1038) (by decide +kernel)) rfl
theorem wd_1039 : Cond.code yX7_noStep cX7_noStep 3 (some .boolean) ∈ gtb := gm (List.mem_of_getElem? (i := 1039) (by decide +kernel)) rfl
theorem wd_1040 : Cond.methodLink RX7 235 yX7_layAll ∈ gtb := gm (List.mem_of_getElem? (i := 1040) (by decide +kernel)) rfl
theorem wd_1042 : Cond.instanceMethod yX7_layAll ∈ gtb := gm (List.mem_of_getElem? (i := 1042) (by decide +kernel)) rfl
theorem wd_1043 : Cond.code yX7_layAll cX7_layAll 6 (some .boolean) ∈ gtb := gm (List.mem_of_getElem? (i := 1043) (by decide +kernel)) rfl
theorem wd_1044 : Cond.methodLink RX7 223 yX7_areServed ∈ gtb := gm (List.mem_of_getElem? (i := 1044) (by decide +kernel)) rfl
theorem wd_1046 : Cond.instanceMethod yX7_areServed ∈ gtb := gm (List.mem_of_getElem? (i := 1046) (by decide +kernel)) rfl
theorem wd_1047 : Cond.code yX7_areServed cX7_areServed 4 (some .boolean) ∈ gtb := gm (List.mem_of_getElem? (i := 1047) (by decide +kernel)) rfl
theorem wd_1048 : Cond.methodLink RX7 226 yX7_layComing ∈ gtb := gm (List.mem_of_getElem? (i := 1048) (by decide +kernel)) rfl
theorem wd_1050 : Cond.instanceMethod yX7_layComing ∈ gtb := gm (List.mem_of_getElem? (i := 1050) (by decide +kernel)) rfl
theorem wd_1051 : Cond.code yX7_layComing cX7_layComing 4 none ∈ gtb := gm (List.mem_of_getElem? (i := 1051) (by decide +kernel)) rfl
theorem wd_1052 : Cond.methodLink RX7 217 yX7_placeOf ∈ gtb := gm (List.mem_of_getElem? (i := 1052) (by decide +kernel)) rfl
theorem wd_1054 : Cond.instanceMethod yX7_placeOf ∈ gtb := gm (List.mem_of_getElem? (i := 1054) (by decide +kernel)) rfl
theorem wd_1055 : Cond.code yX7_placeOf cX7_placeOf 4 (some .int) ∈ gtb := gm (List.mem_of_getElem? (i := 1055) (by decide +kernel)) rfl
theorem wd_1056 : Cond.methodLink RX7 229 yX7_layThere ∈ gtb := gm (List.mem_of_getElem? (i := 1056) (by decide +kernel)) rfl
theorem wd_1058 : Cond.instanceMethod yX7_layThere ∈ gtb := gm (List.mem_of_getElem? (i := 1058) (by decide +kernel)) rfl
theorem wd_1059 : Cond.code yX7_layThere cX7_layThere 5 (some .boolean) ∈ gtb := gm (List.mem_of_getElem? (i := 1059) (by decide +kernel)) rfl
theorem wd_1060 : Cond.methodLink RX7 220 yX7_laySum ∈ gtb := gm (List.mem_of_getElem? (i := 1060) (by decide +kernel)) rfl
theorem wd_1062 : Cond.instanceMethod yX7_laySum ∈ gtb := gm (List.mem_of_getElem? (i := 1062) (by decide +kernel)) rfl
theorem wd_1063 : Cond.code yX7_laySum cX7_laySum 7 none ∈ gtb := gm (List.mem_of_getElem? (i := 1063) (by decide +kernel)) rfl
theorem wd_1064 : Cond.methodLink RX7 213 yX7_layZero ∈ gtb := gm (List.mem_of_getElem? (i := 1064) (by decide +kernel)) rfl
theorem wd_1066 : Cond.instanceMethod yX7_layZero ∈ gtb := gm (List.mem_of_getElem? (i := 1066) (by decide +kernel)) rfl
theorem wd_1067 : Cond.code yX7_layZero cX7_layZero 3 none ∈ gtb := gm (List.mem_of_getElem? (i := 1067) (by decide +kernel)) rfl
theorem wd_1088 : Cond.methodLink RX7 241 yX7_breaks ∈ gtb := gm (List.mem_of_getElem? (i := 1088) (by decide +kernel)) rfl
theorem wd_1090 : Cond.instanceMethod yX7_breaks ∈ gtb := gm (List.mem_of_getElem? (i := 1090) (by decide +kernel)) rfl
theorem wd_1091 : Cond.code yX7_breaks cX7_breaks 4 (some .int) ∈ gtb := gm (List.mem_of_getElem? (i := 1091) (by decide +kernel)) rfl
theorem wd_1100 : Cond.constantLong RX7 244 (100) ∈ gtb := gm (List.mem_of_getElem? (i := 1100) (by decide +kernel)) rfl
theorem wd_1101 : Cond.constantLong RX7 246 (140) ∈ gtb := gm (List.mem_of_getElem? (i := 1101) (by decide +kernel)) rfl
theorem wd_1118 : Cond.methodLink RX7 250 yX7_noCell ∈ gtb := gm (List.mem_of_getElem? (i := 1118) (by decide +kernel)) rfl
theorem wd_1120 : Cond.instanceMethod yX7_noCell ∈ gtb := gm (List.mem_of_getElem? (i := 1120) (by decide +kernel)) rfl
theorem wd_1121 : Cond.code yX7_noCell cX7_noCell 3 (some .int) ∈ gtb := gm (List.mem_of_getElem? (i := 1121) (by decide +kernel)) rfl
theorem wd_1126 : Cond.methodLink RX7 61 yX7_lost ∈ gtb := gm (List.mem_of_getElem? (i := 1126) (by decide +kernel)) rfl
theorem wd_1127 : Cond.static yX7_lost ∈ gtb := gm (List.mem_of_getElem? (i := 1127) (by decide +kernel)) rfl
theorem wd_1128 : Cond.code yX7_lost cX7_lost 0 (some .long) ∈ gtb := gm (List.mem_of_getElem? (i := 1128) (by decide +kernel)) rfl
theorem wd_1129 : Cond.constantLong RX7 55 (-9223372036854775808) ∈ gtb := gm (List.mem_of_getElem? (i := 1129) (by decide +kernel)) rfl
theorem wd_1130 : Cond.methodLink RX7 253 yX7_failedLong ∈ gtb := gm (List.mem_of_getElem? (i := 1130) (by decide +kernel)) rfl
theorem wd_1132 : Cond.instanceMethod yX7_failedLong ∈ gtb := gm (List.mem_of_getElem? (i := 1132) (by decide +kernel)) rfl
theorem wd_1133 : Cond.code yX7_failedLong cX7_failedLong 2 (some .long) ∈ gtb := gm (List.mem_of_getElem? (i := 1133) (by decide +kernel)) rfl
theorem wd_1142 : Cond.methodLink RX7 260 yX7_traced ∈ gtb := gm (List.mem_of_getElem? (i := 1142) (by decide +kernel)) rfl
theorem wd_1144 : Cond.instanceMethod yX7_traced ∈ gtb := gm (List.mem_of_getElem? (i := 1144) (by decide +kernel)) rfl
theorem wd_1145 : Cond.code yX7_traced cX7_traced 2 none ∈ gtb := gm (List.mem_of_getElem? (i := 1145) (by decide +kernel)) rfl
theorem wd_1146 : Cond.constant RX7 263 (100000) ∈ gtb := gm (List.mem_of_getElem? (i := 1146) (by decide +kernel)) rfl
theorem lay_0 : ∀ w ∈ u_ws RX0 TX0 16, w ∈ gtb := by
  intro w h
  have h2 : (u_ws RX0 TX0 16).all goodWord = true := by decide +kernel
  refine gm ?_ (List.all_eq_true.mp h2 w h)
  have h3 : u_ws RX0 TX0 16 = [139, 141, 143, 145, 147, 149, 151, 153, 155, 157, 159, 161, 163, 165, 167, 169].filterMap (fun i => lw_tbl[i]?) := by decide +kernel
  rw [h3] at h
  obtain ⟨i, -, hi⟩ := List.mem_filterMap.mp h
  exact List.mem_of_getElem? hi
theorem lay_1 : ∀ w ∈ u_ws RX2 TX2 3, w ∈ gtb := by
  intro w h
  have h2 : (u_ws RX2 TX2 3).all goodWord = true := by decide +kernel
  refine gm ?_ (List.all_eq_true.mp h2 w h)
  have h3 : u_ws RX2 TX2 3 = [183, 185, 187].filterMap (fun i => lw_tbl[i]?) := by decide +kernel
  rw [h3] at h
  obtain ⟨i, -, hi⟩ := List.mem_filterMap.mp h
  exact List.mem_of_getElem? hi
theorem lay_2 : ∀ w ∈ u_ws RX3 TX3 3, w ∈ gtb := by
  intro w h
  have h2 : (u_ws RX3 TX3 3).all goodWord = true := by decide +kernel
  refine gm ?_ (List.all_eq_true.mp h2 w h)
  have h3 : u_ws RX3 TX3 3 = [202, 204, 206].filterMap (fun i => lw_tbl[i]?) := by decide +kernel
  rw [h3] at h
  obtain ⟨i, -, hi⟩ := List.mem_filterMap.mp h
  exact List.mem_of_getElem? hi
theorem lay_3 : ∀ w ∈ u_ws RX4 TX4 3, w ∈ gtb := by
  intro w h
  have h2 : (u_ws RX4 TX4 3).all goodWord = true := by decide +kernel
  refine gm ?_ (List.all_eq_true.mp h2 w h)
  have h3 : u_ws RX4 TX4 3 = [99, 101, 103].filterMap (fun i => lw_tbl[i]?) := by decide +kernel
  rw [h3] at h
  obtain ⟨i, -, hi⟩ := List.mem_filterMap.mp h
  exact List.mem_of_getElem? hi
theorem lay_4 : ∀ w ∈ u_ws RX5 TX5 8, w ∈ gtb := by
  intro w h
  have h2 : (u_ws RX5 TX5 8).all goodWord = true := by decide +kernel
  refine gm ?_ (List.all_eq_true.mp h2 w h)
  have h3 : u_ws RX5 TX5 8 = [225, 227, 229, 231, 233, 235, 237, 239].filterMap (fun i => lw_tbl[i]?) := by decide +kernel
  rw [h3] at h
  obtain ⟨i, -, hi⟩ := List.mem_filterMap.mp h
  exact List.mem_of_getElem? hi
theorem lay_5 : ∀ w ∈ u_ws RX6 TX6 9, w ∈ gtb := by
  intro w h
  have h2 : (u_ws RX6 TX6 9).all goodWord = true := by decide +kernel
  refine gm ?_ (List.all_eq_true.mp h2 w h)
  have h3 : u_ws RX6 TX6 9 = [251, 253, 255, 257, 259, 261, 263, 265, 267].filterMap (fun i => lw_tbl[i]?) := by decide +kernel
  rw [h3] at h
  obtain ⟨i, -, hi⟩ := List.mem_filterMap.mp h
  exact List.mem_of_getElem? hi
theorem lay_6 : ∀ w ∈ u_ws RX7 TX7 25, w ∈ gtb := by
  intro w h
  have h2 : (u_ws RX7 TX7 25).all goodWord = true := by decide +kernel
  refine gm ?_ (List.all_eq_true.mp h2 w h)
  have h3 : u_ws RX7 TX7 25 = [794, 796, 798, 800, 802, 804, 806, 808, 810, 812, 814, 816, 818, 820, 822, 824, 826, 828, 830, 832, 834, 836, 838, 840, 842].filterMap (fun i => lw_tbl[i]?) := by decide +kernel
  rw [h3] at h
  obtain ⟨i, -, hi⟩ := List.mem_filterMap.mp h
  exact List.mem_of_getElem? hi
theorem qF_RX0_17 : fok RX0 17 0 1 (RX0, TX0, 16) none := ⟨rfl, by decide +kernel, lay_0, wd_119⟩
theorem qF_RX0_20 : fok RX0 20 0 2 (RX0, TX0, 16) none := ⟨rfl, by decide +kernel, lay_0, wd_120⟩
theorem qF_RX0_23 : fok RX0 23 0 3 (RX0, TX0, 16) none := ⟨rfl, by decide +kernel, lay_0, wd_122⟩
theorem qF_RX0_26 : fok RX0 26 0 4 (RX0, TX0, 16) none := ⟨rfl, by decide +kernel, lay_0, wd_124⟩
theorem qF_RX0_29 : fok RX0 29 0 5 (RX0, TX0, 16) none := ⟨rfl, by decide +kernel, lay_0, wd_126⟩
theorem qF_RX0_33 : fok RX0 33 0 6 (RX0, TX0, 16) none := ⟨rfl, by decide +kernel, lay_0, wd_128⟩
theorem qF_RX0_36 : fok RX0 36 0 7 (RX0, TX0, 16) none := ⟨rfl, by decide +kernel, lay_0, wd_130⟩
theorem qF_RX0_39 : fok RX0 39 0 8 (RX0, TX0, 16) none := ⟨rfl, by decide +kernel, lay_0, wd_131⟩
theorem qF_RX0_42 : fok RX0 42 0 9 (RX0, TX0, 16) none := ⟨rfl, by decide +kernel, lay_0, wd_132⟩
theorem qF_RX0_45 : fok RX0 45 0 10 (RX0, TX0, 16) none := ⟨rfl, by decide +kernel, lay_0, wd_133⟩
theorem qF_RX0_48 : fok RX0 48 0 11 (RX0, TX0, 16) none := ⟨rfl, by decide +kernel, lay_0, wd_134⟩
theorem qF_RX0_51 : fok RX0 51 0 12 (RX0, TX0, 16) none := ⟨rfl, by decide +kernel, lay_0, wd_135⟩
theorem qF_RX0_54 : fok RX0 54 0 13 (RX0, TX0, 16) none := ⟨rfl, by decide +kernel, lay_0, wd_136⟩
theorem qF_RX0_57 : fok RX0 57 0 14 (RX0, TX0, 16) none := ⟨rfl, by decide +kernel, lay_0, wd_137⟩
theorem qF_RX0_61 : fok RX0 61 0 15 (RX0, TX0, 16) none := ⟨rfl, by decide +kernel, lay_0, wd_138⟩
theorem qF_RX0_9 : fok RX0 9 0 0 (RX0, TX0, 16) none := ⟨rfl, by decide +kernel, lay_0, wd_117⟩
theorem qF_RX2_15 : fok RX2 15 1 1 (RX2, TX2, 3) none := ⟨rfl, by decide +kernel, lay_1, wd_179⟩
theorem qF_RX2_18 : fok RX2 18 1 2 (RX2, TX2, 3) none := ⟨rfl, by decide +kernel, lay_1, wd_181⟩
theorem qF_RX2_9 : fok RX2 9 1 0 (RX2, TX2, 3) none := ⟨rfl, by decide +kernel, lay_1, wd_178⟩
theorem qF_RX3_11 : fok RX3 11 2 0 (RX3, TX3, 3) none := ⟨rfl, by decide +kernel, lay_2, wd_198⟩
theorem qF_RX3_16 : fok RX3 16 2 1 (RX3, TX3, 3) none := ⟨rfl, by decide +kernel, lay_2, wd_200⟩
theorem qF_RX3_20 : fok RX3 20 2 2 (RX3, TX3, 3) none := ⟨rfl, by decide +kernel, lay_2, wd_201⟩
theorem qF_RX4_11 : fok RX4 11 3 0 (RX4, TX4, 3) none := ⟨rfl, by decide +kernel, lay_3, wd_94⟩
theorem qF_RX4_16 : fok RX4 16 3 1 (RX4, TX4, 3) none := ⟨rfl, by decide +kernel, lay_3, wd_95⟩
theorem qF_RX4_20 : fok RX4 20 3 2 (RX4, TX4, 3) none := ⟨rfl, by decide +kernel, lay_3, wd_97⟩
theorem qF_RX5_15 : fok RX5 15 4 1 (RX5, TX5, 8) none := ⟨rfl, by decide +kernel, lay_4, wd_216⟩
theorem qF_RX5_18 : fok RX5 18 4 2 (RX5, TX5, 8) none := ⟨rfl, by decide +kernel, lay_4, wd_217⟩
theorem qF_RX5_21 : fok RX5 21 4 3 (RX5, TX5, 8) none := ⟨rfl, by decide +kernel, lay_4, wd_219⟩
theorem qF_RX5_25 : fok RX5 25 4 4 (RX5, TX5, 8) none := ⟨rfl, by decide +kernel, lay_4, wd_221⟩
theorem qF_RX5_28 : fok RX5 28 4 5 (RX5, TX5, 8) none := ⟨rfl, by decide +kernel, lay_4, wd_222⟩
theorem qF_RX5_31 : fok RX5 31 4 6 (RX5, TX5, 8) none := ⟨rfl, by decide +kernel, lay_4, wd_223⟩
theorem qF_RX5_34 : fok RX5 34 4 7 (RX5, TX5, 8) none := ⟨rfl, by decide +kernel, lay_4, wd_224⟩
theorem qF_RX5_9 : fok RX5 9 4 0 (RX5, TX5, 8) none := ⟨rfl, by decide +kernel, lay_4, wd_215⟩
theorem qF_RX6_118 : fok RX6 118 4 2 (RX5, TX5, 8) (some "BurstBounds") := ⟨rfl, by decide +kernel, lay_4, wd_218⟩
theorem qF_RX6_12 : fok RX6 12 5 0 (RX6, TX6, 9) none := ⟨rfl, by decide +kernel, lay_5, wd_242⟩
theorem qF_RX6_125 : fok RX6 125 4 3 (RX5, TX5, 8) (some "BurstBounds") := ⟨rfl, by decide +kernel, lay_4, wd_220⟩
theorem qF_RX6_146 : fok RX6 146 0 0 (RX0, TX0, 16) (some "BurstBounds") := ⟨rfl, by decide +kernel, lay_0, wd_118⟩
theorem qF_RX6_163 : fok RX6 163 0 2 (RX0, TX0, 16) (some "BurstBounds") := ⟨rfl, by decide +kernel, lay_0, wd_121⟩
theorem qF_RX6_166 : fok RX6 166 0 3 (RX0, TX0, 16) (some "BurstBounds") := ⟨rfl, by decide +kernel, lay_0, wd_123⟩
theorem qF_RX6_172 : fok RX6 172 0 4 (RX0, TX0, 16) (some "BurstBounds") := ⟨rfl, by decide +kernel, lay_0, wd_125⟩
theorem qF_RX6_176 : fok RX6 176 0 6 (RX0, TX0, 16) (some "BurstBounds") := ⟨rfl, by decide +kernel, lay_0, wd_129⟩
theorem qF_RX6_21 : fok RX6 21 5 1 (RX6, TX6, 9) none := ⟨rfl, by decide +kernel, lay_5, wd_243⟩
theorem qF_RX6_222 : fok RX6 222 1 2 (RX2, TX2, 3) (some "BurstBounds") := ⟨rfl, by decide +kernel, lay_1, wd_182⟩
theorem qF_RX6_236 : fok RX6 236 1 1 (RX2, TX2, 3) (some "BurstBounds") := ⟨rfl, by decide +kernel, lay_1, wd_180⟩
theorem qF_RX6_273 : fok RX6 273 2 0 (RX3, TX3, 3) (some "BurstBounds") := ⟨rfl, by decide +kernel, lay_2, wd_199⟩
theorem qF_RX6_28 : fok RX6 28 5 2 (RX6, TX6, 9) none := ⟨rfl, by decide +kernel, lay_5, wd_244⟩
theorem qF_RX6_281 : fok RX6 281 3 1 (RX4, TX4, 3) (some "BurstBounds") := ⟨rfl, by decide +kernel, lay_3, wd_96⟩
theorem qF_RX6_299 : fok RX6 299 3 2 (RX4, TX4, 3) (some "BurstBounds") := ⟨rfl, by decide +kernel, lay_3, wd_98⟩
theorem qF_RX6_300 : fok RX6 300 0 5 (RX0, TX0, 16) (some "BurstBounds") := ⟨rfl, by decide +kernel, lay_0, wd_127⟩
theorem qF_RX6_35 : fok RX6 35 5 3 (RX6, TX6, 9) none := ⟨rfl, by decide +kernel, lay_5, wd_245⟩
theorem qF_RX6_42 : fok RX6 42 5 4 (RX6, TX6, 9) none := ⟨rfl, by decide +kernel, lay_5, wd_246⟩
theorem qF_RX6_46 : fok RX6 46 5 5 (RX6, TX6, 9) none := ⟨rfl, by decide +kernel, lay_5, wd_247⟩
theorem qF_RX6_50 : fok RX6 50 5 6 (RX6, TX6, 9) none := ⟨rfl, by decide +kernel, lay_5, wd_248⟩
theorem qF_RX6_53 : fok RX6 53 5 7 (RX6, TX6, 9) none := ⟨rfl, by decide +kernel, lay_5, wd_249⟩
theorem qF_RX6_57 : fok RX6 57 5 8 (RX6, TX6, 9) none := ⟨rfl, by decide +kernel, lay_5, wd_250⟩
theorem qF_RX7_127 : fok RX7 127 6 4 (RX7, TX7, 25) none := ⟨rfl, by decide +kernel, lay_6, wd_773⟩
theorem qF_RX7_13 : fok RX7 13 6 3 (RX7, TX7, 25) none := ⟨rfl, by decide +kernel, lay_6, wd_772⟩
theorem qF_RX7_134 : fok RX7 134 6 10 (RX7, TX7, 25) none := ⟨rfl, by decide +kernel, lay_6, wd_779⟩
theorem qF_RX7_141 : fok RX7 141 6 5 (RX7, TX7, 25) none := ⟨rfl, by decide +kernel, lay_6, wd_774⟩
theorem qF_RX7_144 : fok RX7 144 6 6 (RX7, TX7, 25) none := ⟨rfl, by decide +kernel, lay_6, wd_775⟩
theorem qF_RX7_16 : fok RX7 16 6 7 (RX7, TX7, 25) none := ⟨rfl, by decide +kernel, lay_6, wd_776⟩
theorem qF_RX7_19 : fok RX7 19 6 8 (RX7, TX7, 25) none := ⟨rfl, by decide +kernel, lay_6, wd_777⟩
theorem qF_RX7_190 : fok RX7 190 6 12 (RX7, TX7, 25) none := ⟨rfl, by decide +kernel, lay_6, wd_781⟩
theorem qF_RX7_206 : fok RX7 206 6 16 (RX7, TX7, 25) none := ⟨rfl, by decide +kernel, lay_6, wd_785⟩
theorem qF_RX7_22 : fok RX7 22 6 9 (RX7, TX7, 25) none := ⟨rfl, by decide +kernel, lay_6, wd_778⟩
theorem qF_RX7_238 : fok RX7 238 6 19 (RX7, TX7, 25) none := ⟨rfl, by decide +kernel, lay_6, wd_788⟩
theorem qF_RX7_25 : fok RX7 25 6 11 (RX7, TX7, 25) none := ⟨rfl, by decide +kernel, lay_6, wd_780⟩
theorem qF_RX7_257 : fok RX7 257 6 24 (RX7, TX7, 25) none := ⟨rfl, by decide +kernel, lay_6, wd_793⟩
theorem qF_RX7_28 : fok RX7 28 6 13 (RX7, TX7, 25) none := ⟨rfl, by decide +kernel, lay_6, wd_782⟩
theorem qF_RX7_31 : fok RX7 31 6 14 (RX7, TX7, 25) none := ⟨rfl, by decide +kernel, lay_6, wd_783⟩
theorem qF_RX7_34 : fok RX7 34 6 15 (RX7, TX7, 25) none := ⟨rfl, by decide +kernel, lay_6, wd_784⟩
theorem qF_RX7_37 : fok RX7 37 6 17 (RX7, TX7, 25) none := ⟨rfl, by decide +kernel, lay_6, wd_786⟩
theorem qF_RX7_40 : fok RX7 40 6 18 (RX7, TX7, 25) none := ⟨rfl, by decide +kernel, lay_6, wd_787⟩
theorem qF_RX7_43 : fok RX7 43 6 20 (RX7, TX7, 25) none := ⟨rfl, by decide +kernel, lay_6, wd_789⟩
theorem qF_RX7_46 : fok RX7 46 6 21 (RX7, TX7, 25) none := ⟨rfl, by decide +kernel, lay_6, wd_790⟩
theorem qF_RX7_49 : fok RX7 49 6 22 (RX7, TX7, 25) none := ⟨rfl, by decide +kernel, lay_6, wd_791⟩
theorem qF_RX7_52 : fok RX7 52 6 23 (RX7, TX7, 25) none := ⟨rfl, by decide +kernel, lay_6, wd_792⟩
theorem qF_RX7_57 : fok RX7 57 6 0 (RX7, TX7, 25) none := ⟨rfl, by decide +kernel, lay_6, wd_769⟩
theorem qF_RX7_7 : fok RX7 7 6 2 (RX7, TX7, 25) none := ⟨rfl, by decide +kernel, lay_6, wd_771⟩
theorem qF_RX7_82 : fok RX7 82 6 1 (RX7, TX7, 25) none := ⟨rfl, by decide +kernel, lay_6, wd_770⟩
theorem qP_0_14 : fst 14 (RX0, TX0, 16) .boolean := ⟨rfl, by decide +kernel, tyX0, tyX0_ok, nmX0⟩
theorem qP_0_15 : fst 15 (RX0, TX0, 16) .boolean := ⟨rfl, by decide +kernel, tyX0, tyX0_ok, nmX0⟩
theorem qP_0_5 : fst 5 (RX0, TX0, 16) .int := ⟨rfl, by decide +kernel, tyX0, tyX0_ok, nmX0⟩
theorem qP_0_6 : fst 6 (RX0, TX0, 16) .int := ⟨rfl, by decide +kernel, tyX0, tyX0_ok, nmX0⟩
theorem qP_1_2 : fst 2 (RX2, TX2, 3) .int := ⟨rfl, by decide +kernel, tyX2, tyX2_ok, nmX2⟩
theorem qP_3_2 : fst 2 (RX4, TX4, 3) .int := ⟨rfl, by decide +kernel, tyX4, tyX4_ok, nmX4⟩
theorem qP_4_3 : fst 3 (RX5, TX5, 8) .int := ⟨rfl, by decide +kernel, tyX5, tyX5_ok, nmX5⟩
theorem qP_4_4 : fst 4 (RX5, TX5, 8) .int := ⟨rfl, by decide +kernel, tyX5, tyX5_ok, nmX5⟩
theorem qP_4_5 : fst 5 (RX5, TX5, 8) .int := ⟨rfl, by decide +kernel, tyX5, tyX5_ok, nmX5⟩
theorem qP_4_6 : fst 6 (RX5, TX5, 8) .int := ⟨rfl, by decide +kernel, tyX5, tyX5_ok, nmX5⟩
theorem qP_4_7 : fst 7 (RX5, TX5, 8) .int := ⟨rfl, by decide +kernel, tyX5, tyX5_ok, nmX5⟩
theorem qP_5_7 : fst 7 (RX6, TX6, 9) .int := ⟨rfl, by decide +kernel, tyX6, tyX6_ok, nmX6⟩
theorem qP_5_8 : fst 8 (RX6, TX6, 9) .int := ⟨rfl, by decide +kernel, tyX6, tyX6_ok, nmX6⟩
theorem qP_6_0 : fst 0 (RX7, TX7, 25) .int := ⟨rfl, by decide +kernel, tyX7, tyX7_ok, nmX7⟩
theorem qP_6_1 : fst 1 (RX7, TX7, 25) .int := ⟨rfl, by decide +kernel, tyX7, tyX7_ok, nmX7⟩
theorem qP_6_10 : fst 10 (RX7, TX7, 25) .int := ⟨rfl, by decide +kernel, tyX7, tyX7_ok, nmX7⟩
theorem qP_6_12 : fst 12 (RX7, TX7, 25) .int := ⟨rfl, by decide +kernel, tyX7, tyX7_ok, nmX7⟩
theorem qP_6_16 : fst 16 (RX7, TX7, 25) .int := ⟨rfl, by decide +kernel, tyX7, tyX7_ok, nmX7⟩
theorem qP_6_19 : fst 19 (RX7, TX7, 25) .int := ⟨rfl, by decide +kernel, tyX7, tyX7_ok, nmX7⟩
theorem qP_6_24 : fst 24 (RX7, TX7, 25) .int := ⟨rfl, by decide +kernel, tyX7, tyX7_ok, nmX7⟩
theorem qP_6_4 : fst 4 (RX7, TX7, 25) .int := ⟨rfl, by decide +kernel, tyX7, tyX7_ok, nmX7⟩
theorem qP_6_5 : fst 5 (RX7, TX7, 25) .int := ⟨rfl, by decide +kernel, tyX7, tyX7_ok, nmX7⟩
theorem qP_6_6 : fst 6 (RX7, TX7, 25) .int := ⟨rfl, by decide +kernel, tyX7, tyX7_ok, nmX7⟩
theorem qS_RX0_119 : cSt RX0 119 mX1_longestWait 3 := ⟨wd_571, wd_450, wd_76, wd_451, by decide +kernel, ⟨by decide +kernel, by decide +kernel, by decide +kernel⟩, by decide +kernel⟩
theorem qS_RX0_123 : cSt RX0 123 mX1_fillLeft 3 := ⟨wd_572, wd_433, wd_76, wd_434, by decide +kernel, ⟨by decide +kernel, by decide +kernel, by decide +kernel⟩, by decide +kernel⟩
theorem qS_RX0_130 : cSt RX0 130 mX1_fillAhead 3 := ⟨wd_577, wd_443, wd_76, wd_444, by decide +kernel, ⟨by decide +kernel, by decide +kernel, by decide +kernel⟩, by decide +kernel⟩
theorem qS_RX0_134 : cSt RX0 134 mX1_fillOut 3 := ⟨wd_578, wd_427, wd_76, wd_428, by decide +kernel, ⟨by decide +kernel, by decide +kernel, by decide +kernel⟩, by decide +kernel⟩
theorem qS_RX0_137 : cSt RX0 137 mX1_fillSum 3 := ⟨wd_566, wd_399, wd_76, wd_400, by decide +kernel, ⟨by decide +kernel, by decide +kernel, by decide +kernel⟩, by decide +kernel⟩
theorem qS_RX0_140 : cSt RX0 140 mX1_greatestHeap 2 := ⟨wd_598, wd_457, wd_76, wd_458, by decide +kernel, ⟨by decide +kernel, by decide +kernel, by decide +kernel⟩, by decide +kernel⟩
theorem qS_RX0_147 : cSt RX0 147 mX1_fillAlong 3 := ⟨wd_612, wd_424, wd_76, wd_425, by decide +kernel, ⟨by decide +kernel, by decide +kernel, by decide +kernel⟩, by decide +kernel⟩
theorem qS_RX0_64 : cSt RX0 64 mJ7_fill_53178 2 := ⟨wd_114, wd_115, wd_70, wd_116, by decide +kernel, ⟨by decide +kernel, by decide +kernel, by decide +kernel⟩, by decide +kernel⟩
theorem qS_RX0_70 : cSt RX0 70 mX1_fillSame 2 := ⟨wd_475, wd_380, wd_76, wd_381, by decide +kernel, ⟨by decide +kernel, by decide +kernel, by decide +kernel⟩, by decide +kernel⟩
theorem qS_RX1_22 : cSt RX1 22 mX1_fillLeast 3 := ⟨wd_421, wd_396, wd_76, wd_397, by decide +kernel, ⟨by decide +kernel, by decide +kernel, by decide +kernel⟩, by decide +kernel⟩
theorem qS_RX1_28 : cSt RX1 28 mX1_fillSum 3 := ⟨wd_422, wd_399, wd_76, wd_400, by decide +kernel, ⟨by decide +kernel, by decide +kernel, by decide +kernel⟩, by decide +kernel⟩
theorem qS_RX1_31 : cSt RX1 31 mX1_fillAlong 3 := ⟨wd_423, wd_424, wd_76, wd_425, by decide +kernel, ⟨by decide +kernel, by decide +kernel, by decide +kernel⟩, by decide +kernel⟩
theorem qS_RX1_34 : cSt RX1 34 mX1_fillOut 3 := ⟨wd_426, wd_427, wd_76, wd_428, by decide +kernel, ⟨by decide +kernel, by decide +kernel, by decide +kernel⟩, by decide +kernel⟩
theorem qS_RX1_37 : cSt RX1 37 mX1_fillLeft 3 := ⟨wd_432, wd_433, wd_76, wd_434, by decide +kernel, ⟨by decide +kernel, by decide +kernel, by decide +kernel⟩, by decide +kernel⟩
theorem qS_RX2_31 : cSt RX2 31 mX1_fillAlong 3 := ⟨wd_651, wd_424, wd_76, wd_425, by decide +kernel, ⟨by decide +kernel, by decide +kernel, by decide +kernel⟩, by decide +kernel⟩
theorem qS_RX2_37 : cSt RX2 37 mX1_greatestHeap 2 := ⟨wd_656, wd_457, wd_76, wd_458, by decide +kernel, ⟨by decide +kernel, by decide +kernel, by decide +kernel⟩, by decide +kernel⟩
theorem qS_RX2_41 : cSt RX2 41 mX1_longestWait 3 := ⟨wd_661, wd_450, wd_76, wd_451, by decide +kernel, ⟨by decide +kernel, by decide +kernel, by decide +kernel⟩, by decide +kernel⟩
theorem qS_RX3_23 : cSt RX3 23 mJ7_fill_53178 2 := ⟨wd_197, wd_115, wd_70, wd_116, by decide +kernel, ⟨by decide +kernel, by decide +kernel, by decide +kernel⟩, by decide +kernel⟩
theorem qS_RX5_46 : cSt RX5 46 mX1_fillSame 2 := ⟨wd_379, wd_380, wd_76, wd_381, by decide +kernel, ⟨by decide +kernel, by decide +kernel, by decide +kernel⟩, by decide +kernel⟩
theorem qS_RX5_73 : cSt RX5 73 mX1_fillBucket 3 := ⟨wd_377, wd_336, wd_76, wd_337, by decide +kernel, ⟨by decide +kernel, by decide +kernel, by decide +kernel⟩, by decide +kernel⟩
theorem qS_RX5_77 : cSt RX5 77 mX1_fillLate 3 := ⟨wd_378, wd_343, wd_76, wd_344, by decide +kernel, ⟨by decide +kernel, by decide +kernel, by decide +kernel⟩, by decide +kernel⟩
theorem qS_RX5_80 : cSt RX5 80 mX1_fillLeast 3 := ⟨wd_395, wd_396, wd_76, wd_397, by decide +kernel, ⟨by decide +kernel, by decide +kernel, by decide +kernel⟩, by decide +kernel⟩
theorem qS_RX5_84 : cSt RX5 84 mX1_fillSum 3 := ⟨wd_398, wd_399, wd_76, wd_400, by decide +kernel, ⟨by decide +kernel, by decide +kernel, by decide +kernel⟩, by decide +kernel⟩
theorem qS_RX5_87 : cSt RX5 87 mX5_isDigit 1 := ⟨wd_370, wd_371, wd_73, wd_372, by decide +kernel, ⟨by decide +kernel, by decide +kernel, by decide +kernel⟩, by decide +kernel⟩
theorem qS_RX6_110 : cSt RX6 110 mX1_fillSteps 3 := ⟨wd_316, wd_317, wd_76, wd_318, by decide +kernel, ⟨by decide +kernel, by decide +kernel, by decide +kernel⟩, by decide +kernel⟩
theorem qS_RX6_121 : cSt RX6 121 mX1_fillSame 2 := ⟨wd_401, wd_380, wd_76, wd_381, by decide +kernel, ⟨by decide +kernel, by decide +kernel, by decide +kernel⟩, by decide +kernel⟩
theorem qS_RX6_128 : cSt RX6 128 mX1_fillMade 4 := ⟨wd_418, wd_419, wd_76, wd_420, by decide +kernel, ⟨by decide +kernel, by decide +kernel, by decide +kernel⟩, by decide +kernel⟩
theorem qS_RX6_132 : cSt RX6 132 mX1_fillHeldBack 3 := ⟨wd_439, wd_440, wd_76, wd_441, by decide +kernel, ⟨by decide +kernel, by decide +kernel, by decide +kernel⟩, by decide +kernel⟩
theorem qS_RX6_135 : cSt RX6 135 mX1_fillAhead 3 := ⟨wd_442, wd_443, wd_76, wd_444, by decide +kernel, ⟨by decide +kernel, by decide +kernel, by decide +kernel⟩, by decide +kernel⟩
theorem qS_RX6_138 : cSt RX6 138 mX1_longestWait 3 := ⟨wd_449, wd_450, wd_76, wd_451, by decide +kernel, ⟨by decide +kernel, by decide +kernel, by decide +kernel⟩, by decide +kernel⟩
theorem qS_RX6_142 : cSt RX6 142 mX1_greatestHeap 2 := ⟨wd_456, wd_457, wd_76, wd_458, by decide +kernel, ⟨by decide +kernel, by decide +kernel, by decide +kernel⟩, by decide +kernel⟩
theorem qS_RX6_246 : cSt RX6 246 mJ7_fill_53178 2 := ⟨wd_666, wd_115, wd_70, wd_116, by decide +kernel, ⟨by decide +kernel, by decide +kernel, by decide +kernel⟩, by decide +kernel⟩
theorem qS_RX6_252 : cSt RX6 252 mX1_fillSum 3 := ⟨wd_667, wd_399, wd_76, wd_400, by decide +kernel, ⟨by decide +kernel, by decide +kernel, by decide +kernel⟩, by decide +kernel⟩
theorem qS_RX6_68 : cSt RX6 68 mX6_isUpTo 2 := ⟨wd_305, wd_306, wd_67, wd_307, by decide +kernel, ⟨by decide +kernel, by decide +kernel, by decide +kernel⟩, by decide +kernel⟩
theorem qS_RX6_80 : cSt RX6 80 mX1_fillBucket 3 := ⟨wd_335, wd_336, wd_76, wd_337, by decide +kernel, ⟨by decide +kernel, by decide +kernel, by decide +kernel⟩, by decide +kernel⟩
theorem qS_RX6_89 : cSt RX6 89 mX1_fillLate 3 := ⟨wd_342, wd_343, wd_76, wd_344, by decide +kernel, ⟨by decide +kernel, by decide +kernel, by decide +kernel⟩, by decide +kernel⟩
theorem qS_RX7_112 : cSt RX7 112 mX7_lesser 2 := ⟨wd_888, wd_889, wd_74, wd_890, by decide +kernel, ⟨by decide +kernel, by decide +kernel, by decide +kernel⟩, by decide +kernel⟩
theorem qS_RX7_171 : cSt RX7 171 mX7_greater 2 := ⟨wd_946, wd_947, wd_74, wd_948, by decide +kernel, ⟨by decide +kernel, by decide +kernel, by decide +kernel⟩, by decide +kernel⟩
theorem qS_RX7_193 : cSt RX7 193 mX7_noNode 1 := ⟨wd_998, wd_999, wd_74, wd_1000, by decide +kernel, ⟨by decide +kernel, by decide +kernel, by decide +kernel⟩, by decide +kernel⟩
theorem qS_RX7_61 : cSt RX7 61 mX7_lost 0 := ⟨wd_1126, wd_1127, wd_74, wd_1128, by decide +kernel, ⟨by decide +kernel, by decide +kernel, by decide +kernel⟩, by decide +kernel⟩
theorem qS_RX7_67 : cSt RX7 67 mX7_in 3 := ⟨wd_853, wd_854, wd_74, wd_855, by decide +kernel, ⟨by decide +kernel, by decide +kernel, by decide +kernel⟩, by decide +kernel⟩
theorem qS_RX7_78 : cSt RX7 78 mX7_isBeyond 3 := ⟨wd_869, wd_870, wd_74, wd_871, by decide +kernel, ⟨by decide +kernel, by decide +kernel, by decide +kernel⟩, by decide +kernel⟩
theorem qS_RX7_96 : cSt RX7 96 mX7_noSheet 1 := ⟨wd_849, wd_850, wd_74, wd_851, by decide +kernel, ⟨by decide +kernel, by decide +kernel, by decide +kernel⟩, by decide +kernel⟩
theorem qV_RX0_101 : cVt RX0 101 mX0_workOut 0 := ⟨wd_550, wd_552, wd_19, wd_69, wd_553, by decide +kernel, ⟨by decide +kernel, by decide +kernel, by decide +kernel⟩, by decide +kernel⟩
theorem qV_RX0_104 : cVt RX0 104 mX0_placeOn 2 := ⟨wd_554, wd_556, wd_20, wd_69, wd_557, by decide +kernel, ⟨by decide +kernel, by decide +kernel, by decide +kernel⟩, by decide +kernel⟩
theorem qV_RX0_108 : cVt RX0 108 mX0_workOutAt 2 := ⟨wd_558, wd_560, wd_21, wd_69, wd_561, by decide +kernel, ⟨by decide +kernel, by decide +kernel, by decide +kernel⟩, by decide +kernel⟩
theorem qV_RX0_112 : cVt RX0 112 mX0_sumComing 3 := ⟨wd_562, wd_564, wd_22, wd_69, wd_565, by decide +kernel, ⟨by decide +kernel, by decide +kernel, by decide +kernel⟩, by decide +kernel⟩
theorem qV_RX0_116 : cVt RX0 116 mX0_hasAt 2 := ⟨wd_567, wd_568, wd_569, wd_69, wd_570, by decide +kernel, ⟨by decide +kernel, by decide +kernel, by decide +kernel⟩, by decide +kernel⟩
theorem qV_RX0_127 : cVt RX0 127 mX0_goesOnFrom 2 := ⟨wd_573, wd_574, wd_575, wd_69, wd_576, by decide +kernel, ⟨by decide +kernel, by decide +kernel, by decide +kernel⟩, by decide +kernel⟩
theorem qV_RX0_144 : cVt RX0 144 mX0_latestAt 2 := ⟨wd_607, wd_580, wd_581, wd_69, wd_582, by decide +kernel, ⟨by decide +kernel, by decide +kernel, by decide +kernel⟩, by decide +kernel⟩
theorem qV_RX0_82 : cVt RX0 82 mX0_comesAt 2 := ⟨wd_497, wd_498, wd_499, wd_69, wd_500, by decide +kernel, ⟨by decide +kernel, by decide +kernel, by decide +kernel⟩, by decide +kernel⟩
theorem qV_RX0_86 : cVt RX0 86 mX0_hasFlow 1 := ⟨wd_513, wd_506, wd_507, wd_69, wd_508, by decide +kernel, ⟨by decide +kernel, by decide +kernel, by decide +kernel⟩, by decide +kernel⟩
theorem qV_RX0_90 : cVt RX0 90 mX0_orderNodes 0 := ⟨wd_530, wd_532, wd_16, wd_69, wd_533, by decide +kernel, ⟨by decide +kernel, by decide +kernel, by decide +kernel⟩, by decide +kernel⟩
theorem qV_RX0_94 : cVt RX0 94 mX0_noteAhead 0 := ⟨wd_534, wd_536, wd_17, wd_69, wd_537, by decide +kernel, ⟨by decide +kernel, by decide +kernel, by decide +kernel⟩, by decide +kernel⟩
theorem qV_RX0_97 : cVt RX0 97 mX0_isServedOnWays 0 := ⟨wd_546, wd_548, wd_18, wd_69, wd_549, by decide +kernel, ⟨by decide +kernel, by decide +kernel, by decide +kernel⟩, by decide +kernel⟩
theorem qV_RX3_29 : cVt RX3 29 mX3_has 1 := ⟨wd_286, wd_287, wd_288, wd_72, wd_289, by decide +kernel, ⟨by decide +kernel, by decide +kernel, by decide +kernel⟩, by decide +kernel⟩
theorem qV_RX3_33 : cVt RX3 33 mX3_isLane 1 := ⟨wd_290, wd_292, wd_2, wd_72, wd_293, by decide +kernel, ⟨by decide +kernel, by decide +kernel, by decide +kernel⟩, by decide +kernel⟩
theorem qV_RX3_36 : cVt RX3 36 mX3_cut 2 := ⟨wd_693, wd_695, wd_24, wd_72, wd_696, by decide +kernel, ⟨by decide +kernel, by decide +kernel, by decide +kernel⟩, by decide +kernel⟩
theorem qV_RX3_40 : cVt RX3 40 mX3_whyUntaken 2 := ⟨wd_282, wd_284, wd_1, wd_72, wd_285, by decide +kernel, ⟨by decide +kernel, by decide +kernel, by decide +kernel⟩, by decide +kernel⟩
theorem qV_RX3_43 : cVt RX3 43 mX3_isBeyond 3 := ⟨wd_294, wd_296, wd_3, wd_72, wd_297, by decide +kernel, ⟨by decide +kernel, by decide +kernel, by decide +kernel⟩, by decide +kernel⟩
theorem qV_RX5_43 : cVt RX5 43 mX5_readItem 0 := ⟨wd_358, wd_360, wd_7, wd_73, wd_361, by decide +kernel, ⟨by decide +kernel, by decide +kernel, by decide +kernel⟩, by decide +kernel⟩
theorem qV_RX5_52 : cVt RX5 52 mX5_goesOn 0 := ⟨wd_383, wd_385, wd_11, wd_73, wd_386, by decide +kernel, ⟨by decide +kernel, by decide +kernel, by decide +kernel⟩, by decide +kernel⟩
theorem qV_RX5_56 : cVt RX5 56 mX5_readSign 0 := ⟨wd_387, wd_389, wd_12, wd_73, wd_390, by decide +kernel, ⟨by decide +kernel, by decide +kernel, by decide +kernel⟩, by decide +kernel⟩
theorem qV_RX5_59 : cVt RX5 59 mX5_joinItem 0 := ⟨wd_391, wd_393, wd_13, wd_73, wd_394, by decide +kernel, ⟨by decide +kernel, by decide +kernel, by decide +kernel⟩, by decide +kernel⟩
theorem qV_RX5_62 : cVt RX5 62 mX5_codeHere 0 := ⟨wd_362, wd_364, wd_8, wd_73, wd_365, by decide +kernel, ⟨by decide +kernel, by decide +kernel, by decide +kernel⟩, by decide +kernel⟩
theorem qV_RX5_66 : cVt RX5 66 mX5_readNumber 1 := ⟨wd_366, wd_368, wd_9, wd_73, wd_369, by decide +kernel, ⟨by decide +kernel, by decide +kernel, by decide +kernel⟩, by decide +kernel⟩
theorem qV_RX5_70 : cVt RX5 70 mX5_readPace 0 := ⟨wd_373, wd_375, wd_10, wd_73, wd_376, by decide +kernel, ⟨by decide +kernel, by decide +kernel, by decide +kernel⟩, by decide +kernel⟩
theorem qV_RX6_103 : cVt RX6 103 mX3_take 5 := ⟨wd_278, wd_279, wd_280, wd_72, wd_281, by decide +kernel, ⟨by decide +kernel, by decide +kernel, by decide +kernel⟩, by decide +kernel⟩
theorem qV_RX6_107 : cVt RX6 107 mX6_isRowOfSteps 1 := ⟨wd_301, wd_303, wd_4, wd_67, wd_304, by decide +kernel, ⟨by decide +kernel, by decide +kernel, by decide +kernel⟩, by decide +kernel⟩
theorem qV_RX6_114 : cVt RX6 114 mX5_read 2 := ⟨wd_353, wd_354, wd_355, wd_73, wd_356, by decide +kernel, ⟨by decide +kernel, by decide +kernel, by decide +kernel⟩, by decide +kernel⟩
theorem qV_RX6_149 : cVt RX6 149 mX0_serveNothing 1 := ⟨wd_467, wd_468, wd_469, wd_69, wd_470, by decide +kernel, ⟨by decide +kernel, by decide +kernel, by decide +kernel⟩, by decide +kernel⟩
theorem qV_RX6_153 : cVt RX6 153 mX0_serveBy 3 := ⟨wd_471, wd_472, wd_473, wd_69, wd_474, by decide +kernel, ⟨by decide +kernel, by decide +kernel, by decide +kernel⟩, by decide +kernel⟩
theorem qV_RX6_156 : cVt RX6 156 mX6_newFlow 5 := ⟨wd_480, wd_482, wd_14, wd_67, wd_483, by decide +kernel, ⟨by decide +kernel, by decide +kernel, by decide +kernel⟩, by decide +kernel⟩
theorem qV_RX6_160 : cVt RX6 160 mX0_hasFlow 1 := ⟨wd_505, wd_506, wd_507, wd_69, wd_508, by decide +kernel, ⟨by decide +kernel, by decide +kernel, by decide +kernel⟩, by decide +kernel⟩
theorem qV_RX6_169 : cVt RX6 169 mX0_hasPlace 2 := ⟨wd_509, wd_510, wd_511, wd_69, wd_512, by decide +kernel, ⟨by decide +kernel, by decide +kernel, by decide +kernel⟩, by decide +kernel⟩
theorem qV_RX6_179 : cVt RX6 179 mX0_ruleBy 1 := ⟨wd_518, wd_519, wd_520, wd_69, wd_521, by decide +kernel, ⟨by decide +kernel, by decide +kernel, by decide +kernel⟩, by decide +kernel⟩
theorem qV_RX6_182 : cVt RX6 182 mX0_hasRing 0 := ⟨wd_526, wd_527, wd_528, wd_69, wd_529, by decide +kernel, ⟨by decide +kernel, by decide +kernel, by decide +kernel⟩, by decide +kernel⟩
theorem qV_RX6_185 : cVt RX6 185 mX0_isBounded 0 := ⟨wd_542, wd_543, wd_544, wd_69, wd_545, by decide +kernel, ⟨by decide +kernel, by decide +kernel, by decide +kernel⟩, by decide +kernel⟩
theorem qV_RX6_188 : cVt RX6 188 mX0_latestAt 2 := ⟨wd_579, wd_580, wd_581, wd_69, wd_582, by decide +kernel, ⟨by decide +kernel, by decide +kernel, by decide +kernel⟩, by decide +kernel⟩
theorem qV_RX6_192 : cVt RX6 192 mX0_comesAt 2 := ⟨wd_587, wd_498, wd_499, wd_69, wd_500, by decide +kernel, ⟨by decide +kernel, by decide +kernel, by decide +kernel⟩, by decide +kernel⟩
theorem qV_RX6_196 : cVt RX6 196 mX0_hasAt 2 := ⟨wd_588, wd_568, wd_569, wd_69, wd_570, by decide +kernel, ⟨by decide +kernel, by decide +kernel, by decide +kernel⟩, by decide +kernel⟩
theorem qV_RX6_199 : cVt RX6 199 mX0_goesOnFrom 2 := ⟨wd_589, wd_574, wd_575, wd_69, wd_576, by decide +kernel, ⟨by decide +kernel, by decide +kernel, by decide +kernel⟩, by decide +kernel⟩
theorem qV_RX6_202 : cVt RX6 202 mX0_greatestHeapIn 1 := ⟨wd_594, wd_595, wd_596, wd_69, wd_597, by decide +kernel, ⟨by decide +kernel, by decide +kernel, by decide +kernel⟩, by decide +kernel⟩
theorem qV_RX6_205 : cVt RX6 205 mX0_waitByNodes 1 := ⟨wd_603, wd_604, wd_605, wd_69, wd_606, by decide +kernel, ⟨by decide +kernel, by decide +kernel, by decide +kernel⟩, by decide +kernel⟩
theorem qV_RX6_208 : cVt RX6 208 mX0_waitAtOnce 1 := ⟨wd_608, wd_609, wd_610, wd_69, wd_611, by decide +kernel, ⟨by decide +kernel, by decide +kernel, by decide +kernel⟩, by decide +kernel⟩
theorem qV_RX6_211 : cVt RX6 211 mX6_whyNoWay 1 := ⟨wd_484, wd_486, wd_15, wd_67, wd_487, by decide +kernel, ⟨by decide +kernel, by decide +kernel, by decide +kernel⟩, by decide +kernel⟩
theorem qV_RX6_214 : cVt RX6 214 mX0_isFull 0 := ⟨wd_488, wd_489, wd_490, wd_69, wd_491, by decide +kernel, ⟨by decide +kernel, by decide +kernel, by decide +kernel⟩, by decide +kernel⟩
theorem qV_RX6_215 : cVt RX6 215 mX0_addFlow 4 := ⟨wd_492, wd_493, wd_494, wd_69, wd_495, by decide +kernel, ⟨by decide +kernel, by decide +kernel, by decide +kernel⟩, by decide +kernel⟩
theorem qV_RX6_219 : cVt RX6 219 mX6_seenOf 4 := ⟨wd_617, wd_619, wd_23, wd_67, wd_620, by decide +kernel, ⟨by decide +kernel, by decide +kernel, by decide +kernel⟩, by decide +kernel⟩
theorem qV_RX6_225 : cVt RX6 225 mX2_firstBreak 1 := ⟨wd_629, wd_630, wd_631, wd_71, wd_632, by decide +kernel, ⟨by decide +kernel, by decide +kernel, by decide +kernel⟩, by decide +kernel⟩
theorem qV_RX6_229 : cVt RX6 229 mX2_leastBurst 1 := ⟨wd_637, wd_638, wd_639, wd_71, wd_640, by decide +kernel, ⟨by decide +kernel, by decide +kernel, by decide +kernel⟩, by decide +kernel⟩
theorem qV_RX6_232 : cVt RX6 232 mX2_shapeBy 1 := ⟨wd_647, wd_648, wd_649, wd_71, wd_650, by decide +kernel, ⟨by decide +kernel, by decide +kernel, by decide +kernel⟩, by decide +kernel⟩
theorem qV_RX6_239 : cVt RX6 239 mX2_mostHeld 0 := ⟨wd_652, wd_653, wd_654, wd_71, wd_655, by decide +kernel, ⟨by decide +kernel, by decide +kernel, by decide +kernel⟩, by decide +kernel⟩
theorem qV_RX6_243 : cVt RX6 243 mX2_latestOfShaped 0 := ⟨wd_657, wd_658, wd_659, wd_71, wd_660, by decide +kernel, ⟨by decide +kernel, by decide +kernel, by decide +kernel⟩, by decide +kernel⟩
theorem qV_RX6_256 : cVt RX6 256 mX2_replaceBy 2 := ⟨wd_621, wd_622, wd_623, wd_71, wd_624, by decide +kernel, ⟨by decide +kernel, by decide +kernel, by decide +kernel⟩, by decide +kernel⟩
theorem qV_RX6_259 : cVt RX6 259 mX3_renew 3 := ⟨wd_672, wd_673, wd_674, wd_72, wd_675, by decide +kernel, ⟨by decide +kernel, by decide +kernel, by decide +kernel⟩, by decide +kernel⟩
theorem qV_RX6_263 : cVt RX6 263 mX3_has 1 := ⟨wd_680, wd_287, wd_288, wd_72, wd_289, by decide +kernel, ⟨by decide +kernel, by decide +kernel, by decide +kernel⟩, by decide +kernel⟩
theorem qV_RX6_264 : cVt RX6 264 mX3_drop 1 := ⟨wd_681, wd_682, wd_683, wd_72, wd_684, by decide +kernel, ⟨by decide +kernel, by decide +kernel, by decide +kernel⟩, by decide +kernel⟩
theorem qV_RX6_267 : cVt RX6 267 mX3_write 3 := ⟨wd_689, wd_690, wd_691, wd_72, wd_692, by decide +kernel, ⟨by decide +kernel, by decide +kernel, by decide +kernel⟩, by decide +kernel⟩
theorem qV_RX6_270 : cVt RX6 270 mX3_whyUnread 3 := ⟨wd_701, wd_702, wd_703, wd_72, wd_704, by decide +kernel, ⟨by decide +kernel, by decide +kernel, by decide +kernel⟩, by decide +kernel⟩
theorem qV_RX6_278 : cVt RX6 278 mX3_bring 5 := ⟨wd_710, wd_711, wd_712, wd_72, wd_713, by decide +kernel, ⟨by decide +kernel, by decide +kernel, by decide +kernel⟩, by decide +kernel⟩
theorem qV_RX6_284 : cVt RX6 284 mX6_toldByLate 1 := ⟨wd_718, wd_720, wd_25, wd_67, wd_721, by decide +kernel, ⟨by decide +kernel, by decide +kernel, by decide +kernel⟩, by decide +kernel⟩
theorem qV_RX6_287 : cVt RX6 287 mX6_toldByBucket 1 := ⟨wd_726, wd_728, wd_27, wd_67, wd_729, by decide +kernel, ⟨by decide +kernel, by decide +kernel, by decide +kernel⟩, by decide +kernel⟩
theorem qV_RX6_290 : cVt RX6 290 mX6_toldBySteps 1 := ⟨wd_730, wd_732, wd_28, wd_67, wd_733, by decide +kernel, ⟨by decide +kernel, by decide +kernel, by decide +kernel⟩, by decide +kernel⟩
theorem qV_RX6_293 : cVt RX6 293 mX6_leaveInTrace 1 := ⟨wd_722, wd_724, wd_26, wd_67, wd_725, by decide +kernel, ⟨by decide +kernel, by decide +kernel, by decide +kernel⟩, by decide +kernel⟩
theorem qV_RX6_296 : cVt RX6 296 mX6_takenAs 2 := ⟨wd_743, wd_745, wd_29, wd_67, wd_746, by decide +kernel, ⟨by decide +kernel, by decide +kernel, by decide +kernel⟩, by decide +kernel⟩
theorem qV_RX6_303 : cVt RX6 303 mX0_servingNodes 0 := ⟨wd_759, wd_760, wd_761, wd_69, wd_762, by decide +kernel, ⟨by decide +kernel, by decide +kernel, by decide +kernel⟩, by decide +kernel⟩
theorem qV_RX6_60 : cVt RX6 60 mX6_stepsOf 4 := ⟨wd_274, wd_276, wd_0, wd_67, wd_277, by decide +kernel, ⟨by decide +kernel, by decide +kernel, by decide +kernel⟩, by decide +kernel⟩
theorem qV_RX6_64 : cVt RX6 64 mX6_ended 1 := ⟨wd_327, wd_329, wd_5, wd_67, wd_330, by decide +kernel, ⟨by decide +kernel, by decide +kernel, by decide +kernel⟩, by decide +kernel⟩
theorem qV_RX6_72 : cVt RX6 72 mX4_isFull 0 := ⟨wd_308, wd_309, wd_310, wd_68, wd_311, by decide +kernel, ⟨by decide +kernel, by decide +kernel, by decide +kernel⟩, by decide +kernel⟩
theorem qV_RX6_76 : cVt RX6 76 mX4_nextRow 0 := ⟨wd_312, wd_313, wd_314, wd_68, wd_315, by decide +kernel, ⟨by decide +kernel, by decide +kernel, by decide +kernel⟩, by decide +kernel⟩
theorem qV_RX6_86 : cVt RX6 86 mX4_keepNext 1 := ⟨wd_323, wd_324, wd_325, wd_68, wd_326, by decide +kernel, ⟨by decide +kernel, by decide +kernel, by decide +kernel⟩, by decide +kernel⟩
theorem qV_RX6_92 : cVt RX6 92 mX6_stairOfText 4 := ⟨wd_349, wd_351, wd_6, wd_67, wd_352, by decide +kernel, ⟨by decide +kernel, by decide +kernel, by decide +kernel⟩, by decide +kernel⟩
theorem qV_RX6_95 : cVt RX6 95 mX4_has 1 := ⟨wd_406, wd_407, wd_408, wd_68, wd_409, by decide +kernel, ⟨by decide +kernel, by decide +kernel, by decide +kernel⟩, by decide +kernel⟩
theorem qV_RX6_99 : cVt RX6 99 mX4_row 1 := ⟨wd_410, wd_411, wd_412, wd_68, wd_413, by decide +kernel, ⟨by decide +kernel, by decide +kernel, by decide +kernel⟩, by decide +kernel⟩
theorem qV_RX7_100 : cVt RX7 100 mX7_barred 4 := ⟨wd_860, wd_862, wd_31, wd_74, wd_863, by decide +kernel, ⟨by decide +kernel, by decide +kernel, by decide +kernel⟩, by decide +kernel⟩
theorem qV_RX7_104 : cVt RX7 104 mX7_areSteps 2 := ⟨wd_872, wd_874, wd_33, wd_74, wd_875, by decide +kernel, ⟨by decide +kernel, by decide +kernel, by decide +kernel⟩, by decide +kernel⟩
theorem qV_RX7_108 : cVt RX7 108 mX7_of 2 := ⟨wd_884, wd_886, wd_35, wd_74, wd_887, by decide +kernel, ⟨by decide +kernel, by decide +kernel, by decide +kernel⟩, by decide +kernel⟩
theorem qV_RX7_115 : cVt RX7 115 mX7_keep 1 := ⟨wd_891, wd_893, wd_36, wd_74, wd_894, by decide +kernel, ⟨by decide +kernel, by decide +kernel, by decide +kernel⟩, by decide +kernel⟩
theorem qV_RX7_120 : cVt RX7 120 mX7_layBucket 3 := ⟨wd_900, wd_902, wd_37, wd_74, wd_903, by decide +kernel, ⟨by decide +kernel, by decide +kernel, by decide +kernel⟩, by decide +kernel⟩
theorem qV_RX7_124 : cVt RX7 124 mX7_layLate 3 := ⟨wd_908, wd_910, wd_38, wd_74, wd_911, by decide +kernel, ⟨by decide +kernel, by decide +kernel, by decide +kernel⟩, by decide +kernel⟩
theorem qV_RX7_137 : cVt RX7 137 mX7_readsNumber 3 := ⟨wd_924, wd_926, wd_41, wd_74, wd_927, by decide +kernel, ⟨by decide +kernel, by decide +kernel, by decide +kernel⟩, by decide +kernel⟩
theorem qV_RX7_147 : cVt RX7 147 mX7_readsItem 2 := ⟨wd_920, wd_922, wd_40, wd_74, wd_923, by decide +kernel, ⟨by decide +kernel, by decide +kernel, by decide +kernel⟩, by decide +kernel⟩
theorem qV_RX7_150 : cVt RX7 150 mX7_readStair 2 := ⟨wd_916, wd_918, wd_39, wd_74, wd_919, by decide +kernel, ⟨by decide +kernel, by decide +kernel, by decide +kernel⟩, by decide +kernel⟩
theorem qV_RX7_153 : cVt RX7 153 mX7_layItem 2 := ⟨wd_930, wd_932, wd_42, wd_74, wd_933, by decide +kernel, ⟨by decide +kernel, by decide +kernel, by decide +kernel⟩, by decide +kernel⟩
theorem qV_RX7_157 : cVt RX7 157 mX7_layBoth 4 := ⟨wd_934, wd_936, wd_43, wd_74, wd_937, by decide +kernel, ⟨by decide +kernel, by decide +kernel, by decide +kernel⟩, by decide +kernel⟩
theorem qV_RX7_161 : cVt RX7 161 mX7_noStair 1 := ⟨wd_953, wd_955, wd_46, wd_74, wd_956, by decide +kernel, ⟨by decide +kernel, by decide +kernel, by decide +kernel⟩, by decide +kernel⟩
theorem qV_RX7_164 : cVt RX7 164 mX7_alongAt 3 := ⟨wd_938, wd_940, wd_44, wd_74, wd_941, by decide +kernel, ⟨by decide +kernel, by decide +kernel, by decide +kernel⟩, by decide +kernel⟩
theorem qV_RX7_168 : cVt RX7 168 mX7_outAt 3 := ⟨wd_942, wd_944, wd_45, wd_74, wd_945, by decide +kernel, ⟨by decide +kernel, by decide +kernel, by decide +kernel⟩, by decide +kernel⟩
theorem qV_RX7_176 : cVt RX7 176 mX7_layMoved 4 := ⟨wd_966, wd_968, wd_47, wd_74, wd_969, by decide +kernel, ⟨by decide +kernel, by decide +kernel, by decide +kernel⟩, by decide +kernel⟩
theorem qV_RX7_179 : cVt RX7 179 mX7_laterBy 3 := ⟨wd_978, wd_980, wd_49, wd_74, wd_981, by decide +kernel, ⟨by decide +kernel, by decide +kernel, by decide +kernel⟩, by decide +kernel⟩
theorem qV_RX7_182 : cVt RX7 182 mX7_waitOf 3 := ⟨wd_974, wd_976, wd_48, wd_74, wd_977, by decide +kernel, ⟨by decide +kernel, by decide +kernel, by decide +kernel⟩, by decide +kernel⟩
theorem qV_RX7_185 : cVt RX7 185 mX7_heapOf 2 := ⟨wd_986, wd_988, wd_50, wd_74, wd_989, by decide +kernel, ⟨by decide +kernel, by decide +kernel, by decide +kernel⟩, by decide +kernel⟩
theorem qV_RX7_196 : cVt RX7 196 mX7_wayFault 2 := ⟨wd_1006, wd_1008, wd_51, wd_74, wd_1009, by decide +kernel, ⟨by decide +kernel, by decide +kernel, by decide +kernel⟩, by decide +kernel⟩
theorem qV_RX7_199 : cVt RX7 199 mX7_noFlow 1 := ⟨wd_1014, wd_1016, wd_52, wd_74, wd_1017, by decide +kernel, ⟨by decide +kernel, by decide +kernel, by decide +kernel⟩, by decide +kernel⟩
theorem qV_RX7_209 : cVt RX7 209 mX7_layRounds 0 := ⟨wd_1028, wd_1030, wd_53, wd_74, wd_1031, by decide +kernel, ⟨by decide +kernel, by decide +kernel, by decide +kernel⟩, by decide +kernel⟩
theorem qV_RX7_213 : cVt RX7 213 mX7_layZero 1 := ⟨wd_1064, wd_1066, wd_61, wd_74, wd_1067, by decide +kernel, ⟨by decide +kernel, by decide +kernel, by decide +kernel⟩, by decide +kernel⟩
theorem qV_RX7_217 : cVt RX7 217 mX7_placeOf 2 := ⟨wd_1052, wd_1054, wd_58, wd_74, wd_1055, by decide +kernel, ⟨by decide +kernel, by decide +kernel, by decide +kernel⟩, by decide +kernel⟩
theorem qV_RX7_220 : cVt RX7 220 mX7_laySum 4 := ⟨wd_1060, wd_1062, wd_60, wd_74, wd_1063, by decide +kernel, ⟨by decide +kernel, by decide +kernel, by decide +kernel⟩, by decide +kernel⟩
theorem qV_RX7_223 : cVt RX7 223 mX7_areServed 0 := ⟨wd_1044, wd_1046, wd_56, wd_74, wd_1047, by decide +kernel, ⟨by decide +kernel, by decide +kernel, by decide +kernel⟩, by decide +kernel⟩
theorem qV_RX7_226 : cVt RX7 226 mX7_layComing 1 := ⟨wd_1048, wd_1050, wd_57, wd_74, wd_1051, by decide +kernel, ⟨by decide +kernel, by decide +kernel, by decide +kernel⟩, by decide +kernel⟩
theorem qV_RX7_229 : cVt RX7 229 mX7_layThere 2 := ⟨wd_1056, wd_1058, wd_59, wd_74, wd_1059, by decide +kernel, ⟨by decide +kernel, by decide +kernel, by decide +kernel⟩, by decide +kernel⟩
theorem qV_RX7_232 : cVt RX7 232 mX7_noStep 2 := ⟨wd_1036, wd_1038, wd_54, wd_74, wd_1039, by decide +kernel, ⟨by decide +kernel, by decide +kernel, by decide +kernel⟩, by decide +kernel⟩
theorem qV_RX7_235 : cVt RX7 235 mX7_layAll 0 := ⟨wd_1040, wd_1042, wd_55, wd_74, wd_1043, by decide +kernel, ⟨by decide +kernel, by decide +kernel, by decide +kernel⟩, by decide +kernel⟩
theorem qV_RX7_241 : cVt RX7 241 mX7_breaks 1 := ⟨wd_1088, wd_1090, wd_62, wd_74, wd_1091, by decide +kernel, ⟨by decide +kernel, by decide +kernel, by decide +kernel⟩, by decide +kernel⟩
theorem qV_RX7_250 : cVt RX7 250 mX7_noCell 2 := ⟨wd_1118, wd_1120, wd_63, wd_74, wd_1121, by decide +kernel, ⟨by decide +kernel, by decide +kernel, by decide +kernel⟩, by decide +kernel⟩
theorem qV_RX7_253 : cVt RX7 253 mX7_failedLong 1 := ⟨wd_1130, wd_1132, wd_64, wd_74, wd_1133, by decide +kernel, ⟨by decide +kernel, by decide +kernel, by decide +kernel⟩, by decide +kernel⟩
theorem qV_RX7_260 : cVt RX7 260 mX7_traced 1 := ⟨wd_1142, wd_1144, wd_65, wd_74, wd_1145, by decide +kernel, ⟨by decide +kernel, by decide +kernel, by decide +kernel⟩, by decide +kernel⟩
theorem qV_RX7_71 : cVt RX7 71 mX7_refused 1 := ⟨wd_856, wd_858, wd_30, wd_74, wd_859, by decide +kernel, ⟨by decide +kernel, by decide +kernel, by decide +kernel⟩, by decide +kernel⟩
theorem qV_RX7_75 : cVt RX7 75 mX7_failed 1 := ⟨wd_865, wd_867, wd_32, wd_74, wd_868, by decide +kernel, ⟨by decide +kernel, by decide +kernel, by decide +kernel⟩, by decide +kernel⟩
theorem qV_RX7_88 : cVt RX7 88 mX7_set 3 := ⟨wd_878, wd_880, wd_34, wd_74, wd_881, by decide +kernel, ⟨by decide +kernel, by decide +kernel, by decide +kernel⟩, by decide +kernel⟩

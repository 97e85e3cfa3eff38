abbrev mJ7_fill_53178 : MI := (yJ7_fill_53178, cJ7_fill_53178, 4, none, 0, 0)
abbrev mJ9_floorDiv_7cf53 : MI := (yJ9_floorDiv_7cf53, cJ9_floorDiv_7cf53, 3, some .int, 0, 0)
abbrev mX0_gather : MI := (yX0_gather, cX0_gather, 4, some .int, 3, 73)
abbrev mX0_gatherTrip : MI := (yX0_gatherTrip, cX0_gatherTrip, 6, none, 2, 48)
abbrev mX0_of : MI := (yX0_of, cX0_of, 6, some .int, 2, 48)
abbrev mX10_add : MI := (yX10_add, cX10_add, 4, some .int, 0, 0)
abbrev mX10_beginsAt : MI := (yX10_beginsAt, cX10_beginsAt, 5, some .int, 1, 26)
abbrev mX10_endsAt : MI := (yX10_endsAt, cX10_endsAt, 4, some .int, 2, 50)
abbrev mX10_has : MI := (yX10_has, cX10_has, 2, some .boolean, 0, 0)
abbrev mX10_makeAsked : MI := (yX10_makeAsked, cX10_makeAsked, 4, some .int, 0, 0)
abbrev mX10_makeShuttle : MI := (yX10_makeShuttle, cX10_makeShuttle, 6, some .int, 0, 0)
abbrev mX10_nextBeginning : MI := (yX10_nextBeginning, cX10_nextBeginning, 7, some .int, 0, 0)
abbrev mX11_asked : MI := (yX11_asked, cX11_asked, 3, some .int, 1, 23)
abbrev mX11_between : MI := (yX11_between, cX11_between, 3, some .boolean, 0, 0)
abbrev mX11_call : MI := (yX11_call, cX11_call, 5, some .int, 1, 28)
abbrev mX11_comes : MI := (yX11_comes, cX11_comes, 2, some .int, 4, 98)
abbrev mX11_count : MI := (yX11_count, cX11_count, 2, some .int, 0, 0)
abbrev mX11_day : MI := (yX11_day, cX11_day, 4, some .int, 2, 42)
abbrev mX11_fare : MI := (yX11_fare, cX11_fare, 4, some .int, 2, 42)
abbrev mX11_gather : MI := (yX11_gather, cX11_gather, 7, none, 6, 148)
abbrev mX11_give : MI := (yX11_give, cX11_give, 2, some .int, 4, 96)
abbrev mX11_gone : MI := (yX11_gone, cX11_gone, 4, some .int, 2, 42)
abbrev mX11_isDay : MI := (yX11_isDay, cX11_isDay, 1, some .boolean, 1, 22)
abbrev mX11_isMinute : MI := (yX11_isMinute, cX11_isMinute, 1, some .boolean, 1, 22)
abbrev mX11_isZone : MI := (yX11_isZone, cX11_isZone, 1, some .boolean, 1, 22)
abbrev mX11_late : MI := (yX11_late, cX11_late, 5, some .int, 2, 49)
abbrev mX11_latest : MI := (yX11_latest, cX11_latest, 9, some .int, 6, 148)
abbrev mX11_leg : MI := (yX11_leg, cX11_leg, 4, some .int, 2, 44)
abbrev mX11_meet : MI := (yX11_meet, cX11_meet, 6, some .int, 7, 174)
abbrev mX11_met : MI := (yX11_met, cX11_met, 1, some .int, 0, 0)
abbrev mX11_miss : MI := (yX11_miss, cX11_miss, 4, some .int, 2, 43)
abbrev mX11_reach : MI := (yX11_reach, cX11_reach, 8, some .int, 6, 148)
abbrev mX11_shuttle : MI := (yX11_shuttle, cX11_shuttle, 5, some .int, 2, 42)
abbrev mX11_still : MI := (yX11_still, cX11_still, 3, some .int, 4, 98)
abbrev mX11_stop : MI := (yX11_stop, cX11_stop, 3, some .int, 2, 42)
abbrev mX11_table : MI := (yX11_table, cX11_table, 6, some .int, 4, 96)
abbrev mX11_take : MI := (yX11_take, cX11_take, 2, some .int, 5, 124)
abbrev mX11_taken : MI := (yX11_taken, cX11_taken, 4, some .int, 2, 48)
abbrev mX11_trip : MI := (yX11_trip, cX11_trip, 5, some .int, 1, 23)
abbrev mX11_walk : MI := (yX11_walk, cX11_walk, 4, some .int, 1, 23)
abbrev mX11_way : MI := (yX11_way, cX11_way, 3, some .int, 1, 22)
abbrev mX11_ways : MI := (yX11_ways, cX11_ways, 6, some .int, 7, 191)
abbrev mX12_add : MI := (yX12_add, cX12_add, 9, none, 1, 26)
abbrev mX12_arrival : MI := (yX12_arrival, cX12_arrival, 8, some .int, 2, 49)
abbrev mX12_asked : MI := (yX12_asked, cX12_asked, 4, some .int, 2, 43)
abbrev mX12_at : MI := (yX12_at, cX12_at, 3, some .int, 0, 0)
abbrev mX12_begins : MI := (yX12_begins, cX12_begins, 7, some .int, 0, 0)
abbrev mX12_behind : MI := (yX12_behind, cX12_behind, 4, some .int, 1, 26)
abbrev mX12_call : MI := (yX12_call, cX12_call, 7, some .int, 2, 43)
abbrev mX12_comes : MI := (yX12_comes, cX12_comes, 3, some .int, 3, 80)
abbrev mX12_comesAt : MI := (yX12_comesAt, cX12_comesAt, 4, some .int, 1, 25)
abbrev mX12_count : MI := (yX12_count, cX12_count, 4, some .int, 0, 0)
abbrev mX12_day : MI := (yX12_day, cX12_day, 4, some .int, 2, 42)
abbrev mX12_fare : MI := (yX12_fare, cX12_fare, 5, some .int, 1, 22)
abbrev mX12_fareOf : MI := (yX12_fareOf, cX12_fareOf, 4, some .int, 0, 0)
abbrev mX12_findRide : MI := (yX12_findRide, cX12_findRide, 14, some .boolean, 2, 49)
abbrev mX12_findWay : MI := (yX12_findWay, cX12_findWay, 14, none, 4, 109)
abbrev mX12_give : MI := (yX12_give, cX12_give, 3, some .int, 2, 43)
abbrev mX12_go : MI := (yX12_go, cX12_go, 7, none, 2, 52)
abbrev mX12_gone : MI := (yX12_gone, cX12_gone, 5, some .int, 2, 43)
abbrev mX12_hasPlace : MI := (yX12_hasPlace, cX12_hasPlace, 6, some .boolean, 0, 0)
abbrev mX12_in : MI := (yX12_in, cX12_in, 3, some .boolean, 0, 0)
abbrev mX12_isAhead : MI := (yX12_isAhead, cX12_isAhead, 8, some .boolean, 2, 48)
abbrev mX12_isBeaten : MI := (yX12_isBeaten, cX12_isBeaten, 8, some .boolean, 3, 76)
abbrev mX12_isCall : MI := (yX12_isCall, cX12_isCall, 3, some .boolean, 2, 43)
abbrev mX12_isDay : MI := (yX12_isDay, cX12_isDay, 1, some .boolean, 1, 22)
abbrev mX12_isInTable : MI := (yX12_isInTable, cX12_isInTable, 5, some .boolean, 1, 22)
abbrev mX12_isInTime : MI := (yX12_isInTime, cX12_isInTime, 6, some .boolean, 4, 101)
abbrev mX12_isStop : MI := (yX12_isStop, cX12_isStop, 2, some .boolean, 1, 22)
abbrev mX12_isTicket : MI := (yX12_isTicket, cX12_isTicket, 2, some .boolean, 1, 22)
abbrev mX12_isTrip : MI := (yX12_isTrip, cX12_isTrip, 2, some .boolean, 1, 22)
abbrev mX12_isWalk : MI := (yX12_isWalk, cX12_isWalk, 2, some .boolean, 1, 22)
abbrev mX12_late : MI := (yX12_late, cX12_late, 5, some .int, 3, 65)
abbrev mX12_lateAt : MI := (yX12_lateAt, cX12_lateAt, 6, some .int, 0, 0)
abbrev mX12_latest : MI := (yX12_latest, cX12_latest, 8, some .int, 5, 126)
abbrev mX12_least : MI := (yX12_least, cX12_least, 3, none, 0, 0)
abbrev mX12_leavesAt : MI := (yX12_leavesAt, cX12_leavesAt, 4, some .int, 1, 25)
abbrev mX12_leg : MI := (yX12_leg, cX12_leg, 4, some .int, 1, 22)
abbrev mX12_look : MI := (yX12_look, cX12_look, 6, none, 2, 48)
abbrev mX12_meet : MI := (yX12_meet, cX12_meet, 7, some .int, 4, 101)
abbrev mX12_met : MI := (yX12_met, cX12_met, 1, some .int, 0, 0)
abbrev mX12_miss : MI := (yX12_miss, cX12_miss, 5, some .int, 3, 65)
abbrev mX12_places : MI := (yX12_places, cX12_places, 11, some .boolean, 0, 0)
abbrev mX12_putRide : MI := (yX12_putRide, cX12_putRide, 6, none, 0, 0)
abbrev mX12_putWalk : MI := (yX12_putWalk, cX12_putWalk, 3, none, 0, 0)
abbrev mX12_reach : MI := (yX12_reach, cX12_reach, 8, some .int, 4, 101)
abbrev mX12_ride : MI := (yX12_ride, cX12_ride, 8, none, 1, 25)
abbrev mX12_runs : MI := (yX12_runs, cX12_runs, 3, some .boolean, 0, 0)
abbrev mX12_shuttle : MI := (yX12_shuttle, cX12_shuttle, 6, some .int, 2, 43)
abbrev mX12_soonestOf : MI := (yX12_soonestOf, cX12_soonestOf, 6, some .int, 3, 76)
abbrev mX12_still : MI := (yX12_still, cX12_still, 12, some .int, 2, 49)
abbrev mX12_stop : MI := (yX12_stop, cX12_stop, 3, some .int, 1, 22)
abbrev mX12_table : MI := (yX12_table, cX12_table, 10, some .int, 3, 75)
abbrev mX12_take : MI := (yX12_take, cX12_take, 3, some .int, 1, 30)
abbrev mX12_taken : MI := (yX12_taken, cX12_taken, 4, some .int, 3, 65)
abbrev mX12_trip : MI := (yX12_trip, cX12_trip, 4, some .int, 1, 22)
abbrev mX12_walk : MI := (yX12_walk, cX12_walk, 4, some .int, 2, 43)
abbrev mX12_walkAhead : MI := (yX12_walkAhead, cX12_walkAhead, 8, some .int, 3, 82)
abbrev mX12_way : MI := (yX12_way, cX12_way, 3, some .int, 1, 22)
abbrev mX12_ways : MI := (yX12_ways, cX12_ways, 10, some .int, 5, 142)
abbrev mX1_sum : MI := (yX1_sum, cX1_sum, 6, some .int, 0, 0)
abbrev mX1_tell : MI := (yX1_tell, cX1_tell, 5, some .int, 1, 25)
abbrev mX2_callsInTime : MI := (yX2_callsInTime, cX2_callsInTime, 12, some .int, 3, 73)
abbrev mX2_canGetOn : MI := (yX2_canGetOn, cX2_canGetOn, 9, some .boolean, 3, 67)
abbrev mX2_collect : MI := (yX2_collect, cX2_collect, 6, some .int, 6, 166)
abbrev mX2_firstOff : MI := (yX2_firstOff, cX2_firstOff, 5, some .int, 0, 0)
abbrev mX2_has : MI := (yX2_has, cX2_has, 2, some .boolean, 0, 0)
abbrev mX2_hasLeg : MI := (yX2_hasLeg, cX2_hasLeg, 3, some .boolean, 1, 22)
abbrev mX2_isUnbeaten : MI := (yX2_isUnbeaten, cX2_isUnbeaten, 4, some .boolean, 1, 21)
abbrev mX2_leastRide : MI := (yX2_leastRide, cX2_leastRide, 11, none, 4, 104)
abbrev mX2_leastWalk : MI := (yX2_leastWalk, cX2_leastWalk, 8, some .int, 3, 73)
abbrev mX2_ofLeg : MI := (yX2_ofLeg, cX2_ofLeg, 4, some .int, 0, 0)
abbrev mX2_ofWay : MI := (yX2_ofWay, cX2_ofWay, 3, some .int, 0, 0)
abbrev mX2_ridesOver : MI := (yX2_ridesOver, cX2_ridesOver, 7, some .int, 1, 23)
abbrev mX2_trace : MI := (yX2_trace, cX2_trace, 13, none, 5, 134)
abbrev mX2_write : MI := (yX2_write, cX2_write, 7, none, 4, 98)
abbrev mX2_writeRide : MI := (yX2_writeRide, cX2_writeRide, 7, some .int, 0, 0)
abbrev mX2_writeWalk : MI := (yX2_writeWalk, cX2_writeWalk, 6, some .int, 3, 73)
abbrev mX3_at : MI := (yX3_at, cX3_at, 5, some .int, 1, 24)
abbrev mX3_change : MI := (yX3_change, cX3_change, 8, none, 1, 24)
abbrev mX3_full : MI := (yX3_full, cX3_full, 7, some .int, 1, 24)
abbrev mX3_newRow : MI := (yX3_newRow, cX3_newRow, 3, some .int, 0, 0)
abbrev mX3_rowOf : MI := (yX3_rowOf, cX3_rowOf, 5, some .int, 0, 0)
abbrev mX4_gather : MI := (yX4_gather, cX4_gather, 7, none, 3, 74)
abbrev mX4_gatherRun : MI := (yX4_gatherRun, cX4_gatherRun, 5, none, 2, 50)
abbrev mX4_setTimes : MI := (yX4_setTimes, cX4_setTimes, 8, none, 0, 0)
abbrev mX5_arrival : MI := (yX5_arrival, cX5_arrival, 7, some .int, 3, 73)
abbrev mX5_ask : MI := (yX5_ask, cX5_ask, 6, none, 4, 99)
abbrev mX5_askSoonest : MI := (yX5_askSoonest, cX5_askSoonest, 5, none, 5, 124)
abbrev mX5_canCost : MI := (yX5_canCost, cX5_canCost, 3, some .boolean, 1, 22)
abbrev mX5_endedAt : MI := (yX5_endedAt, cX5_endedAt, 4, some .int, 2, 44)
abbrev mX5_faresTo : MI := (yX5_faresTo, cX5_faresTo, 4, some .int, 0, 0)
abbrev mX5_getOff : MI := (yX5_getOff, cX5_getOff, 9, none, 1, 23)
abbrev mX5_getOn : MI := (yX5_getOn, cX5_getOn, 8, none, 1, 22)
abbrev mX5_getReady : MI := (yX5_getReady, cX5_getReady, 7, none, 3, 73)
abbrev mX5_mostFare : MI := (yX5_mostFare, cX5_mostFare, 2, some .int, 0, 0)
abbrev mX5_readyAt : MI := (yX5_readyAt, cX5_readyAt, 4, some .int, 2, 44)
abbrev mX5_ride : MI := (yX5_ride, cX5_ride, 6, none, 2, 51)
abbrev mX5_row : MI := (yX5_row, cX5_row, 3, some .int, 0, 0)
abbrev mX6_clear : MI := (yX6_clear, cX6_clear, 1, none, 0, 0)
abbrev mX6_get : MI := (yX6_get, cX6_get, 2, some .int, 0, 0)
abbrev mX6_insert : MI := (yX6_insert, cX6_insert, 3, none, 0, 0)
abbrev mX7_add : MI := (yX7_add, cX7_add, 3, some .int, 0, 0)
abbrev mX7_dearest : MI := (yX7_dearest, cX7_dearest, 6, some .int, 1, 21)
abbrev mX7_has : MI := (yX7_has, cX7_has, 2, some .boolean, 0, 0)
abbrev mX7_price : MI := (yX7_price, cX7_price, 5, some .int, 0, 0)
abbrev mX7_priceOfRide : MI := (yX7_priceOfRide, cX7_priceOfRide, 3, some .int, 0, 0)
abbrev mX8_canRide : MI := (yX8_canRide, cX8_canRide, 4, some .boolean, 2, 48)
abbrev mX8_changeAt : MI := (yX8_changeAt, cX8_changeAt, 2, some .int, 0, 0)
abbrev mX8_changePlaces : MI := (yX8_changePlaces, cX8_changePlaces, 5, none, 2, 51)
abbrev mX8_giveBack : MI := (yX8_giveBack, cX8_giveBack, 2, none, 3, 75)
abbrev mX8_hasPlaces : MI := (yX8_hasPlaces, cX8_hasPlaces, 5, some .boolean, 3, 76)
abbrev mX8_hasPlacesOn : MI := (yX8_hasPlacesOn, cX8_hasPlacesOn, 8, some .boolean, 2, 49)
abbrev mX8_isOut : MI := (yX8_isOut, cX8_isOut, 2, some .boolean, 0, 0)
abbrev mX8_make : MI := (yX8_make, cX8_make, 5, some .int, 4, 100)
abbrev mX8_travel : MI := (yX8_travel, cX8_travel, 6, some .int, 3, 73)
abbrev mX9_add : MI := (yX9_add, cX9_add, 4, some .int, 0, 0)
abbrev mX9_addCall : MI := (yX9_addCall, cX9_addCall, 9, some .int, 0, 0)
abbrev mX9_comesAt : MI := (yX9_comesAt, cX9_comesAt, 4, some .int, 1, 25)
abbrev mX9_has : MI := (yX9_has, cX9_has, 2, some .boolean, 0, 0)
abbrev mX9_hasCall : MI := (yX9_hasCall, cX9_hasCall, 3, some .boolean, 1, 21)
abbrev mX9_isOpen : MI := (yX9_isOpen, cX9_isOpen, 3, some .boolean, 0, 0)
abbrev mX9_leavesAt : MI := (yX9_leavesAt, cX9_leavesAt, 4, some .int, 1, 25)
abbrev mX9_runsOn : MI := (yX9_runsOn, cX9_runsOn, 3, some .boolean, 0, 0)
abbrev mX9_setGone : MI := (yX9_setGone, cX9_setGone, 5, some .int, 0, 0)
abbrev mX9_setMissed : MI := (yX9_setMissed, cX9_setMissed, 5, some .int, 0, 0)
theorem inX0 : ∀ w ∈ u_ws RX0 TX0 2, w ∈ lwg := in_of [475, 477] (by decide +kernel) (by decide +kernel)
theorem inX1 : ∀ w ∈ u_ws RX1 TX1 6, w ∈ lwg := in_of [134, 136, 138, 140, 142, 144] (by decide +kernel) (by decide +kernel)
theorem inX2 : ∀ w ∈ u_ws RX2 TX2 11, w ∈ lwg := in_of [442, 444, 446, 448, 450, 452, 454, 456, 458, 460, 462] (by decide +kernel) (by decide +kernel)
theorem inX3 : ∀ w ∈ u_ws RX3 TX3 3, w ∈ lwg := in_of [257, 259, 261] (by decide +kernel) (by decide +kernel)
theorem inX4 : ∀ w ∈ u_ws RX4 TX4 9, w ∈ lwg := in_of [340, 342, 344, 346, 348, 350, 352, 354, 356] (by decide +kernel) (by decide +kernel)
theorem inX5 : ∀ w ∈ u_ws RX5 TX5 11, w ∈ lwg := in_of [382, 384, 386, 388, 390, 392, 394, 396, 398, 400, 402] (by decide +kernel) (by decide +kernel)
theorem inX6 : ∀ w ∈ u_ws RX6 TX6 2, w ∈ lwg := in_of [424, 426] (by decide +kernel) (by decide +kernel)
theorem inX7 : ∀ w ∈ u_ws RX7 TX7 4, w ∈ lwg := in_of [99, 101, 103, 105] (by decide +kernel) (by decide +kernel)
theorem inX8 : ∀ w ∈ u_ws RX8 TX8 13, w ∈ lwg := in_of [285, 287, 289, 291, 293, 295, 297, 299, 301, 303, 305, 307, 309] (by decide +kernel) (by decide +kernel)
theorem inX9 : ∀ w ∈ u_ws RX9 TX9 12, w ∈ lwg := in_of [180, 182, 184, 186, 188, 190, 192, 194, 196, 198, 200, 202] (by decide +kernel) (by decide +kernel)
theorem inX10 : ∀ w ∈ u_ws RX10 TX10 9, w ∈ lwg := in_of [229, 231, 233, 235, 237, 239, 241, 243, 245] (by decide +kernel) (by decide +kernel)
theorem inX11 : ∀ w ∈ u_ws RX11 TX11 11, w ∈ lwg := in_of [491, 493, 495, 497, 499, 501, 503, 505, 507, 509, 511] (by decide +kernel) (by decide +kernel)
theorem inX12 : ∀ w ∈ u_ws RX12 TX12 60, w ∈ lwg := in_of [1045, 1047, 1049, 1051, 1053, 1055, 1057, 1059, 1061, 1063, 1065, 1067, 1069, 1071, 1073, 1075, 1077, 1079, 1081, 1083, 1085, 1087, 1089, 1091, 1093, 1095, 1097, 1099, 1101, 1103, 1105, 1107, 1109, 1111, 1113, 1115, 1117, 1119, 1121, 1123, 1125, 1127, 1129, 1131, 1133, 1135, 1137, 1139, 1141, 1143, 1145, 1147, 1149, 1151, 1153, 1155, 1157, 1159, 1161, 1163] (by decide +kernel) (by decide +kernel)
theorem f_X11_12 : FOK RX11 12 11 0 RX11 TX11 11 := ⟨rfl, by decide, inX11, lwg_at 480 (by decide +kernel) rfl⟩
theorem f_X11_19 : FOK RX11 19 11 1 RX11 TX11 11 := ⟨rfl, by decide, inX11, lwg_at 481 (by decide +kernel) rfl⟩
theorem f_X11_26 : FOK RX11 26 11 2 RX11 TX11 11 := ⟨rfl, by decide, inX11, lwg_at 482 (by decide +kernel) rfl⟩
theorem f_X11_33 : FOK RX11 33 11 3 RX11 TX11 11 := ⟨rfl, by decide, inX11, lwg_at 483 (by decide +kernel) rfl⟩
theorem f_X11_42 : FOK RX11 42 11 4 RX11 TX11 11 := ⟨rfl, by decide, inX11, lwg_at 484 (by decide +kernel) rfl⟩
theorem f_X11_51 : FOK RX11 51 11 5 RX11 TX11 11 := ⟨rfl, by decide, inX11, lwg_at 485 (by decide +kernel) rfl⟩
theorem f_X11_60 : FOK RX11 60 11 6 RX11 TX11 11 := ⟨rfl, by decide, inX11, lwg_at 486 (by decide +kernel) rfl⟩
theorem f_X11_69 : FOK RX11 69 11 7 RX11 TX11 11 := ⟨rfl, by decide, inX11, lwg_at 487 (by decide +kernel) rfl⟩
theorem f_X11_78 : FOK RX11 78 11 8 RX11 TX11 11 := ⟨rfl, by decide, inX11, lwg_at 488 (by decide +kernel) rfl⟩
theorem f_X11_82 : FOK RX11 82 11 9 RX11 TX11 11 := ⟨rfl, by decide, inX11, lwg_at 489 (by decide +kernel) rfl⟩
theorem f_X11_86 : FOK RX11 86 11 10 RX11 TX11 11 := ⟨rfl, by decide, inX11, lwg_at 490 (by decide +kernel) rfl⟩
theorem f_X11_109 : FOK RX11 109 9 8 RX9 TX9 12 := ⟨rfl, by decide, inX9, lwg_at 171 (by decide +kernel) rfl⟩
theorem f_X11_138 : FOK RX11 138 10 3 RX10 TX10 9 := ⟨rfl, by decide, inX10, lwg_at 219 (by decide +kernel) rfl⟩
theorem f_X11_144 : FOK RX11 144 9 10 RX9 TX9 12 := ⟨rfl, by decide, inX9, lwg_at 175 (by decide +kernel) rfl⟩
theorem f_X11_207 : FOK RX11 207 5 6 RX5 TX5 11 := ⟨rfl, by decide, inX5, lwg_at 376 (by decide +kernel) rfl⟩
theorem f_X11_211 : FOK RX11 211 7 3 RX7 TX7 4 := ⟨rfl, by decide, inX7, lwg_at 98 (by decide +kernel) rfl⟩
theorem f_X11_221 : FOK RX11 221 9 11 RX9 TX9 12 := ⟨rfl, by decide, inX9, lwg_at 179 (by decide +kernel) rfl⟩
theorem f_X11_222 : FOK RX11 222 10 8 RX10 TX10 9 := ⟨rfl, by decide, inX10, lwg_at 228 (by decide +kernel) rfl⟩
theorem f_X11_223 : FOK RX11 223 2 9 RX2 TX2 11 := ⟨rfl, by decide, inX2, lwg_at 439 (by decide +kernel) rfl⟩
theorem f_X11_224 : FOK RX11 224 8 11 RX8 TX8 13 := ⟨rfl, by decide, inX8, lwg_at 282 (by decide +kernel) rfl⟩
theorem f_X11_225 : FOK RX11 225 8 12 RX8 TX8 13 := ⟨rfl, by decide, inX8, lwg_at 284 (by decide +kernel) rfl⟩
theorem f_X11_228 : FOK RX11 228 1 4 RX1 TX1 6 := ⟨rfl, by decide, inX1, lwg_at 131 (by decide +kernel) rfl⟩
theorem f_X0_14 : FOK RX0 14 0 1 RX0 TX0 2 := ⟨rfl, by decide, inX0, lwg_at 474 (by decide +kernel) rfl⟩
theorem f_X0_20 : FOK RX0 20 0 0 RX0 TX0 2 := ⟨rfl, by decide, inX0, lwg_at 473 (by decide +kernel) rfl⟩
theorem f_X0_27 : FOK RX0 27 9 11 RX9 TX9 12 := ⟨rfl, by decide, inX9, lwg_at 177 (by decide +kernel) rfl⟩
theorem f_X0_41 : FOK RX0 41 6 1 RX6 TX6 2 := ⟨rfl, by decide, inX6, lwg_at 422 (by decide +kernel) rfl⟩
theorem f_X0_53 : FOK RX0 53 9 3 RX9 TX9 12 := ⟨rfl, by decide, inX9, lwg_at 157 (by decide +kernel) rfl⟩
theorem f_X0_57 : FOK RX0 57 9 5 RX9 TX9 12 := ⟨rfl, by decide, inX9, lwg_at 162 (by decide +kernel) rfl⟩
theorem f_X1_9 : FOK RX1 9 1 0 RX1 TX1 6 := ⟨rfl, by decide, inX1, lwg_at 121 (by decide +kernel) rfl⟩
theorem f_X1_15 : FOK RX1 15 1 1 RX1 TX1 6 := ⟨rfl, by decide, inX1, lwg_at 123 (by decide +kernel) rfl⟩
theorem f_X1_18 : FOK RX1 18 1 2 RX1 TX1 6 := ⟨rfl, by decide, inX1, lwg_at 125 (by decide +kernel) rfl⟩
theorem f_X1_21 : FOK RX1 21 1 3 RX1 TX1 6 := ⟨rfl, by decide, inX1, lwg_at 127 (by decide +kernel) rfl⟩
theorem f_X1_24 : FOK RX1 24 1 4 RX1 TX1 6 := ⟨rfl, by decide, inX1, lwg_at 129 (by decide +kernel) rfl⟩
theorem f_X1_28 : FOK RX1 28 1 5 RX1 TX1 6 := ⟨rfl, by decide, inX1, lwg_at 133 (by decide +kernel) rfl⟩
theorem f_X2_9 : FOK RX2 9 2 1 RX2 TX2 11 := ⟨rfl, by decide, inX2, lwg_at 430 (by decide +kernel) rfl⟩
theorem f_X2_15 : FOK RX2 15 2 2 RX2 TX2 11 := ⟨rfl, by decide, inX2, lwg_at 431 (by decide +kernel) rfl⟩
theorem f_X2_23 : FOK RX2 23 2 3 RX2 TX2 11 := ⟨rfl, by decide, inX2, lwg_at 432 (by decide +kernel) rfl⟩
theorem f_X2_27 : FOK RX2 27 2 4 RX2 TX2 11 := ⟨rfl, by decide, inX2, lwg_at 433 (by decide +kernel) rfl⟩
theorem f_X2_30 : FOK RX2 30 2 5 RX2 TX2 11 := ⟨rfl, by decide, inX2, lwg_at 434 (by decide +kernel) rfl⟩
theorem f_X2_33 : FOK RX2 33 2 6 RX2 TX2 11 := ⟨rfl, by decide, inX2, lwg_at 435 (by decide +kernel) rfl⟩
theorem f_X2_36 : FOK RX2 36 2 7 RX2 TX2 11 := ⟨rfl, by decide, inX2, lwg_at 436 (by decide +kernel) rfl⟩
theorem f_X2_39 : FOK RX2 39 2 8 RX2 TX2 11 := ⟨rfl, by decide, inX2, lwg_at 437 (by decide +kernel) rfl⟩
theorem f_X2_42 : FOK RX2 42 2 0 RX2 TX2 11 := ⟨rfl, by decide, inX2, lwg_at 429 (by decide +kernel) rfl⟩
theorem f_X2_46 : FOK RX2 46 2 9 RX2 TX2 11 := ⟨rfl, by decide, inX2, lwg_at 438 (by decide +kernel) rfl⟩
theorem f_X2_62 : FOK RX2 62 5 9 RX5 TX5 11 := ⟨rfl, by decide, inX5, lwg_at 380 (by decide +kernel) rfl⟩
theorem f_X2_67 : FOK RX2 67 2 10 RX2 TX2 11 := ⟨rfl, by decide, inX2, lwg_at 441 (by decide +kernel) rfl⟩
theorem f_X2_92 : FOK RX2 92 6 1 RX6 TX6 2 := ⟨rfl, by decide, inX6, lwg_at 423 (by decide +kernel) rfl⟩
theorem f_X2_117 : FOK RX2 117 5 3 RX5 TX5 11 := ⟨rfl, by decide, inX5, lwg_at 372 (by decide +kernel) rfl⟩
theorem f_X2_121 : FOK RX2 121 4 0 RX4 TX4 9 := ⟨rfl, by decide, inX4, lwg_at 320 (by decide +kernel) rfl⟩
theorem f_X2_126 : FOK RX2 126 5 1 RX5 TX5 11 := ⟨rfl, by decide, inX5, lwg_at 368 (by decide +kernel) rfl⟩
theorem f_X2_130 : FOK RX2 130 9 5 RX9 TX9 12 := ⟨rfl, by decide, inX9, lwg_at 164 (by decide +kernel) rfl⟩
theorem f_X2_135 : FOK RX2 135 5 0 RX5 TX5 11 := ⟨rfl, by decide, inX5, lwg_at 366 (by decide +kernel) rfl⟩
theorem f_X2_144 : FOK RX2 144 4 4 RX4 TX4 9 := ⟨rfl, by decide, inX4, lwg_at 331 (by decide +kernel) rfl⟩
theorem f_X2_147 : FOK RX2 147 7 0 RX7 TX7 4 := ⟨rfl, by decide, inX7, lwg_at 90 (by decide +kernel) rfl⟩
theorem f_X2_153 : FOK RX2 153 5 2 RX5 TX5 11 := ⟨rfl, by decide, inX5, lwg_at 370 (by decide +kernel) rfl⟩
theorem f_X2_157 : FOK RX2 157 10 8 RX10 TX10 9 := ⟨rfl, by decide, inX10, lwg_at 227 (by decide +kernel) rfl⟩
theorem f_X2_160 : FOK RX2 160 10 1 RX10 TX10 9 := ⟨rfl, by decide, inX10, lwg_at 216 (by decide +kernel) rfl⟩
theorem f_X2_163 : FOK RX2 163 10 0 RX10 TX10 9 := ⟨rfl, by decide, inX10, lwg_at 213 (by decide +kernel) rfl⟩
theorem f_X2_169 : FOK RX2 169 4 5 RX4 TX4 9 := ⟨rfl, by decide, inX4, lwg_at 335 (by decide +kernel) rfl⟩
theorem f_X2_180 : FOK RX2 180 9 3 RX9 TX9 12 := ⟨rfl, by decide, inX9, lwg_at 159 (by decide +kernel) rfl⟩
theorem f_X2_186 : FOK RX2 186 4 3 RX4 TX4 9 := ⟨rfl, by decide, inX4, lwg_at 329 (by decide +kernel) rfl⟩
theorem f_X2_189 : FOK RX2 189 4 2 RX4 TX4 9 := ⟨rfl, by decide, inX4, lwg_at 326 (by decide +kernel) rfl⟩
theorem f_X2_202 : FOK RX2 202 9 0 RX9 TX9 12 := ⟨rfl, by decide, inX9, lwg_at 150 (by decide +kernel) rfl⟩
theorem f_X2_205 : FOK RX2 205 4 1 RX4 TX4 9 := ⟨rfl, by decide, inX4, lwg_at 323 (by decide +kernel) rfl⟩
theorem f_X2_208 : FOK RX2 208 10 3 RX10 TX10 9 := ⟨rfl, by decide, inX10, lwg_at 220 (by decide +kernel) rfl⟩
theorem f_X3_9 : FOK RX3 9 3 0 RX3 TX3 3 := ⟨rfl, by decide, inX3, lwg_at 254 (by decide +kernel) rfl⟩
theorem f_X3_15 : FOK RX3 15 3 1 RX3 TX3 3 := ⟨rfl, by decide, inX3, lwg_at 255 (by decide +kernel) rfl⟩
theorem f_X3_25 : FOK RX3 25 3 2 RX3 TX3 3 := ⟨rfl, by decide, inX3, lwg_at 256 (by decide +kernel) rfl⟩
theorem f_X4_9 : FOK RX4 9 4 0 RX4 TX4 9 := ⟨rfl, by decide, inX4, lwg_at 319 (by decide +kernel) rfl⟩
theorem f_X4_15 : FOK RX4 15 4 1 RX4 TX4 9 := ⟨rfl, by decide, inX4, lwg_at 322 (by decide +kernel) rfl⟩
theorem f_X4_18 : FOK RX4 18 4 2 RX4 TX4 9 := ⟨rfl, by decide, inX4, lwg_at 324 (by decide +kernel) rfl⟩
theorem f_X4_21 : FOK RX4 21 4 3 RX4 TX4 9 := ⟨rfl, by decide, inX4, lwg_at 327 (by decide +kernel) rfl⟩
theorem f_X4_24 : FOK RX4 24 4 4 RX4 TX4 9 := ⟨rfl, by decide, inX4, lwg_at 330 (by decide +kernel) rfl⟩
theorem f_X4_27 : FOK RX4 27 4 7 RX4 TX4 9 := ⟨rfl, by decide, inX4, lwg_at 338 (by decide +kernel) rfl⟩
theorem f_X4_31 : FOK RX4 31 4 8 RX4 TX4 9 := ⟨rfl, by decide, inX4, lwg_at 339 (by decide +kernel) rfl⟩
theorem f_X4_35 : FOK RX4 35 4 5 RX4 TX4 9 := ⟨rfl, by decide, inX4, lwg_at 333 (by decide +kernel) rfl⟩
theorem f_X4_39 : FOK RX4 39 4 6 RX4 TX4 9 := ⟨rfl, by decide, inX4, lwg_at 336 (by decide +kernel) rfl⟩
theorem f_X4_42 : FOK RX4 42 9 10 RX9 TX9 12 := ⟨rfl, by decide, inX9, lwg_at 174 (by decide +kernel) rfl⟩
theorem f_X4_48 : FOK RX4 48 1 5 RX1 TX1 6 := ⟨rfl, by decide, inX1, lwg_at 132 (by decide +kernel) rfl⟩
theorem f_X4_65 : FOK RX4 65 9 11 RX9 TX9 12 := ⟨rfl, by decide, inX9, lwg_at 178 (by decide +kernel) rfl⟩
theorem f_X4_66 : FOK RX4 66 9 3 RX9 TX9 12 := ⟨rfl, by decide, inX9, lwg_at 156 (by decide +kernel) rfl⟩
theorem f_X4_80 : FOK RX4 80 9 0 RX9 TX9 12 := ⟨rfl, by decide, inX9, lwg_at 148 (by decide +kernel) rfl⟩
theorem f_X4_83 : FOK RX4 83 9 2 RX9 TX9 12 := ⟨rfl, by decide, inX9, lwg_at 153 (by decide +kernel) rfl⟩
theorem f_X4_91 : FOK RX4 91 9 6 RX9 TX9 12 := ⟨rfl, by decide, inX9, lwg_at 167 (by decide +kernel) rfl⟩
theorem f_X4_94 : FOK RX4 94 9 7 RX9 TX9 12 := ⟨rfl, by decide, inX9, lwg_at 169 (by decide +kernel) rfl⟩
theorem f_X4_97 : FOK RX4 97 1 4 RX1 TX1 6 := ⟨rfl, by decide, inX1, lwg_at 130 (by decide +kernel) rfl⟩
theorem f_X4_98 : FOK RX4 98 1 0 RX1 TX1 6 := ⟨rfl, by decide, inX1, lwg_at 122 (by decide +kernel) rfl⟩
theorem f_X4_99 : FOK RX4 99 1 1 RX1 TX1 6 := ⟨rfl, by decide, inX1, lwg_at 124 (by decide +kernel) rfl⟩
theorem f_X4_100 : FOK RX4 100 1 2 RX1 TX1 6 := ⟨rfl, by decide, inX1, lwg_at 126 (by decide +kernel) rfl⟩
theorem f_X4_103 : FOK RX4 103 1 3 RX1 TX1 6 := ⟨rfl, by decide, inX1, lwg_at 128 (by decide +kernel) rfl⟩
theorem f_X5_9 : FOK RX5 9 5 4 RX5 TX5 11 := ⟨rfl, by decide, inX5, lwg_at 373 (by decide +kernel) rfl⟩
theorem f_X5_15 : FOK RX5 15 5 5 RX5 TX5 11 := ⟨rfl, by decide, inX5, lwg_at 374 (by decide +kernel) rfl⟩
theorem f_X5_18 : FOK RX5 18 5 6 RX5 TX5 11 := ⟨rfl, by decide, inX5, lwg_at 375 (by decide +kernel) rfl⟩
theorem f_X5_21 : FOK RX5 21 5 7 RX5 TX5 11 := ⟨rfl, by decide, inX5, lwg_at 377 (by decide +kernel) rfl⟩
theorem f_X5_24 : FOK RX5 24 5 8 RX5 TX5 11 := ⟨rfl, by decide, inX5, lwg_at 378 (by decide +kernel) rfl⟩
theorem f_X5_27 : FOK RX5 27 5 0 RX5 TX5 11 := ⟨rfl, by decide, inX5, lwg_at 365 (by decide +kernel) rfl⟩
theorem f_X5_31 : FOK RX5 31 5 1 RX5 TX5 11 := ⟨rfl, by decide, inX5, lwg_at 367 (by decide +kernel) rfl⟩
theorem f_X5_35 : FOK RX5 35 5 2 RX5 TX5 11 := ⟨rfl, by decide, inX5, lwg_at 369 (by decide +kernel) rfl⟩
theorem f_X5_39 : FOK RX5 39 5 3 RX5 TX5 11 := ⟨rfl, by decide, inX5, lwg_at 371 (by decide +kernel) rfl⟩
theorem f_X5_43 : FOK RX5 43 5 9 RX5 TX5 11 := ⟨rfl, by decide, inX5, lwg_at 379 (by decide +kernel) rfl⟩
theorem f_X5_47 : FOK RX5 47 5 10 RX5 TX5 11 := ⟨rfl, by decide, inX5, lwg_at 381 (by decide +kernel) rfl⟩
theorem f_X5_61 : FOK RX5 61 4 5 RX4 TX4 9 := ⟨rfl, by decide, inX4, lwg_at 334 (by decide +kernel) rfl⟩
theorem f_X5_74 : FOK RX5 74 7 3 RX7 TX7 4 := ⟨rfl, by decide, inX7, lwg_at 97 (by decide +kernel) rfl⟩
theorem f_X5_86 : FOK RX5 86 10 8 RX10 TX10 9 := ⟨rfl, by decide, inX10, lwg_at 226 (by decide +kernel) rfl⟩
theorem f_X5_89 : FOK RX5 89 10 0 RX10 TX10 9 := ⟨rfl, by decide, inX10, lwg_at 212 (by decide +kernel) rfl⟩
theorem f_X5_96 : FOK RX5 96 4 6 RX4 TX4 9 := ⟨rfl, by decide, inX4, lwg_at 337 (by decide +kernel) rfl⟩
theorem f_X5_99 : FOK RX5 99 10 1 RX10 TX10 9 := ⟨rfl, by decide, inX10, lwg_at 215 (by decide +kernel) rfl⟩
theorem f_X5_117 : FOK RX5 117 7 0 RX7 TX7 4 := ⟨rfl, by decide, inX7, lwg_at 91 (by decide +kernel) rfl⟩
theorem f_X5_120 : FOK RX5 120 4 0 RX4 TX4 9 := ⟨rfl, by decide, inX4, lwg_at 321 (by decide +kernel) rfl⟩
theorem f_X5_123 : FOK RX5 123 9 3 RX9 TX9 12 := ⟨rfl, by decide, inX9, lwg_at 158 (by decide +kernel) rfl⟩
theorem f_X5_134 : FOK RX5 134 4 2 RX4 TX4 9 := ⟨rfl, by decide, inX4, lwg_at 325 (by decide +kernel) rfl⟩
theorem f_X5_140 : FOK RX5 140 9 5 RX9 TX9 12 := ⟨rfl, by decide, inX9, lwg_at 165 (by decide +kernel) rfl⟩
theorem f_X5_143 : FOK RX5 143 4 3 RX4 TX4 9 := ⟨rfl, by decide, inX4, lwg_at 328 (by decide +kernel) rfl⟩
theorem f_X5_146 : FOK RX5 146 7 1 RX7 TX7 4 := ⟨rfl, by decide, inX7, lwg_at 93 (by decide +kernel) rfl⟩
theorem f_X5_152 : FOK RX5 152 7 2 RX7 TX7 4 := ⟨rfl, by decide, inX7, lwg_at 95 (by decide +kernel) rfl⟩
theorem f_X5_155 : FOK RX5 155 4 4 RX4 TX4 9 := ⟨rfl, by decide, inX4, lwg_at 332 (by decide +kernel) rfl⟩
theorem f_X6_13 : FOK RX6 13 6 0 RX6 TX6 2 := ⟨rfl, by decide, inX6, lwg_at 420 (by decide +kernel) rfl⟩
theorem f_X6_19 : FOK RX6 19 6 1 RX6 TX6 2 := ⟨rfl, by decide, inX6, lwg_at 421 (by decide +kernel) rfl⟩
theorem f_X7_9 : FOK RX7 9 7 0 RX7 TX7 4 := ⟨rfl, by decide, inX7, lwg_at 88 (by decide +kernel) rfl⟩
theorem f_X7_15 : FOK RX7 15 7 1 RX7 TX7 4 := ⟨rfl, by decide, inX7, lwg_at 92 (by decide +kernel) rfl⟩
theorem f_X7_18 : FOK RX7 18 7 2 RX7 TX7 4 := ⟨rfl, by decide, inX7, lwg_at 94 (by decide +kernel) rfl⟩
theorem f_X7_21 : FOK RX7 21 7 3 RX7 TX7 4 := ⟨rfl, by decide, inX7, lwg_at 96 (by decide +kernel) rfl⟩
theorem f_X8_9 : FOK RX8 9 8 4 RX8 TX8 13 := ⟨rfl, by decide, inX8, lwg_at 274 (by decide +kernel) rfl⟩
theorem f_X8_15 : FOK RX8 15 8 5 RX8 TX8 13 := ⟨rfl, by decide, inX8, lwg_at 275 (by decide +kernel) rfl⟩
theorem f_X8_18 : FOK RX8 18 8 6 RX8 TX8 13 := ⟨rfl, by decide, inX8, lwg_at 276 (by decide +kernel) rfl⟩
theorem f_X8_22 : FOK RX8 22 8 7 RX8 TX8 13 := ⟨rfl, by decide, inX8, lwg_at 277 (by decide +kernel) rfl⟩
theorem f_X8_25 : FOK RX8 25 8 8 RX8 TX8 13 := ⟨rfl, by decide, inX8, lwg_at 278 (by decide +kernel) rfl⟩
theorem f_X8_28 : FOK RX8 28 8 9 RX8 TX8 13 := ⟨rfl, by decide, inX8, lwg_at 279 (by decide +kernel) rfl⟩
theorem f_X8_31 : FOK RX8 31 8 10 RX8 TX8 13 := ⟨rfl, by decide, inX8, lwg_at 280 (by decide +kernel) rfl⟩
theorem f_X8_34 : FOK RX8 34 8 0 RX8 TX8 13 := ⟨rfl, by decide, inX8, lwg_at 270 (by decide +kernel) rfl⟩
theorem f_X8_38 : FOK RX8 38 8 1 RX8 TX8 13 := ⟨rfl, by decide, inX8, lwg_at 271 (by decide +kernel) rfl⟩
theorem f_X8_42 : FOK RX8 42 8 2 RX8 TX8 13 := ⟨rfl, by decide, inX8, lwg_at 272 (by decide +kernel) rfl⟩
theorem f_X8_46 : FOK RX8 46 8 3 RX8 TX8 13 := ⟨rfl, by decide, inX8, lwg_at 273 (by decide +kernel) rfl⟩
theorem f_X8_50 : FOK RX8 50 8 11 RX8 TX8 13 := ⟨rfl, by decide, inX8, lwg_at 281 (by decide +kernel) rfl⟩
theorem f_X8_58 : FOK RX8 58 2 10 RX2 TX2 11 := ⟨rfl, by decide, inX2, lwg_at 440 (by decide +kernel) rfl⟩
theorem f_X8_74 : FOK RX8 74 8 12 RX8 TX8 13 := ⟨rfl, by decide, inX8, lwg_at 283 (by decide +kernel) rfl⟩
theorem f_X8_95 : FOK RX8 95 7 0 RX7 TX7 4 := ⟨rfl, by decide, inX7, lwg_at 89 (by decide +kernel) rfl⟩
theorem f_X8_100 : FOK RX8 100 9 5 RX9 TX9 12 := ⟨rfl, by decide, inX9, lwg_at 163 (by decide +kernel) rfl⟩
theorem f_X8_112 : FOK RX8 112 9 0 RX9 TX9 12 := ⟨rfl, by decide, inX9, lwg_at 149 (by decide +kernel) rfl⟩
theorem f_X8_131 : FOK RX8 131 9 2 RX9 TX9 12 := ⟨rfl, by decide, inX9, lwg_at 154 (by decide +kernel) rfl⟩
theorem f_X9_9 : FOK RX9 9 9 0 RX9 TX9 12 := ⟨rfl, by decide, inX9, lwg_at 147 (by decide +kernel) rfl⟩
theorem f_X9_15 : FOK RX9 15 9 1 RX9 TX9 12 := ⟨rfl, by decide, inX9, lwg_at 151 (by decide +kernel) rfl⟩
theorem f_X9_18 : FOK RX9 18 9 2 RX9 TX9 12 := ⟨rfl, by decide, inX9, lwg_at 152 (by decide +kernel) rfl⟩
theorem f_X9_21 : FOK RX9 21 9 3 RX9 TX9 12 := ⟨rfl, by decide, inX9, lwg_at 155 (by decide +kernel) rfl⟩
theorem f_X9_24 : FOK RX9 24 9 4 RX9 TX9 12 := ⟨rfl, by decide, inX9, lwg_at 160 (by decide +kernel) rfl⟩
theorem f_X9_27 : FOK RX9 27 9 5 RX9 TX9 12 := ⟨rfl, by decide, inX9, lwg_at 161 (by decide +kernel) rfl⟩
theorem f_X9_30 : FOK RX9 30 9 6 RX9 TX9 12 := ⟨rfl, by decide, inX9, lwg_at 166 (by decide +kernel) rfl⟩
theorem f_X9_33 : FOK RX9 33 9 7 RX9 TX9 12 := ⟨rfl, by decide, inX9, lwg_at 168 (by decide +kernel) rfl⟩
theorem f_X9_36 : FOK RX9 36 9 8 RX9 TX9 12 := ⟨rfl, by decide, inX9, lwg_at 170 (by decide +kernel) rfl⟩
theorem f_X9_39 : FOK RX9 39 9 9 RX9 TX9 12 := ⟨rfl, by decide, inX9, lwg_at 172 (by decide +kernel) rfl⟩
theorem f_X9_45 : FOK RX9 45 9 10 RX9 TX9 12 := ⟨rfl, by decide, inX9, lwg_at 173 (by decide +kernel) rfl⟩
theorem f_X9_49 : FOK RX9 49 9 11 RX9 TX9 12 := ⟨rfl, by decide, inX9, lwg_at 176 (by decide +kernel) rfl⟩
theorem f_X10_9 : FOK RX10 9 10 0 RX10 TX10 9 := ⟨rfl, by decide, inX10, lwg_at 211 (by decide +kernel) rfl⟩
theorem f_X10_15 : FOK RX10 15 10 1 RX10 TX10 9 := ⟨rfl, by decide, inX10, lwg_at 214 (by decide +kernel) rfl⟩
theorem f_X10_18 : FOK RX10 18 10 2 RX10 TX10 9 := ⟨rfl, by decide, inX10, lwg_at 217 (by decide +kernel) rfl⟩
theorem f_X10_21 : FOK RX10 21 10 3 RX10 TX10 9 := ⟨rfl, by decide, inX10, lwg_at 218 (by decide +kernel) rfl⟩
theorem f_X10_24 : FOK RX10 24 10 4 RX10 TX10 9 := ⟨rfl, by decide, inX10, lwg_at 221 (by decide +kernel) rfl⟩
theorem f_X10_27 : FOK RX10 27 10 5 RX10 TX10 9 := ⟨rfl, by decide, inX10, lwg_at 222 (by decide +kernel) rfl⟩
theorem f_X10_30 : FOK RX10 30 10 6 RX10 TX10 9 := ⟨rfl, by decide, inX10, lwg_at 223 (by decide +kernel) rfl⟩
theorem f_X10_33 : FOK RX10 33 10 7 RX10 TX10 9 := ⟨rfl, by decide, inX10, lwg_at 224 (by decide +kernel) rfl⟩
theorem f_X10_36 : FOK RX10 36 10 8 RX10 TX10 9 := ⟨rfl, by decide, inX10, lwg_at 225 (by decide +kernel) rfl⟩
theorem f_X12_7 : FOK RX12 7 12 5 RX12 TX12 60 := ⟨rfl, by decide, inX12, lwg_at 990 (by decide +kernel) rfl⟩
theorem f_X12_13 : FOK RX12 13 12 6 RX12 TX12 60 := ⟨rfl, by decide, inX12, lwg_at 991 (by decide +kernel) rfl⟩
theorem f_X12_16 : FOK RX12 16 12 7 RX12 TX12 60 := ⟨rfl, by decide, inX12, lwg_at 992 (by decide +kernel) rfl⟩
theorem f_X12_19 : FOK RX12 19 12 8 RX12 TX12 60 := ⟨rfl, by decide, inX12, lwg_at 993 (by decide +kernel) rfl⟩
theorem f_X12_22 : FOK RX12 22 12 9 RX12 TX12 60 := ⟨rfl, by decide, inX12, lwg_at 994 (by decide +kernel) rfl⟩
theorem f_X12_25 : FOK RX12 25 12 10 RX12 TX12 60 := ⟨rfl, by decide, inX12, lwg_at 995 (by decide +kernel) rfl⟩
theorem f_X12_28 : FOK RX12 28 12 11 RX12 TX12 60 := ⟨rfl, by decide, inX12, lwg_at 996 (by decide +kernel) rfl⟩
theorem f_X12_31 : FOK RX12 31 12 12 RX12 TX12 60 := ⟨rfl, by decide, inX12, lwg_at 997 (by decide +kernel) rfl⟩
theorem f_X12_34 : FOK RX12 34 12 13 RX12 TX12 60 := ⟨rfl, by decide, inX12, lwg_at 998 (by decide +kernel) rfl⟩
theorem f_X12_37 : FOK RX12 37 12 14 RX12 TX12 60 := ⟨rfl, by decide, inX12, lwg_at 999 (by decide +kernel) rfl⟩
theorem f_X12_40 : FOK RX12 40 12 15 RX12 TX12 60 := ⟨rfl, by decide, inX12, lwg_at 1000 (by decide +kernel) rfl⟩
theorem f_X12_43 : FOK RX12 43 12 16 RX12 TX12 60 := ⟨rfl, by decide, inX12, lwg_at 1001 (by decide +kernel) rfl⟩
theorem f_X12_47 : FOK RX12 47 12 17 RX12 TX12 60 := ⟨rfl, by decide, inX12, lwg_at 1002 (by decide +kernel) rfl⟩
theorem f_X12_50 : FOK RX12 50 12 18 RX12 TX12 60 := ⟨rfl, by decide, inX12, lwg_at 1003 (by decide +kernel) rfl⟩
theorem f_X12_53 : FOK RX12 53 12 19 RX12 TX12 60 := ⟨rfl, by decide, inX12, lwg_at 1004 (by decide +kernel) rfl⟩
theorem f_X12_56 : FOK RX12 56 12 20 RX12 TX12 60 := ⟨rfl, by decide, inX12, lwg_at 1005 (by decide +kernel) rfl⟩
theorem f_X12_59 : FOK RX12 59 12 21 RX12 TX12 60 := ⟨rfl, by decide, inX12, lwg_at 1006 (by decide +kernel) rfl⟩
theorem f_X12_62 : FOK RX12 62 12 22 RX12 TX12 60 := ⟨rfl, by decide, inX12, lwg_at 1007 (by decide +kernel) rfl⟩
theorem f_X12_65 : FOK RX12 65 12 23 RX12 TX12 60 := ⟨rfl, by decide, inX12, lwg_at 1008 (by decide +kernel) rfl⟩
theorem f_X12_68 : FOK RX12 68 12 24 RX12 TX12 60 := ⟨rfl, by decide, inX12, lwg_at 1009 (by decide +kernel) rfl⟩
theorem f_X12_71 : FOK RX12 71 12 25 RX12 TX12 60 := ⟨rfl, by decide, inX12, lwg_at 1010 (by decide +kernel) rfl⟩
theorem f_X12_74 : FOK RX12 74 12 26 RX12 TX12 60 := ⟨rfl, by decide, inX12, lwg_at 1011 (by decide +kernel) rfl⟩
theorem f_X12_77 : FOK RX12 77 12 27 RX12 TX12 60 := ⟨rfl, by decide, inX12, lwg_at 1012 (by decide +kernel) rfl⟩
theorem f_X12_80 : FOK RX12 80 12 28 RX12 TX12 60 := ⟨rfl, by decide, inX12, lwg_at 1013 (by decide +kernel) rfl⟩
theorem f_X12_83 : FOK RX12 83 12 29 RX12 TX12 60 := ⟨rfl, by decide, inX12, lwg_at 1014 (by decide +kernel) rfl⟩
theorem f_X12_86 : FOK RX12 86 12 30 RX12 TX12 60 := ⟨rfl, by decide, inX12, lwg_at 1015 (by decide +kernel) rfl⟩
theorem f_X12_89 : FOK RX12 89 12 34 RX12 TX12 60 := ⟨rfl, by decide, inX12, lwg_at 1019 (by decide +kernel) rfl⟩
theorem f_X12_92 : FOK RX12 92 12 35 RX12 TX12 60 := ⟨rfl, by decide, inX12, lwg_at 1020 (by decide +kernel) rfl⟩
theorem f_X12_95 : FOK RX12 95 12 36 RX12 TX12 60 := ⟨rfl, by decide, inX12, lwg_at 1021 (by decide +kernel) rfl⟩
theorem f_X12_98 : FOK RX12 98 12 37 RX12 TX12 60 := ⟨rfl, by decide, inX12, lwg_at 1022 (by decide +kernel) rfl⟩
theorem f_X12_101 : FOK RX12 101 12 38 RX12 TX12 60 := ⟨rfl, by decide, inX12, lwg_at 1023 (by decide +kernel) rfl⟩
theorem f_X12_104 : FOK RX12 104 12 39 RX12 TX12 60 := ⟨rfl, by decide, inX12, lwg_at 1024 (by decide +kernel) rfl⟩
theorem f_X12_107 : FOK RX12 107 12 42 RX12 TX12 60 := ⟨rfl, by decide, inX12, lwg_at 1027 (by decide +kernel) rfl⟩
theorem f_X12_110 : FOK RX12 110 12 43 RX12 TX12 60 := ⟨rfl, by decide, inX12, lwg_at 1028 (by decide +kernel) rfl⟩
theorem f_X12_113 : FOK RX12 113 12 44 RX12 TX12 60 := ⟨rfl, by decide, inX12, lwg_at 1029 (by decide +kernel) rfl⟩
theorem f_X12_116 : FOK RX12 116 12 45 RX12 TX12 60 := ⟨rfl, by decide, inX12, lwg_at 1030 (by decide +kernel) rfl⟩
theorem f_X12_119 : FOK RX12 119 12 46 RX12 TX12 60 := ⟨rfl, by decide, inX12, lwg_at 1031 (by decide +kernel) rfl⟩
theorem f_X12_122 : FOK RX12 122 12 47 RX12 TX12 60 := ⟨rfl, by decide, inX12, lwg_at 1032 (by decide +kernel) rfl⟩
theorem f_X12_125 : FOK RX12 125 12 48 RX12 TX12 60 := ⟨rfl, by decide, inX12, lwg_at 1033 (by decide +kernel) rfl⟩
theorem f_X12_128 : FOK RX12 128 12 53 RX12 TX12 60 := ⟨rfl, by decide, inX12, lwg_at 1038 (by decide +kernel) rfl⟩
theorem f_X12_131 : FOK RX12 131 12 54 RX12 TX12 60 := ⟨rfl, by decide, inX12, lwg_at 1039 (by decide +kernel) rfl⟩
theorem f_X12_134 : FOK RX12 134 12 55 RX12 TX12 60 := ⟨rfl, by decide, inX12, lwg_at 1040 (by decide +kernel) rfl⟩
theorem f_X12_137 : FOK RX12 137 12 56 RX12 TX12 60 := ⟨rfl, by decide, inX12, lwg_at 1041 (by decide +kernel) rfl⟩
theorem f_X12_140 : FOK RX12 140 12 58 RX12 TX12 60 := ⟨rfl, by decide, inX12, lwg_at 1043 (by decide +kernel) rfl⟩
theorem f_X12_144 : FOK RX12 144 12 59 RX12 TX12 60 := ⟨rfl, by decide, inX12, lwg_at 1044 (by decide +kernel) rfl⟩
theorem f_X12_147 : FOK RX12 147 12 0 RX12 TX12 60 := ⟨rfl, by decide, inX12, lwg_at 985 (by decide +kernel) rfl⟩
theorem f_X12_154 : FOK RX12 154 12 1 RX12 TX12 60 := ⟨rfl, by decide, inX12, lwg_at 986 (by decide +kernel) rfl⟩
theorem f_X12_161 : FOK RX12 161 12 2 RX12 TX12 60 := ⟨rfl, by decide, inX12, lwg_at 987 (by decide +kernel) rfl⟩
theorem f_X12_177 : FOK RX12 177 12 3 RX12 TX12 60 := ⟨rfl, by decide, inX12, lwg_at 988 (by decide +kernel) rfl⟩
theorem f_X12_187 : FOK RX12 187 12 31 RX12 TX12 60 := ⟨rfl, by decide, inX12, lwg_at 1016 (by decide +kernel) rfl⟩
theorem f_X12_190 : FOK RX12 190 12 32 RX12 TX12 60 := ⟨rfl, by decide, inX12, lwg_at 1017 (by decide +kernel) rfl⟩
theorem f_X12_193 : FOK RX12 193 12 33 RX12 TX12 60 := ⟨rfl, by decide, inX12, lwg_at 1018 (by decide +kernel) rfl⟩
theorem f_X12_205 : FOK RX12 205 12 40 RX12 TX12 60 := ⟨rfl, by decide, inX12, lwg_at 1025 (by decide +kernel) rfl⟩
theorem f_X12_233 : FOK RX12 233 12 49 RX12 TX12 60 := ⟨rfl, by decide, inX12, lwg_at 1034 (by decide +kernel) rfl⟩
theorem f_X12_236 : FOK RX12 236 12 50 RX12 TX12 60 := ⟨rfl, by decide, inX12, lwg_at 1035 (by decide +kernel) rfl⟩
theorem f_X12_239 : FOK RX12 239 12 51 RX12 TX12 60 := ⟨rfl, by decide, inX12, lwg_at 1036 (by decide +kernel) rfl⟩
theorem f_X12_242 : FOK RX12 242 12 52 RX12 TX12 60 := ⟨rfl, by decide, inX12, lwg_at 1037 (by decide +kernel) rfl⟩
theorem f_X12_261 : FOK RX12 261 12 41 RX12 TX12 60 := ⟨rfl, by decide, inX12, lwg_at 1026 (by decide +kernel) rfl⟩
theorem f_X12_280 : FOK RX12 280 12 4 RX12 TX12 60 := ⟨rfl, by decide, inX12, lwg_at 989 (by decide +kernel) rfl⟩
theorem f_X12_289 : FOK RX12 289 12 57 RX12 TX12 60 := ⟨rfl, by decide, inX12, lwg_at 1042 (by decide +kernel) rfl⟩
theorem p_X1_4 : POK TX1 6 4 := ⟨tyX1, tyX1_ok, nmX1, rfl, by decide +kernel⟩
theorem p_X1_5 : POK TX1 6 5 := ⟨tyX1, tyX1_ok, nmX1, rfl, by decide +kernel⟩
theorem p_X10_8 : POK TX10 9 8 := ⟨tyX10, tyX10_ok, nmX10, rfl, by decide +kernel⟩
theorem p_X11_10 : POK TX11 11 10 := ⟨tyX11, tyX11_ok, nmX11, rfl, by decide +kernel⟩
theorem p_X12_0 : POK TX12 60 0 := ⟨tyX12, tyX12_ok, nmX12, rfl, by decide +kernel⟩
theorem p_X12_1 : POK TX12 60 1 := ⟨tyX12, tyX12_ok, nmX12, rfl, by decide +kernel⟩
theorem p_X12_2 : POK TX12 60 2 := ⟨tyX12, tyX12_ok, nmX12, rfl, by decide +kernel⟩
theorem p_X12_3 : POK TX12 60 3 := ⟨tyX12, tyX12_ok, nmX12, rfl, by decide +kernel⟩
theorem p_X12_4 : POK TX12 60 4 := ⟨tyX12, tyX12_ok, nmX12, rfl, by decide +kernel⟩
theorem p_X12_31 : POK TX12 60 31 := ⟨tyX12, tyX12_ok, nmX12, rfl, by decide +kernel⟩
theorem p_X12_32 : POK TX12 60 32 := ⟨tyX12, tyX12_ok, nmX12, rfl, by decide +kernel⟩
theorem p_X12_33 : POK TX12 60 33 := ⟨tyX12, tyX12_ok, nmX12, rfl, by decide +kernel⟩
theorem p_X12_40 : POK TX12 60 40 := ⟨tyX12, tyX12_ok, nmX12, rfl, by decide +kernel⟩
theorem p_X12_41 : POK TX12 60 41 := ⟨tyX12, tyX12_ok, nmX12, rfl, by decide +kernel⟩
theorem p_X12_49 : POK TX12 60 49 := ⟨tyX12, tyX12_ok, nmX12, rfl, by decide +kernel⟩
theorem p_X12_50 : POK TX12 60 50 := ⟨tyX12, tyX12_ok, nmX12, rfl, by decide +kernel⟩
theorem p_X12_51 : POK TX12 60 51 := ⟨tyX12, tyX12_ok, nmX12, rfl, by decide +kernel⟩
theorem p_X12_52 : POK TX12 60 52 := ⟨tyX12, tyX12_ok, nmX12, rfl, by decide +kernel⟩
theorem p_X12_57 : POK TX12 60 57 := ⟨tyX12, tyX12_ok, nmX12, rfl, by decide +kernel⟩
theorem p_X12_58 : POK TX12 60 58 := ⟨tyX12, tyX12_ok, nmX12, rfl, by decide +kernel⟩
theorem p_X2_9 : POK TX2 11 9 := ⟨tyX2, tyX2_ok, nmX2, rfl, by decide +kernel⟩
theorem p_X2_10 : POK TX2 11 10 := ⟨tyX2, tyX2_ok, nmX2, rfl, by decide +kernel⟩
theorem p_X3_2 : POK TX3 3 2 := ⟨tyX3, tyX3_ok, nmX3, rfl, by decide +kernel⟩
theorem p_X4_5 : POK TX4 9 5 := ⟨tyX4, tyX4_ok, nmX4, rfl, by decide +kernel⟩
theorem p_X4_6 : POK TX4 9 6 := ⟨tyX4, tyX4_ok, nmX4, rfl, by decide +kernel⟩
theorem p_X5_9 : POK TX5 11 9 := ⟨tyX5, tyX5_ok, nmX5, rfl, by decide +kernel⟩
theorem p_X5_10 : POK TX5 11 10 := ⟨tyX5, tyX5_ok, nmX5, rfl, by decide +kernel⟩
theorem p_X6_1 : POK TX6 2 1 := ⟨tyX6, tyX6_ok, nmX6, rfl, by decide +kernel⟩
theorem p_X7_3 : POK TX7 4 3 := ⟨tyX7, tyX7_ok, nmX7, rfl, by decide +kernel⟩
theorem p_X8_11 : POK TX8 13 11 := ⟨tyX8, tyX8_ok, nmX8, rfl, by decide +kernel⟩
theorem p_X8_12 : POK TX8 13 12 := ⟨tyX8, tyX8_ok, nmX8, rfl, by decide +kernel⟩
theorem p_X9_11 : POK TX9 12 11 := ⟨tyX9, tyX9_ok, nmX9, rfl, by decide +kernel⟩
theorem k_X11_210 : Cond.constant RX11 210 1000000000 ∈ lwg := lwg_at 934 (by decide +kernel) rfl
theorem k_X2_71 : Cond.constant RX2 71 1000000000 ∈ lwg := lwg_at 733 (by decide +kernel) rfl
theorem k_X5_50 : Cond.constant RX5 50 1000000000 ∈ lwg := lwg_at 675 (by decide +kernel) rfl
theorem k_X10_44 : Cond.constant RX10 44 1000000000 ∈ lwg := lwg_at 695 (by decide +kernel) rfl
theorem k_X12_208 : Cond.constant RX12 208 1000000000 ∈ lwg := lwg_at 1260 (by decide +kernel) rfl
theorem wc_X11 : Cond.initialized RX11 ∈ lwg := lwg_at 59 (by decide +kernel) rfl
theorem wc_X0 : Cond.initialized RX0 ∈ lwg := lwg_at 71 (by decide +kernel) rfl
theorem wc_X1 : Cond.initialized RX1 ∈ lwg := lwg_at 62 (by decide +kernel) rfl
theorem wc_X2 : Cond.initialized RX2 ∈ lwg := lwg_at 68 (by decide +kernel) rfl
theorem wc_X3 : Cond.initialized RX3 ∈ lwg := lwg_at 64 (by decide +kernel) rfl
theorem wc_X4 : Cond.initialized RX4 ∈ lwg := lwg_at 66 (by decide +kernel) rfl
theorem wc_X5 : Cond.initialized RX5 ∈ lwg := lwg_at 67 (by decide +kernel) rfl
theorem wc_X6 : Cond.initialized RX6 ∈ lwg := lwg_at 69 (by decide +kernel) rfl
theorem wc_X7 : Cond.initialized RX7 ∈ lwg := lwg_at 60 (by decide +kernel) rfl
theorem wc_X8 : Cond.initialized RX8 ∈ lwg := lwg_at 65 (by decide +kernel) rfl
theorem wc_X9 : Cond.initialized RX9 ∈ lwg := lwg_at 61 (by decide +kernel) rfl
theorem wc_X10 : Cond.initialized RX10 ∈ lwg := lwg_at 63 (by decide +kernel) rfl
theorem wc_X12 : Cond.initialized RX12 ∈ lwg := lwg_at 72 (by decide +kernel) rfl
theorem wc_J9 : Cond.initialized RJ9 ∈ lwg := lwg_at 70 (by decide +kernel) rfl
theorem wc_J7 : Cond.initialized RJ7 ∈ lwg := lwg_at 73 (by decide +kernel) rfl
theorem cw_J7_fill_53178 : cwO mJ7_fill_53178 ∈ lwg := lwg_at 678 (by decide +kernel) rfl
theorem nd_J7_fill_53178 : yJ7_fill_53178.cls ≠ "java/lang/invoke/MethodHandle" ∧ yJ7_fill_53178.cls ≠ "java/lang/invoke/VarHandle" ∧ (parseMethodDescriptor yJ7_fill_53178.desc).map (fun d => d.parameters.length) = some 2 := by decide +kernel
theorem pf_J7_fill_53178 : plainFor yJ7_fill_53178 = true := plainFor_of_name (by decide)
theorem wt_J7_fill_53178 : Cond.static yJ7_fill_53178 ∈ lwg := lwg_at 677 (by decide +kernel) rfl
theorem cw_J9_floorDiv_7cf53 : cwO mJ9_floorDiv_7cf53 ∈ lwg := lwg_at 641 (by decide +kernel) rfl
theorem nd_J9_floorDiv_7cf53 : yJ9_floorDiv_7cf53.cls ≠ "java/lang/invoke/MethodHandle" ∧ yJ9_floorDiv_7cf53.cls ≠ "java/lang/invoke/VarHandle" ∧ (parseMethodDescriptor yJ9_floorDiv_7cf53.desc).map (fun d => d.parameters.length) = some 2 := by decide +kernel
theorem pf_J9_floorDiv_7cf53 : plainFor yJ9_floorDiv_7cf53 = true := by decide +kernel
theorem wt_J9_floorDiv_7cf53 : Cond.static yJ9_floorDiv_7cf53 ∈ lwg := lwg_at 640 (by decide +kernel) rfl
theorem cw_X0_gather : cwO mX0_gather ∈ lwg := lwg_at 959 (by decide +kernel) rfl
theorem nd_X0_gather : yX0_gather.cls ≠ "java/lang/invoke/MethodHandle" ∧ yX0_gather.cls ≠ "java/lang/invoke/VarHandle" ∧ (parseMethodDescriptor yX0_gather.desc).map (fun d => d.parameters.length) = some 2 := by decide +kernel
theorem pf_X0_gather : plainFor yX0_gather = true := plainFor_of_name (by decide)
theorem wi_X0_gather : Cond.instanceMethod yX0_gather ∈ lwg := lwg_at 957 (by decide +kernel) rfl
theorem ws_X0_gather : Cond.selects RX0 yX0_gather yX0_gather ∈ lwg := lwg_at 958 (by decide +kernel) rfl
theorem cw_X0_gatherTrip : cwO mX0_gatherTrip ∈ lwg := lwg_at 965 (by decide +kernel) rfl
theorem nd_X0_gatherTrip : yX0_gatherTrip.cls ≠ "java/lang/invoke/MethodHandle" ∧ yX0_gatherTrip.cls ≠ "java/lang/invoke/VarHandle" ∧ (parseMethodDescriptor yX0_gatherTrip.desc).map (fun d => d.parameters.length) = some 3 := by decide +kernel
theorem pf_X0_gatherTrip : plainFor yX0_gatherTrip = true := plainFor_of_name (by decide)
theorem wi_X0_gatherTrip : Cond.instanceMethod yX0_gatherTrip ∈ lwg := lwg_at 964 (by decide +kernel) rfl
theorem ws_X0_gatherTrip : Cond.selects RX0 yX0_gatherTrip yX0_gatherTrip ∈ lwg := lwg_at 28 (by decide +kernel) rfl
theorem cw_X0_of : cwO mX0_of ∈ lwg := lwg_at 972 (by decide +kernel) rfl
theorem nd_X0_of : yX0_of.cls ≠ "java/lang/invoke/MethodHandle" ∧ yX0_of.cls ≠ "java/lang/invoke/VarHandle" ∧ (parseMethodDescriptor yX0_of.desc).map (fun d => d.parameters.length) = some 3 := by decide +kernel
theorem pf_X0_of : plainFor yX0_of = true := plainFor_of_name (by decide)
theorem wi_X0_of : Cond.instanceMethod yX0_of ∈ lwg := lwg_at 970 (by decide +kernel) rfl
theorem ws_X0_of : Cond.selects RX0 yX0_of yX0_of ∈ lwg := lwg_at 971 (by decide +kernel) rfl
theorem cw_X10_add : cwO mX10_add ∈ lwg := lwg_at 587 (by decide +kernel) rfl
theorem nd_X10_add : yX10_add.cls ≠ "java/lang/invoke/MethodHandle" ∧ yX10_add.cls ≠ "java/lang/invoke/VarHandle" ∧ (parseMethodDescriptor yX10_add.desc).map (fun d => d.parameters.length) = some 3 := by decide +kernel
theorem pf_X10_add : plainFor yX10_add = true := plainFor_of_name (by decide)
theorem wi_X10_add : Cond.instanceMethod yX10_add ∈ lwg := lwg_at 585 (by decide +kernel) rfl
theorem ws_X10_add : Cond.selects RX10 yX10_add yX10_add ∈ lwg := lwg_at 586 (by decide +kernel) rfl
theorem cw_X10_beginsAt : cwO mX10_beginsAt ∈ lwg := lwg_at 699 (by decide +kernel) rfl
theorem nd_X10_beginsAt : yX10_beginsAt.cls ≠ "java/lang/invoke/MethodHandle" ∧ yX10_beginsAt.cls ≠ "java/lang/invoke/VarHandle" ∧ (parseMethodDescriptor yX10_beginsAt.desc).map (fun d => d.parameters.length) = some 3 := by decide +kernel
theorem pf_X10_beginsAt : plainFor yX10_beginsAt = true := plainFor_of_name (by decide)
theorem wi_X10_beginsAt : Cond.instanceMethod yX10_beginsAt ∈ lwg := lwg_at 697 (by decide +kernel) rfl
theorem ws_X10_beginsAt : Cond.selects RX10 yX10_beginsAt yX10_beginsAt ∈ lwg := lwg_at 698 (by decide +kernel) rfl
theorem cw_X10_endsAt : cwO mX10_endsAt ∈ lwg := lwg_at 694 (by decide +kernel) rfl
theorem nd_X10_endsAt : yX10_endsAt.cls ≠ "java/lang/invoke/MethodHandle" ∧ yX10_endsAt.cls ≠ "java/lang/invoke/VarHandle" ∧ (parseMethodDescriptor yX10_endsAt.desc).map (fun d => d.parameters.length) = some 3 := by decide +kernel
theorem pf_X10_endsAt : plainFor yX10_endsAt = true := plainFor_of_name (by decide)
theorem wi_X10_endsAt : Cond.instanceMethod yX10_endsAt ∈ lwg := lwg_at 692 (by decide +kernel) rfl
theorem ws_X10_endsAt : Cond.selects RX10 yX10_endsAt yX10_endsAt ∈ lwg := lwg_at 693 (by decide +kernel) rfl
theorem cw_X10_has : cwO mX10_has ∈ lwg := lwg_at 595 (by decide +kernel) rfl
theorem nd_X10_has : yX10_has.cls ≠ "java/lang/invoke/MethodHandle" ∧ yX10_has.cls ≠ "java/lang/invoke/VarHandle" ∧ (parseMethodDescriptor yX10_has.desc).map (fun d => d.parameters.length) = some 1 := by decide +kernel
theorem pf_X10_has : plainFor yX10_has = true := plainFor_of_name (by decide)
theorem wi_X10_has : Cond.instanceMethod yX10_has ∈ lwg := lwg_at 593 (by decide +kernel) rfl
theorem ws_X10_has : Cond.selects RX10 yX10_has yX10_has ∈ lwg := lwg_at 594 (by decide +kernel) rfl
theorem cw_X10_makeAsked : cwO mX10_makeAsked ∈ lwg := lwg_at 610 (by decide +kernel) rfl
theorem nd_X10_makeAsked : yX10_makeAsked.cls ≠ "java/lang/invoke/MethodHandle" ∧ yX10_makeAsked.cls ≠ "java/lang/invoke/VarHandle" ∧ (parseMethodDescriptor yX10_makeAsked.desc).map (fun d => d.parameters.length) = some 2 := by decide +kernel
theorem pf_X10_makeAsked : plainFor yX10_makeAsked = true := plainFor_of_name (by decide)
theorem wi_X10_makeAsked : Cond.instanceMethod yX10_makeAsked ∈ lwg := lwg_at 608 (by decide +kernel) rfl
theorem ws_X10_makeAsked : Cond.selects RX10 yX10_makeAsked yX10_makeAsked ∈ lwg := lwg_at 609 (by decide +kernel) rfl
theorem cw_X10_makeShuttle : cwO mX10_makeShuttle ∈ lwg := lwg_at 602 (by decide +kernel) rfl
theorem nd_X10_makeShuttle : yX10_makeShuttle.cls ≠ "java/lang/invoke/MethodHandle" ∧ yX10_makeShuttle.cls ≠ "java/lang/invoke/VarHandle" ∧ (parseMethodDescriptor yX10_makeShuttle.desc).map (fun d => d.parameters.length) = some 4 := by decide +kernel
theorem pf_X10_makeShuttle : plainFor yX10_makeShuttle = true := plainFor_of_name (by decide)
theorem wi_X10_makeShuttle : Cond.instanceMethod yX10_makeShuttle ∈ lwg := lwg_at 600 (by decide +kernel) rfl
theorem ws_X10_makeShuttle : Cond.selects RX10 yX10_makeShuttle yX10_makeShuttle ∈ lwg := lwg_at 601 (by decide +kernel) rfl
theorem cw_X10_nextBeginning : cwO mX10_nextBeginning ∈ lwg := lwg_at 703 (by decide +kernel) rfl
theorem nd_X10_nextBeginning : yX10_nextBeginning.cls ≠ "java/lang/invoke/MethodHandle" ∧ yX10_nextBeginning.cls ≠ "java/lang/invoke/VarHandle" ∧ (parseMethodDescriptor yX10_nextBeginning.desc).map (fun d => d.parameters.length) = some 2 := by decide +kernel
theorem pf_X10_nextBeginning : plainFor yX10_nextBeginning = true := plainFor_of_name (by decide)
theorem wi_X10_nextBeginning : Cond.instanceMethod yX10_nextBeginning ∈ lwg := lwg_at 702 (by decide +kernel) rfl
theorem ws_X10_nextBeginning : Cond.selects RX10 yX10_nextBeginning yX10_nextBeginning ∈ lwg := lwg_at 5 (by decide +kernel) rfl
theorem cw_X11_asked : cwO mX11_asked ∈ lwg := lwg_at 606 (by decide +kernel) rfl
theorem nd_X11_asked : yX11_asked.cls ≠ "java/lang/invoke/MethodHandle" ∧ yX11_asked.cls ≠ "java/lang/invoke/VarHandle" ∧ (parseMethodDescriptor yX11_asked.desc).map (fun d => d.parameters.length) = some 2 := by decide +kernel
theorem pf_X11_asked : plainFor yX11_asked = true := plainFor_of_name (by decide)
theorem wi_X11_asked : Cond.instanceMethod yX11_asked ∈ lwg := lwg_at 604 (by decide +kernel) rfl
theorem ws_X11_asked : Cond.selects RX11 yX11_asked yX11_asked ∈ lwg := lwg_at 605 (by decide +kernel) rfl
theorem cw_X11_between : cwO mX11_between ∈ lwg := lwg_at 520 (by decide +kernel) rfl
theorem nd_X11_between : yX11_between.cls ≠ "java/lang/invoke/MethodHandle" ∧ yX11_between.cls ≠ "java/lang/invoke/VarHandle" ∧ (parseMethodDescriptor yX11_between.desc).map (fun d => d.parameters.length) = some 3 := by decide +kernel
theorem pf_X11_between : plainFor yX11_between = true := plainFor_of_name (by decide)
theorem wt_X11_between : Cond.static yX11_between ∈ lwg := lwg_at 519 (by decide +kernel) rfl
theorem cw_X11_call : cwO mX11_call ∈ lwg := lwg_at 554 (by decide +kernel) rfl
theorem nd_X11_call : yX11_call.cls ≠ "java/lang/invoke/MethodHandle" ∧ yX11_call.cls ≠ "java/lang/invoke/VarHandle" ∧ (parseMethodDescriptor yX11_call.desc).map (fun d => d.parameters.length) = some 4 := by decide +kernel
theorem pf_X11_call : plainFor yX11_call = true := plainFor_of_name (by decide)
theorem wi_X11_call : Cond.instanceMethod yX11_call ∈ lwg := lwg_at 552 (by decide +kernel) rfl
theorem ws_X11_call : Cond.selects RX11 yX11_call yX11_call ∈ lwg := lwg_at 553 (by decide +kernel) rfl
theorem cw_X11_comes : cwO mX11_comes ∈ lwg := lwg_at 918 (by decide +kernel) rfl
theorem nd_X11_comes : yX11_comes.cls ≠ "java/lang/invoke/MethodHandle" ∧ yX11_comes.cls ≠ "java/lang/invoke/VarHandle" ∧ (parseMethodDescriptor yX11_comes.desc).map (fun d => d.parameters.length) = some 1 := by decide +kernel
theorem pf_X11_comes : plainFor yX11_comes = true := plainFor_of_name (by decide)
theorem wi_X11_comes : Cond.instanceMethod yX11_comes ∈ lwg := lwg_at 916 (by decide +kernel) rfl
theorem ws_X11_comes : Cond.selects RX11 yX11_comes yX11_comes ∈ lwg := lwg_at 917 (by decide +kernel) rfl
theorem cw_X11_count : cwO mX11_count ∈ lwg := lwg_at 978 (by decide +kernel) rfl
theorem nd_X11_count : yX11_count.cls ≠ "java/lang/invoke/MethodHandle" ∧ yX11_count.cls ≠ "java/lang/invoke/VarHandle" ∧ (parseMethodDescriptor yX11_count.desc).map (fun d => d.parameters.length) = some 1 := by decide +kernel
theorem pf_X11_count : plainFor yX11_count = true := plainFor_of_name (by decide)
theorem wi_X11_count : Cond.instanceMethod yX11_count ∈ lwg := lwg_at 976 (by decide +kernel) rfl
theorem ws_X11_count : Cond.selects RX11 yX11_count yX11_count ∈ lwg := lwg_at 977 (by decide +kernel) rfl
theorem cw_X11_day : cwO mX11_day ∈ lwg := lwg_at 539 (by decide +kernel) rfl
theorem nd_X11_day : yX11_day.cls ≠ "java/lang/invoke/MethodHandle" ∧ yX11_day.cls ≠ "java/lang/invoke/VarHandle" ∧ (parseMethodDescriptor yX11_day.desc).map (fun d => d.parameters.length) = some 2 := by decide +kernel
theorem pf_X11_day : plainFor yX11_day = true := plainFor_of_name (by decide)
theorem wi_X11_day : Cond.instanceMethod yX11_day ∈ lwg := lwg_at 537 (by decide +kernel) rfl
theorem ws_X11_day : Cond.selects RX11 yX11_day yX11_day ∈ lwg := lwg_at 538 (by decide +kernel) rfl
theorem cw_X11_fare : cwO mX11_fare ∈ lwg := lwg_at 531 (by decide +kernel) rfl
theorem nd_X11_fare : yX11_fare.cls ≠ "java/lang/invoke/MethodHandle" ∧ yX11_fare.cls ≠ "java/lang/invoke/VarHandle" ∧ (parseMethodDescriptor yX11_fare.desc).map (fun d => d.parameters.length) = some 3 := by decide +kernel
theorem pf_X11_fare : plainFor yX11_fare = true := plainFor_of_name (by decide)
theorem wi_X11_fare : Cond.instanceMethod yX11_fare ∈ lwg := lwg_at 529 (by decide +kernel) rfl
theorem ws_X11_fare : Cond.selects RX11 yX11_fare yX11_fare ∈ lwg := lwg_at 530 (by decide +kernel) rfl
theorem cw_X11_gather : cwO mX11_gather ∈ lwg := lwg_at 946 (by decide +kernel) rfl
theorem nd_X11_gather : yX11_gather.cls ≠ "java/lang/invoke/MethodHandle" ∧ yX11_gather.cls ≠ "java/lang/invoke/VarHandle" ∧ (parseMethodDescriptor yX11_gather.desc).map (fun d => d.parameters.length) = some 3 := by decide +kernel
theorem pf_X11_gather : plainFor yX11_gather = true := plainFor_of_name (by decide)
theorem wi_X11_gather : Cond.instanceMethod yX11_gather ∈ lwg := lwg_at 945 (by decide +kernel) rfl
theorem ws_X11_gather : Cond.selects RX11 yX11_gather yX11_gather ∈ lwg := lwg_at 27 (by decide +kernel) rfl
theorem cw_X11_give : cwO mX11_give ∈ lwg := lwg_at 878 (by decide +kernel) rfl
theorem nd_X11_give : yX11_give.cls ≠ "java/lang/invoke/MethodHandle" ∧ yX11_give.cls ≠ "java/lang/invoke/VarHandle" ∧ (parseMethodDescriptor yX11_give.desc).map (fun d => d.parameters.length) = some 1 := by decide +kernel
theorem pf_X11_give : plainFor yX11_give = true := plainFor_of_name (by decide)
theorem wi_X11_give : Cond.instanceMethod yX11_give ∈ lwg := lwg_at 876 (by decide +kernel) rfl
theorem ws_X11_give : Cond.selects RX11 yX11_give yX11_give ∈ lwg := lwg_at 877 (by decide +kernel) rfl
theorem cw_X11_gone : cwO mX11_gone ∈ lwg := lwg_at 626 (by decide +kernel) rfl
theorem nd_X11_gone : yX11_gone.cls ≠ "java/lang/invoke/MethodHandle" ∧ yX11_gone.cls ≠ "java/lang/invoke/VarHandle" ∧ (parseMethodDescriptor yX11_gone.desc).map (fun d => d.parameters.length) = some 3 := by decide +kernel
theorem pf_X11_gone : plainFor yX11_gone = true := plainFor_of_name (by decide)
theorem wi_X11_gone : Cond.instanceMethod yX11_gone ∈ lwg := lwg_at 624 (by decide +kernel) rfl
theorem ws_X11_gone : Cond.selects RX11 yX11_gone yX11_gone ∈ lwg := lwg_at 625 (by decide +kernel) rfl
theorem cw_X11_isDay : cwO mX11_isDay ∈ lwg := lwg_at 542 (by decide +kernel) rfl
theorem nd_X11_isDay : yX11_isDay.cls ≠ "java/lang/invoke/MethodHandle" ∧ yX11_isDay.cls ≠ "java/lang/invoke/VarHandle" ∧ (parseMethodDescriptor yX11_isDay.desc).map (fun d => d.parameters.length) = some 1 := by decide +kernel
theorem pf_X11_isDay : plainFor yX11_isDay = true := plainFor_of_name (by decide)
theorem wt_X11_isDay : Cond.static yX11_isDay ∈ lwg := lwg_at 541 (by decide +kernel) rfl
theorem cw_X11_isMinute : cwO mX11_isMinute ∈ lwg := lwg_at 598 (by decide +kernel) rfl
theorem nd_X11_isMinute : yX11_isMinute.cls ≠ "java/lang/invoke/MethodHandle" ∧ yX11_isMinute.cls ≠ "java/lang/invoke/VarHandle" ∧ (parseMethodDescriptor yX11_isMinute.desc).map (fun d => d.parameters.length) = some 1 := by decide +kernel
theorem pf_X11_isMinute : plainFor yX11_isMinute = true := plainFor_of_name (by decide)
theorem wt_X11_isMinute : Cond.static yX11_isMinute ∈ lwg := lwg_at 597 (by decide +kernel) rfl
theorem cw_X11_isZone : cwO mX11_isZone ∈ lwg := lwg_at 523 (by decide +kernel) rfl
theorem nd_X11_isZone : yX11_isZone.cls ≠ "java/lang/invoke/MethodHandle" ∧ yX11_isZone.cls ≠ "java/lang/invoke/VarHandle" ∧ (parseMethodDescriptor yX11_isZone.desc).map (fun d => d.parameters.length) = some 1 := by decide +kernel
theorem pf_X11_isZone : plainFor yX11_isZone = true := plainFor_of_name (by decide)
theorem wt_X11_isZone : Cond.static yX11_isZone ∈ lwg := lwg_at 522 (by decide +kernel) rfl
theorem cw_X11_late : cwO mX11_late ∈ lwg := lwg_at 614 (by decide +kernel) rfl
theorem nd_X11_late : yX11_late.cls ≠ "java/lang/invoke/MethodHandle" ∧ yX11_late.cls ≠ "java/lang/invoke/VarHandle" ∧ (parseMethodDescriptor yX11_late.desc).map (fun d => d.parameters.length) = some 4 := by decide +kernel
theorem pf_X11_late : plainFor yX11_late = true := plainFor_of_name (by decide)
theorem wi_X11_late : Cond.instanceMethod yX11_late ∈ lwg := lwg_at 612 (by decide +kernel) rfl
theorem ws_X11_late : Cond.selects RX11 yX11_late yX11_late ∈ lwg := lwg_at 613 (by decide +kernel) rfl
theorem cw_X11_latest : cwO mX11_latest ∈ lwg := lwg_at 928 (by decide +kernel) rfl
theorem nd_X11_latest : yX11_latest.cls ≠ "java/lang/invoke/MethodHandle" ∧ yX11_latest.cls ≠ "java/lang/invoke/VarHandle" ∧ (parseMethodDescriptor yX11_latest.desc).map (fun d => d.parameters.length) = some 4 := by decide +kernel
theorem pf_X11_latest : plainFor yX11_latest = true := plainFor_of_name (by decide)
theorem wi_X11_latest : Cond.instanceMethod yX11_latest ∈ lwg := lwg_at 926 (by decide +kernel) rfl
theorem ws_X11_latest : Cond.selects RX11 yX11_latest yX11_latest ∈ lwg := lwg_at 927 (by decide +kernel) rfl
theorem cw_X11_leg : cwO mX11_leg ∈ lwg := lwg_at 829 (by decide +kernel) rfl
theorem nd_X11_leg : yX11_leg.cls ≠ "java/lang/invoke/MethodHandle" ∧ yX11_leg.cls ≠ "java/lang/invoke/VarHandle" ∧ (parseMethodDescriptor yX11_leg.desc).map (fun d => d.parameters.length) = some 3 := by decide +kernel
theorem pf_X11_leg : plainFor yX11_leg = true := plainFor_of_name (by decide)
theorem wi_X11_leg : Cond.instanceMethod yX11_leg ∈ lwg := lwg_at 827 (by decide +kernel) rfl
theorem ws_X11_leg : Cond.selects RX11 yX11_leg yX11_leg ∈ lwg := lwg_at 828 (by decide +kernel) rfl
theorem cw_X11_meet : cwO mX11_meet ∈ lwg := lwg_at 942 (by decide +kernel) rfl
theorem nd_X11_meet : yX11_meet.cls ≠ "java/lang/invoke/MethodHandle" ∧ yX11_meet.cls ≠ "java/lang/invoke/VarHandle" ∧ (parseMethodDescriptor yX11_meet.desc).map (fun d => d.parameters.length) = some 3 := by decide +kernel
theorem pf_X11_meet : plainFor yX11_meet = true := plainFor_of_name (by decide)
theorem wi_X11_meet : Cond.instanceMethod yX11_meet ∈ lwg := lwg_at 940 (by decide +kernel) rfl
theorem ws_X11_meet : Cond.selects RX11 yX11_meet yX11_meet ∈ lwg := lwg_at 941 (by decide +kernel) rfl
theorem cw_X11_met : cwO mX11_met ∈ lwg := lwg_at 951 (by decide +kernel) rfl
theorem nd_X11_met : yX11_met.cls ≠ "java/lang/invoke/MethodHandle" ∧ yX11_met.cls ≠ "java/lang/invoke/VarHandle" ∧ (parseMethodDescriptor yX11_met.desc).map (fun d => d.parameters.length) = some 0 := by decide +kernel
theorem pf_X11_met : plainFor yX11_met = true := plainFor_of_name (by decide)
theorem wi_X11_met : Cond.instanceMethod yX11_met ∈ lwg := lwg_at 949 (by decide +kernel) rfl
theorem ws_X11_met : Cond.selects RX11 yX11_met yX11_met ∈ lwg := lwg_at 950 (by decide +kernel) rfl
theorem cw_X11_miss : cwO mX11_miss ∈ lwg := lwg_at 570 (by decide +kernel) rfl
theorem nd_X11_miss : yX11_miss.cls ≠ "java/lang/invoke/MethodHandle" ∧ yX11_miss.cls ≠ "java/lang/invoke/VarHandle" ∧ (parseMethodDescriptor yX11_miss.desc).map (fun d => d.parameters.length) = some 3 := by decide +kernel
theorem pf_X11_miss : plainFor yX11_miss = true := plainFor_of_name (by decide)
theorem wi_X11_miss : Cond.instanceMethod yX11_miss ∈ lwg := lwg_at 568 (by decide +kernel) rfl
theorem ws_X11_miss : Cond.selects RX11 yX11_miss yX11_miss ∈ lwg := lwg_at 569 (by decide +kernel) rfl
theorem cw_X11_reach : cwO mX11_reach ∈ lwg := lwg_at 938 (by decide +kernel) rfl
theorem nd_X11_reach : yX11_reach.cls ≠ "java/lang/invoke/MethodHandle" ∧ yX11_reach.cls ≠ "java/lang/invoke/VarHandle" ∧ (parseMethodDescriptor yX11_reach.desc).map (fun d => d.parameters.length) = some 4 := by decide +kernel
theorem pf_X11_reach : plainFor yX11_reach = true := plainFor_of_name (by decide)
theorem wi_X11_reach : Cond.instanceMethod yX11_reach ∈ lwg := lwg_at 936 (by decide +kernel) rfl
theorem ws_X11_reach : Cond.selects RX11 yX11_reach yX11_reach ∈ lwg := lwg_at 937 (by decide +kernel) rfl
theorem cw_X11_shuttle : cwO mX11_shuttle ∈ lwg := lwg_at 591 (by decide +kernel) rfl
theorem nd_X11_shuttle : yX11_shuttle.cls ≠ "java/lang/invoke/MethodHandle" ∧ yX11_shuttle.cls ≠ "java/lang/invoke/VarHandle" ∧ (parseMethodDescriptor yX11_shuttle.desc).map (fun d => d.parameters.length) = some 4 := by decide +kernel
theorem pf_X11_shuttle : plainFor yX11_shuttle = true := plainFor_of_name (by decide)
theorem wi_X11_shuttle : Cond.instanceMethod yX11_shuttle ∈ lwg := lwg_at 589 (by decide +kernel) rfl
theorem ws_X11_shuttle : Cond.selects RX11 yX11_shuttle yX11_shuttle ∈ lwg := lwg_at 590 (by decide +kernel) rfl
theorem cw_X11_still : cwO mX11_still ∈ lwg := lwg_at 890 (by decide +kernel) rfl
theorem nd_X11_still : yX11_still.cls ≠ "java/lang/invoke/MethodHandle" ∧ yX11_still.cls ≠ "java/lang/invoke/VarHandle" ∧ (parseMethodDescriptor yX11_still.desc).map (fun d => d.parameters.length) = some 1 := by decide +kernel
theorem pf_X11_still : plainFor yX11_still = true := plainFor_of_name (by decide)
theorem wi_X11_still : Cond.instanceMethod yX11_still ∈ lwg := lwg_at 888 (by decide +kernel) rfl
theorem ws_X11_still : Cond.selects RX11 yX11_still yX11_still ∈ lwg := lwg_at 889 (by decide +kernel) rfl
theorem cw_X11_stop : cwO mX11_stop ∈ lwg := lwg_at 517 (by decide +kernel) rfl
theorem nd_X11_stop : yX11_stop.cls ≠ "java/lang/invoke/MethodHandle" ∧ yX11_stop.cls ≠ "java/lang/invoke/VarHandle" ∧ (parseMethodDescriptor yX11_stop.desc).map (fun d => d.parameters.length) = some 2 := by decide +kernel
theorem pf_X11_stop : plainFor yX11_stop = true := plainFor_of_name (by decide)
theorem wi_X11_stop : Cond.instanceMethod yX11_stop ∈ lwg := lwg_at 515 (by decide +kernel) rfl
theorem ws_X11_stop : Cond.selects RX11 yX11_stop yX11_stop ∈ lwg := lwg_at 516 (by decide +kernel) rfl
theorem cw_X11_table : cwO mX11_table ∈ lwg := lwg_at 955 (by decide +kernel) rfl
theorem nd_X11_table : yX11_table.cls ≠ "java/lang/invoke/MethodHandle" ∧ yX11_table.cls ≠ "java/lang/invoke/VarHandle" ∧ (parseMethodDescriptor yX11_table.desc).map (fun d => d.parameters.length) = some 4 := by decide +kernel
theorem pf_X11_table : plainFor yX11_table = true := plainFor_of_name (by decide)
theorem wi_X11_table : Cond.instanceMethod yX11_table ∈ lwg := lwg_at 953 (by decide +kernel) rfl
theorem ws_X11_table : Cond.selects RX11 yX11_table yX11_table ∈ lwg := lwg_at 954 (by decide +kernel) rfl
theorem cw_X11_take : cwO mX11_take ∈ lwg := lwg_at 840 (by decide +kernel) rfl
theorem nd_X11_take : yX11_take.cls ≠ "java/lang/invoke/MethodHandle" ∧ yX11_take.cls ≠ "java/lang/invoke/VarHandle" ∧ (parseMethodDescriptor yX11_take.desc).map (fun d => d.parameters.length) = some 1 := by decide +kernel
theorem pf_X11_take : plainFor yX11_take = true := plainFor_of_name (by decide)
theorem wi_X11_take : Cond.instanceMethod yX11_take ∈ lwg := lwg_at 838 (by decide +kernel) rfl
theorem ws_X11_take : Cond.selects RX11 yX11_take yX11_take ∈ lwg := lwg_at 839 (by decide +kernel) rfl
theorem cw_X11_taken : cwO mX11_taken ∈ lwg := lwg_at 923 (by decide +kernel) rfl
theorem nd_X11_taken : yX11_taken.cls ≠ "java/lang/invoke/MethodHandle" ∧ yX11_taken.cls ≠ "java/lang/invoke/VarHandle" ∧ (parseMethodDescriptor yX11_taken.desc).map (fun d => d.parameters.length) = some 3 := by decide +kernel
theorem pf_X11_taken : plainFor yX11_taken = true := plainFor_of_name (by decide)
theorem wi_X11_taken : Cond.instanceMethod yX11_taken ∈ lwg := lwg_at 921 (by decide +kernel) rfl
theorem ws_X11_taken : Cond.selects RX11 yX11_taken yX11_taken ∈ lwg := lwg_at 922 (by decide +kernel) rfl
theorem cw_X11_trip : cwO mX11_trip ∈ lwg := lwg_at 546 (by decide +kernel) rfl
theorem nd_X11_trip : yX11_trip.cls ≠ "java/lang/invoke/MethodHandle" ∧ yX11_trip.cls ≠ "java/lang/invoke/VarHandle" ∧ (parseMethodDescriptor yX11_trip.desc).map (fun d => d.parameters.length) = some 3 := by decide +kernel
theorem pf_X11_trip : plainFor yX11_trip = true := plainFor_of_name (by decide)
theorem wi_X11_trip : Cond.instanceMethod yX11_trip ∈ lwg := lwg_at 544 (by decide +kernel) rfl
theorem ws_X11_trip : Cond.selects RX11 yX11_trip yX11_trip ∈ lwg := lwg_at 545 (by decide +kernel) rfl
theorem cw_X11_walk : cwO mX11_walk ∈ lwg := lwg_at 583 (by decide +kernel) rfl
theorem nd_X11_walk : yX11_walk.cls ≠ "java/lang/invoke/MethodHandle" ∧ yX11_walk.cls ≠ "java/lang/invoke/VarHandle" ∧ (parseMethodDescriptor yX11_walk.desc).map (fun d => d.parameters.length) = some 3 := by decide +kernel
theorem pf_X11_walk : plainFor yX11_walk = true := plainFor_of_name (by decide)
theorem wi_X11_walk : Cond.instanceMethod yX11_walk ∈ lwg := lwg_at 581 (by decide +kernel) rfl
theorem ws_X11_walk : Cond.selects RX11 yX11_walk yX11_walk ∈ lwg := lwg_at 582 (by decide +kernel) rfl
theorem cw_X11_way : cwO mX11_way ∈ lwg := lwg_at 817 (by decide +kernel) rfl
theorem nd_X11_way : yX11_way.cls ≠ "java/lang/invoke/MethodHandle" ∧ yX11_way.cls ≠ "java/lang/invoke/VarHandle" ∧ (parseMethodDescriptor yX11_way.desc).map (fun d => d.parameters.length) = some 2 := by decide +kernel
theorem pf_X11_way : plainFor yX11_way = true := plainFor_of_name (by decide)
theorem wi_X11_way : Cond.instanceMethod yX11_way ∈ lwg := lwg_at 815 (by decide +kernel) rfl
theorem ws_X11_way : Cond.selects RX11 yX11_way yX11_way ∈ lwg := lwg_at 816 (by decide +kernel) rfl
theorem cw_X11_ways : cwO mX11_ways ∈ lwg := lwg_at 634 (by decide +kernel) rfl
theorem nd_X11_ways : yX11_ways.cls ≠ "java/lang/invoke/MethodHandle" ∧ yX11_ways.cls ≠ "java/lang/invoke/VarHandle" ∧ (parseMethodDescriptor yX11_ways.desc).map (fun d => d.parameters.length) = some 4 := by decide +kernel
theorem pf_X11_ways : plainFor yX11_ways = true := plainFor_of_name (by decide)
theorem wi_X11_ways : Cond.instanceMethod yX11_ways ∈ lwg := lwg_at 632 (by decide +kernel) rfl
theorem ws_X11_ways : Cond.selects RX11 yX11_ways yX11_ways ∈ lwg := lwg_at 633 (by decide +kernel) rfl
theorem cw_X12_add : cwO mX12_add ∈ lwg := lwg_at 1318 (by decide +kernel) rfl
theorem nd_X12_add : yX12_add.cls ≠ "java/lang/invoke/MethodHandle" ∧ yX12_add.cls ≠ "java/lang/invoke/VarHandle" ∧ (parseMethodDescriptor yX12_add.desc).map (fun d => d.parameters.length) = some 3 := by decide +kernel
theorem pf_X12_add : plainFor yX12_add = true := plainFor_of_name (by decide)
theorem wi_X12_add : Cond.instanceMethod yX12_add ∈ lwg := lwg_at 1317 (by decide +kernel) rfl
theorem ws_X12_add : Cond.selects RX12 yX12_add yX12_add ∈ lwg := lwg_at 51 (by decide +kernel) rfl
theorem cw_X12_arrival : cwO mX12_arrival ∈ lwg := lwg_at 1290 (by decide +kernel) rfl
theorem nd_X12_arrival : yX12_arrival.cls ≠ "java/lang/invoke/MethodHandle" ∧ yX12_arrival.cls ≠ "java/lang/invoke/VarHandle" ∧ (parseMethodDescriptor yX12_arrival.desc).map (fun d => d.parameters.length) = some 3 := by decide +kernel
theorem pf_X12_arrival : plainFor yX12_arrival = true := plainFor_of_name (by decide)
theorem wi_X12_arrival : Cond.instanceMethod yX12_arrival ∈ lwg := lwg_at 1289 (by decide +kernel) rfl
theorem ws_X12_arrival : Cond.selects RX12 yX12_arrival yX12_arrival ∈ lwg := lwg_at 44 (by decide +kernel) rfl
theorem cw_X12_asked : cwO mX12_asked ∈ lwg := lwg_at 1223 (by decide +kernel) rfl
theorem nd_X12_asked : yX12_asked.cls ≠ "java/lang/invoke/MethodHandle" ∧ yX12_asked.cls ≠ "java/lang/invoke/VarHandle" ∧ (parseMethodDescriptor yX12_asked.desc).map (fun d => d.parameters.length) = some 2 := by decide +kernel
theorem pf_X12_asked : plainFor yX12_asked = true := plainFor_of_name (by decide)
theorem wi_X12_asked : Cond.instanceMethod yX12_asked ∈ lwg := lwg_at 1221 (by decide +kernel) rfl
theorem ws_X12_asked : Cond.selects RX12 yX12_asked yX12_asked ∈ lwg := lwg_at 1222 (by decide +kernel) rfl
theorem cw_X12_at : cwO mX12_at ∈ lwg := lwg_at 1263 (by decide +kernel) rfl
theorem nd_X12_at : yX12_at.cls ≠ "java/lang/invoke/MethodHandle" ∧ yX12_at.cls ≠ "java/lang/invoke/VarHandle" ∧ (parseMethodDescriptor yX12_at.desc).map (fun d => d.parameters.length) = some 3 := by decide +kernel
theorem pf_X12_at : plainFor yX12_at = true := plainFor_of_name (by decide)
theorem wt_X12_at : Cond.static yX12_at ∈ lwg := lwg_at 1262 (by decide +kernel) rfl
theorem cw_X12_begins : cwO mX12_begins ∈ lwg := lwg_at 1271 (by decide +kernel) rfl
theorem nd_X12_begins : yX12_begins.cls ≠ "java/lang/invoke/MethodHandle" ∧ yX12_begins.cls ≠ "java/lang/invoke/VarHandle" ∧ (parseMethodDescriptor yX12_begins.desc).map (fun d => d.parameters.length) = some 3 := by decide +kernel
theorem pf_X12_begins : plainFor yX12_begins = true := plainFor_of_name (by decide)
theorem wi_X12_begins : Cond.instanceMethod yX12_begins ∈ lwg := lwg_at 1270 (by decide +kernel) rfl
theorem ws_X12_begins : Cond.selects RX12 yX12_begins yX12_begins ∈ lwg := lwg_at 40 (by decide +kernel) rfl
theorem cw_X12_behind : cwO mX12_behind ∈ lwg := lwg_at 1267 (by decide +kernel) rfl
theorem nd_X12_behind : yX12_behind.cls ≠ "java/lang/invoke/MethodHandle" ∧ yX12_behind.cls ≠ "java/lang/invoke/VarHandle" ∧ (parseMethodDescriptor yX12_behind.desc).map (fun d => d.parameters.length) = some 3 := by decide +kernel
theorem pf_X12_behind : plainFor yX12_behind = true := plainFor_of_name (by decide)
theorem wi_X12_behind : Cond.instanceMethod yX12_behind ∈ lwg := lwg_at 1266 (by decide +kernel) rfl
theorem ws_X12_behind : Cond.selects RX12 yX12_behind yX12_behind ∈ lwg := lwg_at 39 (by decide +kernel) rfl
theorem cw_X12_call : cwO mX12_call ∈ lwg := lwg_at 1191 (by decide +kernel) rfl
theorem nd_X12_call : yX12_call.cls ≠ "java/lang/invoke/MethodHandle" ∧ yX12_call.cls ≠ "java/lang/invoke/VarHandle" ∧ (parseMethodDescriptor yX12_call.desc).map (fun d => d.parameters.length) = some 4 := by decide +kernel
theorem pf_X12_call : plainFor yX12_call = true := plainFor_of_name (by decide)
theorem wi_X12_call : Cond.instanceMethod yX12_call ∈ lwg := lwg_at 1189 (by decide +kernel) rfl
theorem ws_X12_call : Cond.selects RX12 yX12_call yX12_call ∈ lwg := lwg_at 1190 (by decide +kernel) rfl
theorem cw_X12_comes : cwO mX12_comes ∈ lwg := lwg_at 1350 (by decide +kernel) rfl
theorem nd_X12_comes : yX12_comes.cls ≠ "java/lang/invoke/MethodHandle" ∧ yX12_comes.cls ≠ "java/lang/invoke/VarHandle" ∧ (parseMethodDescriptor yX12_comes.desc).map (fun d => d.parameters.length) = some 1 := by decide +kernel
theorem pf_X12_comes : plainFor yX12_comes = true := plainFor_of_name (by decide)
theorem wi_X12_comes : Cond.instanceMethod yX12_comes ∈ lwg := lwg_at 1348 (by decide +kernel) rfl
theorem ws_X12_comes : Cond.selects RX12 yX12_comes yX12_comes ∈ lwg := lwg_at 1349 (by decide +kernel) rfl
theorem cw_X12_comesAt : cwO mX12_comesAt ∈ lwg := lwg_at 1251 (by decide +kernel) rfl
theorem nd_X12_comesAt : yX12_comesAt.cls ≠ "java/lang/invoke/MethodHandle" ∧ yX12_comesAt.cls ≠ "java/lang/invoke/VarHandle" ∧ (parseMethodDescriptor yX12_comesAt.desc).map (fun d => d.parameters.length) = some 3 := by decide +kernel
theorem pf_X12_comesAt : plainFor yX12_comesAt = true := plainFor_of_name (by decide)
theorem wi_X12_comesAt : Cond.instanceMethod yX12_comesAt ∈ lwg := lwg_at 1250 (by decide +kernel) rfl
theorem ws_X12_comesAt : Cond.selects RX12 yX12_comesAt yX12_comesAt ∈ lwg := lwg_at 36 (by decide +kernel) rfl
theorem cw_X12_count : cwO mX12_count ∈ lwg := lwg_at 1395 (by decide +kernel) rfl
theorem nd_X12_count : yX12_count.cls ≠ "java/lang/invoke/MethodHandle" ∧ yX12_count.cls ≠ "java/lang/invoke/VarHandle" ∧ (parseMethodDescriptor yX12_count.desc).map (fun d => d.parameters.length) = some 1 := by decide +kernel
theorem pf_X12_count : plainFor yX12_count = true := plainFor_of_name (by decide)
theorem wi_X12_count : Cond.instanceMethod yX12_count ∈ lwg := lwg_at 1393 (by decide +kernel) rfl
theorem ws_X12_count : Cond.selects RX12 yX12_count yX12_count ∈ lwg := lwg_at 1394 (by decide +kernel) rfl
theorem cw_X12_day : cwO mX12_day ∈ lwg := lwg_at 1180 (by decide +kernel) rfl
theorem nd_X12_day : yX12_day.cls ≠ "java/lang/invoke/MethodHandle" ∧ yX12_day.cls ≠ "java/lang/invoke/VarHandle" ∧ (parseMethodDescriptor yX12_day.desc).map (fun d => d.parameters.length) = some 2 := by decide +kernel
theorem pf_X12_day : plainFor yX12_day = true := plainFor_of_name (by decide)
theorem wi_X12_day : Cond.instanceMethod yX12_day ∈ lwg := lwg_at 1178 (by decide +kernel) rfl
theorem ws_X12_day : Cond.selects RX12 yX12_day yX12_day ∈ lwg := lwg_at 1179 (by decide +kernel) rfl
theorem cw_X12_fare : cwO mX12_fare ∈ lwg := lwg_at 1176 (by decide +kernel) rfl
theorem nd_X12_fare : yX12_fare.cls ≠ "java/lang/invoke/MethodHandle" ∧ yX12_fare.cls ≠ "java/lang/invoke/VarHandle" ∧ (parseMethodDescriptor yX12_fare.desc).map (fun d => d.parameters.length) = some 3 := by decide +kernel
theorem pf_X12_fare : plainFor yX12_fare = true := plainFor_of_name (by decide)
theorem wi_X12_fare : Cond.instanceMethod yX12_fare ∈ lwg := lwg_at 1174 (by decide +kernel) rfl
theorem ws_X12_fare : Cond.selects RX12 yX12_fare yX12_fare ∈ lwg := lwg_at 1175 (by decide +kernel) rfl
theorem cw_X12_fareOf : cwO mX12_fareOf ∈ lwg := lwg_at 1286 (by decide +kernel) rfl
theorem nd_X12_fareOf : yX12_fareOf.cls ≠ "java/lang/invoke/MethodHandle" ∧ yX12_fareOf.cls ≠ "java/lang/invoke/VarHandle" ∧ (parseMethodDescriptor yX12_fareOf.desc).map (fun d => d.parameters.length) = some 3 := by decide +kernel
theorem pf_X12_fareOf : plainFor yX12_fareOf = true := plainFor_of_name (by decide)
theorem wi_X12_fareOf : Cond.instanceMethod yX12_fareOf ∈ lwg := lwg_at 1285 (by decide +kernel) rfl
theorem ws_X12_fareOf : Cond.selects RX12 yX12_fareOf yX12_fareOf ∈ lwg := lwg_at 43 (by decide +kernel) rfl
theorem cw_X12_findRide : cwO mX12_findRide ∈ lwg := lwg_at 1306 (by decide +kernel) rfl
theorem nd_X12_findRide : yX12_findRide.cls ≠ "java/lang/invoke/MethodHandle" ∧ yX12_findRide.cls ≠ "java/lang/invoke/VarHandle" ∧ (parseMethodDescriptor yX12_findRide.desc).map (fun d => d.parameters.length) = some 6 := by decide +kernel
theorem pf_X12_findRide : plainFor yX12_findRide = true := plainFor_of_name (by decide)
theorem wi_X12_findRide : Cond.instanceMethod yX12_findRide ∈ lwg := lwg_at 1305 (by decide +kernel) rfl
theorem ws_X12_findRide : Cond.selects RX12 yX12_findRide yX12_findRide ∈ lwg := lwg_at 48 (by decide +kernel) rfl
theorem cw_X12_findWay : cwO mX12_findWay ∈ lwg := lwg_at 1298 (by decide +kernel) rfl
theorem nd_X12_findWay : yX12_findWay.cls ≠ "java/lang/invoke/MethodHandle" ∧ yX12_findWay.cls ≠ "java/lang/invoke/VarHandle" ∧ (parseMethodDescriptor yX12_findWay.desc).map (fun d => d.parameters.length) = some 4 := by decide +kernel
theorem pf_X12_findWay : plainFor yX12_findWay = true := plainFor_of_name (by decide)
theorem wi_X12_findWay : Cond.instanceMethod yX12_findWay ∈ lwg := lwg_at 1297 (by decide +kernel) rfl
theorem ws_X12_findWay : Cond.selects RX12 yX12_findWay yX12_findWay ∈ lwg := lwg_at 46 (by decide +kernel) rfl
theorem cw_X12_give : cwO mX12_give ∈ lwg := lwg_at 1338 (by decide +kernel) rfl
theorem nd_X12_give : yX12_give.cls ≠ "java/lang/invoke/MethodHandle" ∧ yX12_give.cls ≠ "java/lang/invoke/VarHandle" ∧ (parseMethodDescriptor yX12_give.desc).map (fun d => d.parameters.length) = some 1 := by decide +kernel
theorem pf_X12_give : plainFor yX12_give = true := plainFor_of_name (by decide)
theorem wi_X12_give : Cond.instanceMethod yX12_give ∈ lwg := lwg_at 1336 (by decide +kernel) rfl
theorem ws_X12_give : Cond.selects RX12 yX12_give yX12_give ∈ lwg := lwg_at 1337 (by decide +kernel) rfl
theorem cw_X12_go : cwO mX12_go ∈ lwg := lwg_at 1259 (by decide +kernel) rfl
theorem nd_X12_go : yX12_go.cls ≠ "java/lang/invoke/MethodHandle" ∧ yX12_go.cls ≠ "java/lang/invoke/VarHandle" ∧ (parseMethodDescriptor yX12_go.desc).map (fun d => d.parameters.length) = some 2 := by decide +kernel
theorem pf_X12_go : plainFor yX12_go = true := plainFor_of_name (by decide)
theorem wi_X12_go : Cond.instanceMethod yX12_go ∈ lwg := lwg_at 1258 (by decide +kernel) rfl
theorem ws_X12_go : Cond.selects RX12 yX12_go yX12_go ∈ lwg := lwg_at 38 (by decide +kernel) rfl
theorem cw_X12_gone : cwO mX12_gone ∈ lwg := lwg_at 1235 (by decide +kernel) rfl
theorem nd_X12_gone : yX12_gone.cls ≠ "java/lang/invoke/MethodHandle" ∧ yX12_gone.cls ≠ "java/lang/invoke/VarHandle" ∧ (parseMethodDescriptor yX12_gone.desc).map (fun d => d.parameters.length) = some 3 := by decide +kernel
theorem pf_X12_gone : plainFor yX12_gone = true := plainFor_of_name (by decide)
theorem wi_X12_gone : Cond.instanceMethod yX12_gone ∈ lwg := lwg_at 1233 (by decide +kernel) rfl
theorem ws_X12_gone : Cond.selects RX12 yX12_gone yX12_gone ∈ lwg := lwg_at 1234 (by decide +kernel) rfl
theorem cw_X12_hasPlace : cwO mX12_hasPlace ∈ lwg := lwg_at 1282 (by decide +kernel) rfl
theorem nd_X12_hasPlace : yX12_hasPlace.cls ≠ "java/lang/invoke/MethodHandle" ∧ yX12_hasPlace.cls ≠ "java/lang/invoke/VarHandle" ∧ (parseMethodDescriptor yX12_hasPlace.desc).map (fun d => d.parameters.length) = some 4 := by decide +kernel
theorem pf_X12_hasPlace : plainFor yX12_hasPlace = true := plainFor_of_name (by decide)
theorem wi_X12_hasPlace : Cond.instanceMethod yX12_hasPlace ∈ lwg := lwg_at 1281 (by decide +kernel) rfl
theorem ws_X12_hasPlace : Cond.selects RX12 yX12_hasPlace yX12_hasPlace ∈ lwg := lwg_at 42 (by decide +kernel) rfl
theorem cw_X12_in : cwO mX12_in ∈ lwg := lwg_at 1172 (by decide +kernel) rfl
theorem nd_X12_in : yX12_in.cls ≠ "java/lang/invoke/MethodHandle" ∧ yX12_in.cls ≠ "java/lang/invoke/VarHandle" ∧ (parseMethodDescriptor yX12_in.desc).map (fun d => d.parameters.length) = some 3 := by decide +kernel
theorem pf_X12_in : plainFor yX12_in = true := plainFor_of_name (by decide)
theorem wt_X12_in : Cond.static yX12_in ∈ lwg := lwg_at 1171 (by decide +kernel) rfl
theorem cw_X12_isAhead : cwO mX12_isAhead ∈ lwg := lwg_at 1391 (by decide +kernel) rfl
theorem nd_X12_isAhead : yX12_isAhead.cls ≠ "java/lang/invoke/MethodHandle" ∧ yX12_isAhead.cls ≠ "java/lang/invoke/VarHandle" ∧ (parseMethodDescriptor yX12_isAhead.desc).map (fun d => d.parameters.length) = some 5 := by decide +kernel
theorem pf_X12_isAhead : plainFor yX12_isAhead = true := plainFor_of_name (by decide)
theorem wi_X12_isAhead : Cond.instanceMethod yX12_isAhead ∈ lwg := lwg_at 1390 (by decide +kernel) rfl
theorem ws_X12_isAhead : Cond.selects RX12 yX12_isAhead yX12_isAhead ∈ lwg := lwg_at 57 (by decide +kernel) rfl
theorem cw_X12_isBeaten : cwO mX12_isBeaten ∈ lwg := lwg_at 1294 (by decide +kernel) rfl
theorem nd_X12_isBeaten : yX12_isBeaten.cls ≠ "java/lang/invoke/MethodHandle" ∧ yX12_isBeaten.cls ≠ "java/lang/invoke/VarHandle" ∧ (parseMethodDescriptor yX12_isBeaten.desc).map (fun d => d.parameters.length) = some 4 := by decide +kernel
theorem pf_X12_isBeaten : plainFor yX12_isBeaten = true := plainFor_of_name (by decide)
theorem wi_X12_isBeaten : Cond.instanceMethod yX12_isBeaten ∈ lwg := lwg_at 1293 (by decide +kernel) rfl
theorem ws_X12_isBeaten : Cond.selects RX12 yX12_isBeaten yX12_isBeaten ∈ lwg := lwg_at 45 (by decide +kernel) rfl
theorem cw_X12_isCall : cwO mX12_isCall ∈ lwg := lwg_at 1207 (by decide +kernel) rfl
theorem nd_X12_isCall : yX12_isCall.cls ≠ "java/lang/invoke/MethodHandle" ∧ yX12_isCall.cls ≠ "java/lang/invoke/VarHandle" ∧ (parseMethodDescriptor yX12_isCall.desc).map (fun d => d.parameters.length) = some 2 := by decide +kernel
theorem pf_X12_isCall : plainFor yX12_isCall = true := plainFor_of_name (by decide)
theorem wi_X12_isCall : Cond.instanceMethod yX12_isCall ∈ lwg := lwg_at 1206 (by decide +kernel) rfl
theorem ws_X12_isCall : Cond.selects RX12 yX12_isCall yX12_isCall ∈ lwg := lwg_at 31 (by decide +kernel) rfl
theorem cw_X12_isDay : cwO mX12_isDay ∈ lwg := lwg_at 1183 (by decide +kernel) rfl
theorem nd_X12_isDay : yX12_isDay.cls ≠ "java/lang/invoke/MethodHandle" ∧ yX12_isDay.cls ≠ "java/lang/invoke/VarHandle" ∧ (parseMethodDescriptor yX12_isDay.desc).map (fun d => d.parameters.length) = some 1 := by decide +kernel
theorem pf_X12_isDay : plainFor yX12_isDay = true := plainFor_of_name (by decide)
theorem wt_X12_isDay : Cond.static yX12_isDay ∈ lwg := lwg_at 1182 (by decide +kernel) rfl
theorem cw_X12_isInTable : cwO mX12_isInTable ∈ lwg := lwg_at 1387 (by decide +kernel) rfl
theorem nd_X12_isInTable : yX12_isInTable.cls ≠ "java/lang/invoke/MethodHandle" ∧ yX12_isInTable.cls ≠ "java/lang/invoke/VarHandle" ∧ (parseMethodDescriptor yX12_isInTable.desc).map (fun d => d.parameters.length) = some 4 := by decide +kernel
theorem pf_X12_isInTable : plainFor yX12_isInTable = true := plainFor_of_name (by decide)
theorem wi_X12_isInTable : Cond.instanceMethod yX12_isInTable ∈ lwg := lwg_at 1386 (by decide +kernel) rfl
theorem ws_X12_isInTable : Cond.selects RX12 yX12_isInTable yX12_isInTable ∈ lwg := lwg_at 56 (by decide +kernel) rfl
theorem cw_X12_isInTime : cwO mX12_isInTime ∈ lwg := lwg_at 1363 (by decide +kernel) rfl
theorem nd_X12_isInTime : yX12_isInTime.cls ≠ "java/lang/invoke/MethodHandle" ∧ yX12_isInTime.cls ≠ "java/lang/invoke/VarHandle" ∧ (parseMethodDescriptor yX12_isInTime.desc).map (fun d => d.parameters.length) = some 4 := by decide +kernel
theorem pf_X12_isInTime : plainFor yX12_isInTime = true := plainFor_of_name (by decide)
theorem wi_X12_isInTime : Cond.instanceMethod yX12_isInTime ∈ lwg := lwg_at 1362 (by decide +kernel) rfl
theorem ws_X12_isInTime : Cond.selects RX12 yX12_isInTime yX12_isInTime ∈ lwg := lwg_at 54 (by decide +kernel) rfl
theorem cw_X12_isStop : cwO mX12_isStop ∈ lwg := lwg_at 1199 (by decide +kernel) rfl
theorem nd_X12_isStop : yX12_isStop.cls ≠ "java/lang/invoke/MethodHandle" ∧ yX12_isStop.cls ≠ "java/lang/invoke/VarHandle" ∧ (parseMethodDescriptor yX12_isStop.desc).map (fun d => d.parameters.length) = some 1 := by decide +kernel
theorem pf_X12_isStop : plainFor yX12_isStop = true := plainFor_of_name (by decide)
theorem wi_X12_isStop : Cond.instanceMethod yX12_isStop ∈ lwg := lwg_at 1198 (by decide +kernel) rfl
theorem ws_X12_isStop : Cond.selects RX12 yX12_isStop yX12_isStop ∈ lwg := lwg_at 30 (by decide +kernel) rfl
theorem cw_X12_isTicket : cwO mX12_isTicket ∈ lwg := lwg_at 1342 (by decide +kernel) rfl
theorem nd_X12_isTicket : yX12_isTicket.cls ≠ "java/lang/invoke/MethodHandle" ∧ yX12_isTicket.cls ≠ "java/lang/invoke/VarHandle" ∧ (parseMethodDescriptor yX12_isTicket.desc).map (fun d => d.parameters.length) = some 1 := by decide +kernel
theorem pf_X12_isTicket : plainFor yX12_isTicket = true := plainFor_of_name (by decide)
theorem wi_X12_isTicket : Cond.instanceMethod yX12_isTicket ∈ lwg := lwg_at 1341 (by decide +kernel) rfl
theorem ws_X12_isTicket : Cond.selects RX12 yX12_isTicket yX12_isTicket ∈ lwg := lwg_at 53 (by decide +kernel) rfl
theorem cw_X12_isTrip : cwO mX12_isTrip ∈ lwg := lwg_at 1195 (by decide +kernel) rfl
theorem nd_X12_isTrip : yX12_isTrip.cls ≠ "java/lang/invoke/MethodHandle" ∧ yX12_isTrip.cls ≠ "java/lang/invoke/VarHandle" ∧ (parseMethodDescriptor yX12_isTrip.desc).map (fun d => d.parameters.length) = some 1 := by decide +kernel
theorem pf_X12_isTrip : plainFor yX12_isTrip = true := plainFor_of_name (by decide)
theorem wi_X12_isTrip : Cond.instanceMethod yX12_isTrip ∈ lwg := lwg_at 1194 (by decide +kernel) rfl
theorem ws_X12_isTrip : Cond.selects RX12 yX12_isTrip yX12_isTrip ∈ lwg := lwg_at 29 (by decide +kernel) rfl
theorem cw_X12_isWalk : cwO mX12_isWalk ∈ lwg := lwg_at 1219 (by decide +kernel) rfl
theorem nd_X12_isWalk : yX12_isWalk.cls ≠ "java/lang/invoke/MethodHandle" ∧ yX12_isWalk.cls ≠ "java/lang/invoke/VarHandle" ∧ (parseMethodDescriptor yX12_isWalk.desc).map (fun d => d.parameters.length) = some 1 := by decide +kernel
theorem pf_X12_isWalk : plainFor yX12_isWalk = true := plainFor_of_name (by decide)
theorem wi_X12_isWalk : Cond.instanceMethod yX12_isWalk ∈ lwg := lwg_at 1218 (by decide +kernel) rfl
theorem ws_X12_isWalk : Cond.selects RX12 yX12_isWalk yX12_isWalk ∈ lwg := lwg_at 32 (by decide +kernel) rfl
theorem cw_X12_late : cwO mX12_late ∈ lwg := lwg_at 1227 (by decide +kernel) rfl
theorem nd_X12_late : yX12_late.cls ≠ "java/lang/invoke/MethodHandle" ∧ yX12_late.cls ≠ "java/lang/invoke/VarHandle" ∧ (parseMethodDescriptor yX12_late.desc).map (fun d => d.parameters.length) = some 4 := by decide +kernel
theorem pf_X12_late : plainFor yX12_late = true := plainFor_of_name (by decide)
theorem wi_X12_late : Cond.instanceMethod yX12_late ∈ lwg := lwg_at 1225 (by decide +kernel) rfl
theorem ws_X12_late : Cond.selects RX12 yX12_late yX12_late ∈ lwg := lwg_at 1226 (by decide +kernel) rfl
theorem cw_X12_lateAt : cwO mX12_lateAt ∈ lwg := lwg_at 1231 (by decide +kernel) rfl
theorem nd_X12_lateAt : yX12_lateAt.cls ≠ "java/lang/invoke/MethodHandle" ∧ yX12_lateAt.cls ≠ "java/lang/invoke/VarHandle" ∧ (parseMethodDescriptor yX12_lateAt.desc).map (fun d => d.parameters.length) = some 3 := by decide +kernel
theorem pf_X12_lateAt : plainFor yX12_lateAt = true := plainFor_of_name (by decide)
theorem wi_X12_lateAt : Cond.instanceMethod yX12_lateAt ∈ lwg := lwg_at 1230 (by decide +kernel) rfl
theorem ws_X12_lateAt : Cond.selects RX12 yX12_lateAt yX12_lateAt ∈ lwg := lwg_at 33 (by decide +kernel) rfl
theorem cw_X12_latest : cwO mX12_latest ∈ lwg := lwg_at 1359 (by decide +kernel) rfl
theorem nd_X12_latest : yX12_latest.cls ≠ "java/lang/invoke/MethodHandle" ∧ yX12_latest.cls ≠ "java/lang/invoke/VarHandle" ∧ (parseMethodDescriptor yX12_latest.desc).map (fun d => d.parameters.length) = some 4 := by decide +kernel
theorem pf_X12_latest : plainFor yX12_latest = true := plainFor_of_name (by decide)
theorem wi_X12_latest : Cond.instanceMethod yX12_latest ∈ lwg := lwg_at 1357 (by decide +kernel) rfl
theorem ws_X12_latest : Cond.selects RX12 yX12_latest yX12_latest ∈ lwg := lwg_at 1358 (by decide +kernel) rfl
theorem cw_X12_least : cwO mX12_least ∈ lwg := lwg_at 1274 (by decide +kernel) rfl
theorem nd_X12_least : yX12_least.cls ≠ "java/lang/invoke/MethodHandle" ∧ yX12_least.cls ≠ "java/lang/invoke/VarHandle" ∧ (parseMethodDescriptor yX12_least.desc).map (fun d => d.parameters.length) = some 3 := by decide +kernel
theorem pf_X12_least : plainFor yX12_least = true := plainFor_of_name (by decide)
theorem wt_X12_least : Cond.static yX12_least ∈ lwg := lwg_at 1273 (by decide +kernel) rfl
theorem cw_X12_leavesAt : cwO mX12_leavesAt ∈ lwg := lwg_at 1255 (by decide +kernel) rfl
theorem nd_X12_leavesAt : yX12_leavesAt.cls ≠ "java/lang/invoke/MethodHandle" ∧ yX12_leavesAt.cls ≠ "java/lang/invoke/VarHandle" ∧ (parseMethodDescriptor yX12_leavesAt.desc).map (fun d => d.parameters.length) = some 3 := by decide +kernel
theorem pf_X12_leavesAt : plainFor yX12_leavesAt = true := plainFor_of_name (by decide)
theorem wi_X12_leavesAt : Cond.instanceMethod yX12_leavesAt ∈ lwg := lwg_at 1254 (by decide +kernel) rfl
theorem ws_X12_leavesAt : Cond.selects RX12 yX12_leavesAt yX12_leavesAt ∈ lwg := lwg_at 37 (by decide +kernel) rfl
theorem cw_X12_leg : cwO mX12_leg ∈ lwg := lwg_at 1326 (by decide +kernel) rfl
theorem nd_X12_leg : yX12_leg.cls ≠ "java/lang/invoke/MethodHandle" ∧ yX12_leg.cls ≠ "java/lang/invoke/VarHandle" ∧ (parseMethodDescriptor yX12_leg.desc).map (fun d => d.parameters.length) = some 3 := by decide +kernel
theorem pf_X12_leg : plainFor yX12_leg = true := plainFor_of_name (by decide)
theorem wi_X12_leg : Cond.instanceMethod yX12_leg ∈ lwg := lwg_at 1324 (by decide +kernel) rfl
theorem ws_X12_leg : Cond.selects RX12 yX12_leg yX12_leg ∈ lwg := lwg_at 1325 (by decide +kernel) rfl
theorem cw_X12_look : cwO mX12_look ∈ lwg := lwg_at 1243 (by decide +kernel) rfl
theorem nd_X12_look : yX12_look.cls ≠ "java/lang/invoke/MethodHandle" ∧ yX12_look.cls ≠ "java/lang/invoke/VarHandle" ∧ (parseMethodDescriptor yX12_look.desc).map (fun d => d.parameters.length) = some 2 := by decide +kernel
theorem pf_X12_look : plainFor yX12_look = true := plainFor_of_name (by decide)
theorem wi_X12_look : Cond.instanceMethod yX12_look ∈ lwg := lwg_at 1242 (by decide +kernel) rfl
theorem ws_X12_look : Cond.selects RX12 yX12_look yX12_look ∈ lwg := lwg_at 34 (by decide +kernel) rfl
theorem cw_X12_meet : cwO mX12_meet ∈ lwg := lwg_at 1375 (by decide +kernel) rfl
theorem nd_X12_meet : yX12_meet.cls ≠ "java/lang/invoke/MethodHandle" ∧ yX12_meet.cls ≠ "java/lang/invoke/VarHandle" ∧ (parseMethodDescriptor yX12_meet.desc).map (fun d => d.parameters.length) = some 3 := by decide +kernel
theorem pf_X12_meet : plainFor yX12_meet = true := plainFor_of_name (by decide)
theorem wi_X12_meet : Cond.instanceMethod yX12_meet ∈ lwg := lwg_at 1373 (by decide +kernel) rfl
theorem ws_X12_meet : Cond.selects RX12 yX12_meet yX12_meet ∈ lwg := lwg_at 1374 (by decide +kernel) rfl
theorem cw_X12_met : cwO mX12_met ∈ lwg := lwg_at 1379 (by decide +kernel) rfl
theorem nd_X12_met : yX12_met.cls ≠ "java/lang/invoke/MethodHandle" ∧ yX12_met.cls ≠ "java/lang/invoke/VarHandle" ∧ (parseMethodDescriptor yX12_met.desc).map (fun d => d.parameters.length) = some 0 := by decide +kernel
theorem pf_X12_met : plainFor yX12_met = true := plainFor_of_name (by decide)
theorem wi_X12_met : Cond.instanceMethod yX12_met ∈ lwg := lwg_at 1377 (by decide +kernel) rfl
theorem ws_X12_met : Cond.selects RX12 yX12_met yX12_met ∈ lwg := lwg_at 1378 (by decide +kernel) rfl
theorem cw_X12_miss : cwO mX12_miss ∈ lwg := lwg_at 1203 (by decide +kernel) rfl
theorem nd_X12_miss : yX12_miss.cls ≠ "java/lang/invoke/MethodHandle" ∧ yX12_miss.cls ≠ "java/lang/invoke/VarHandle" ∧ (parseMethodDescriptor yX12_miss.desc).map (fun d => d.parameters.length) = some 3 := by decide +kernel
theorem pf_X12_miss : plainFor yX12_miss = true := plainFor_of_name (by decide)
theorem wi_X12_miss : Cond.instanceMethod yX12_miss ∈ lwg := lwg_at 1201 (by decide +kernel) rfl
theorem ws_X12_miss : Cond.selects RX12 yX12_miss yX12_miss ∈ lwg := lwg_at 1202 (by decide +kernel) rfl
theorem cw_X12_places : cwO mX12_places ∈ lwg := lwg_at 1334 (by decide +kernel) rfl
theorem nd_X12_places : yX12_places.cls ≠ "java/lang/invoke/MethodHandle" ∧ yX12_places.cls ≠ "java/lang/invoke/VarHandle" ∧ (parseMethodDescriptor yX12_places.desc).map (fun d => d.parameters.length) = some 4 := by decide +kernel
theorem pf_X12_places : plainFor yX12_places = true := plainFor_of_name (by decide)
theorem wi_X12_places : Cond.instanceMethod yX12_places ∈ lwg := lwg_at 1333 (by decide +kernel) rfl
theorem ws_X12_places : Cond.selects RX12 yX12_places yX12_places ∈ lwg := lwg_at 52 (by decide +kernel) rfl
theorem cw_X12_putRide : cwO mX12_putRide ∈ lwg := lwg_at 1314 (by decide +kernel) rfl
theorem nd_X12_putRide : yX12_putRide.cls ≠ "java/lang/invoke/MethodHandle" ∧ yX12_putRide.cls ≠ "java/lang/invoke/VarHandle" ∧ (parseMethodDescriptor yX12_putRide.desc).map (fun d => d.parameters.length) = some 3 := by decide +kernel
theorem pf_X12_putRide : plainFor yX12_putRide = true := plainFor_of_name (by decide)
theorem wi_X12_putRide : Cond.instanceMethod yX12_putRide ∈ lwg := lwg_at 1313 (by decide +kernel) rfl
theorem ws_X12_putRide : Cond.selects RX12 yX12_putRide yX12_putRide ∈ lwg := lwg_at 50 (by decide +kernel) rfl
theorem cw_X12_putWalk : cwO mX12_putWalk ∈ lwg := lwg_at 1310 (by decide +kernel) rfl
theorem nd_X12_putWalk : yX12_putWalk.cls ≠ "java/lang/invoke/MethodHandle" ∧ yX12_putWalk.cls ≠ "java/lang/invoke/VarHandle" ∧ (parseMethodDescriptor yX12_putWalk.desc).map (fun d => d.parameters.length) = some 1 := by decide +kernel
theorem pf_X12_putWalk : plainFor yX12_putWalk = true := plainFor_of_name (by decide)
theorem wi_X12_putWalk : Cond.instanceMethod yX12_putWalk ∈ lwg := lwg_at 1309 (by decide +kernel) rfl
theorem ws_X12_putWalk : Cond.selects RX12 yX12_putWalk yX12_putWalk ∈ lwg := lwg_at 49 (by decide +kernel) rfl
theorem cw_X12_reach : cwO mX12_reach ∈ lwg := lwg_at 1371 (by decide +kernel) rfl
theorem nd_X12_reach : yX12_reach.cls ≠ "java/lang/invoke/MethodHandle" ∧ yX12_reach.cls ≠ "java/lang/invoke/VarHandle" ∧ (parseMethodDescriptor yX12_reach.desc).map (fun d => d.parameters.length) = some 4 := by decide +kernel
theorem pf_X12_reach : plainFor yX12_reach = true := plainFor_of_name (by decide)
theorem wi_X12_reach : Cond.instanceMethod yX12_reach ∈ lwg := lwg_at 1369 (by decide +kernel) rfl
theorem ws_X12_reach : Cond.selects RX12 yX12_reach yX12_reach ∈ lwg := lwg_at 1370 (by decide +kernel) rfl
theorem cw_X12_ride : cwO mX12_ride ∈ lwg := lwg_at 1278 (by decide +kernel) rfl
theorem nd_X12_ride : yX12_ride.cls ≠ "java/lang/invoke/MethodHandle" ∧ yX12_ride.cls ≠ "java/lang/invoke/VarHandle" ∧ (parseMethodDescriptor yX12_ride.desc).map (fun d => d.parameters.length) = some 2 := by decide +kernel
theorem pf_X12_ride : plainFor yX12_ride = true := plainFor_of_name (by decide)
theorem wi_X12_ride : Cond.instanceMethod yX12_ride ∈ lwg := lwg_at 1277 (by decide +kernel) rfl
theorem ws_X12_ride : Cond.selects RX12 yX12_ride yX12_ride ∈ lwg := lwg_at 41 (by decide +kernel) rfl
theorem cw_X12_runs : cwO mX12_runs ∈ lwg := lwg_at 1247 (by decide +kernel) rfl
theorem nd_X12_runs : yX12_runs.cls ≠ "java/lang/invoke/MethodHandle" ∧ yX12_runs.cls ≠ "java/lang/invoke/VarHandle" ∧ (parseMethodDescriptor yX12_runs.desc).map (fun d => d.parameters.length) = some 2 := by decide +kernel
theorem pf_X12_runs : plainFor yX12_runs = true := plainFor_of_name (by decide)
theorem wi_X12_runs : Cond.instanceMethod yX12_runs ∈ lwg := lwg_at 1246 (by decide +kernel) rfl
theorem ws_X12_runs : Cond.selects RX12 yX12_runs yX12_runs ∈ lwg := lwg_at 35 (by decide +kernel) rfl
theorem cw_X12_shuttle : cwO mX12_shuttle ∈ lwg := lwg_at 1215 (by decide +kernel) rfl
theorem nd_X12_shuttle : yX12_shuttle.cls ≠ "java/lang/invoke/MethodHandle" ∧ yX12_shuttle.cls ≠ "java/lang/invoke/VarHandle" ∧ (parseMethodDescriptor yX12_shuttle.desc).map (fun d => d.parameters.length) = some 4 := by decide +kernel
theorem pf_X12_shuttle : plainFor yX12_shuttle = true := plainFor_of_name (by decide)
theorem wi_X12_shuttle : Cond.instanceMethod yX12_shuttle ∈ lwg := lwg_at 1213 (by decide +kernel) rfl
theorem ws_X12_shuttle : Cond.selects RX12 yX12_shuttle yX12_shuttle ∈ lwg := lwg_at 1214 (by decide +kernel) rfl
theorem cw_X12_soonestOf : cwO mX12_soonestOf ∈ lwg := lwg_at 1367 (by decide +kernel) rfl
theorem nd_X12_soonestOf : yX12_soonestOf.cls ≠ "java/lang/invoke/MethodHandle" ∧ yX12_soonestOf.cls ≠ "java/lang/invoke/VarHandle" ∧ (parseMethodDescriptor yX12_soonestOf.desc).map (fun d => d.parameters.length) = some 1 := by decide +kernel
theorem pf_X12_soonestOf : plainFor yX12_soonestOf = true := plainFor_of_name (by decide)
theorem wi_X12_soonestOf : Cond.instanceMethod yX12_soonestOf ∈ lwg := lwg_at 1366 (by decide +kernel) rfl
theorem ws_X12_soonestOf : Cond.selects RX12 yX12_soonestOf yX12_soonestOf ∈ lwg := lwg_at 55 (by decide +kernel) rfl
theorem cw_X12_still : cwO mX12_still ∈ lwg := lwg_at 1346 (by decide +kernel) rfl
theorem nd_X12_still : yX12_still.cls ≠ "java/lang/invoke/MethodHandle" ∧ yX12_still.cls ≠ "java/lang/invoke/VarHandle" ∧ (parseMethodDescriptor yX12_still.desc).map (fun d => d.parameters.length) = some 1 := by decide +kernel
theorem pf_X12_still : plainFor yX12_still = true := plainFor_of_name (by decide)
theorem wi_X12_still : Cond.instanceMethod yX12_still ∈ lwg := lwg_at 1344 (by decide +kernel) rfl
theorem ws_X12_still : Cond.selects RX12 yX12_still yX12_still ∈ lwg := lwg_at 1345 (by decide +kernel) rfl
theorem cw_X12_stop : cwO mX12_stop ∈ lwg := lwg_at 1169 (by decide +kernel) rfl
theorem nd_X12_stop : yX12_stop.cls ≠ "java/lang/invoke/MethodHandle" ∧ yX12_stop.cls ≠ "java/lang/invoke/VarHandle" ∧ (parseMethodDescriptor yX12_stop.desc).map (fun d => d.parameters.length) = some 2 := by decide +kernel
theorem pf_X12_stop : plainFor yX12_stop = true := plainFor_of_name (by decide)
theorem wi_X12_stop : Cond.instanceMethod yX12_stop ∈ lwg := lwg_at 1167 (by decide +kernel) rfl
theorem ws_X12_stop : Cond.selects RX12 yX12_stop yX12_stop ∈ lwg := lwg_at 1168 (by decide +kernel) rfl
theorem cw_X12_table : cwO mX12_table ∈ lwg := lwg_at 1383 (by decide +kernel) rfl
theorem nd_X12_table : yX12_table.cls ≠ "java/lang/invoke/MethodHandle" ∧ yX12_table.cls ≠ "java/lang/invoke/VarHandle" ∧ (parseMethodDescriptor yX12_table.desc).map (fun d => d.parameters.length) = some 4 := by decide +kernel
theorem pf_X12_table : plainFor yX12_table = true := plainFor_of_name (by decide)
theorem wi_X12_table : Cond.instanceMethod yX12_table ∈ lwg := lwg_at 1381 (by decide +kernel) rfl
theorem ws_X12_table : Cond.selects RX12 yX12_table yX12_table ∈ lwg := lwg_at 1382 (by decide +kernel) rfl
theorem cw_X12_take : cwO mX12_take ∈ lwg := lwg_at 1330 (by decide +kernel) rfl
theorem nd_X12_take : yX12_take.cls ≠ "java/lang/invoke/MethodHandle" ∧ yX12_take.cls ≠ "java/lang/invoke/VarHandle" ∧ (parseMethodDescriptor yX12_take.desc).map (fun d => d.parameters.length) = some 1 := by decide +kernel
theorem pf_X12_take : plainFor yX12_take = true := plainFor_of_name (by decide)
theorem wi_X12_take : Cond.instanceMethod yX12_take ∈ lwg := lwg_at 1328 (by decide +kernel) rfl
theorem ws_X12_take : Cond.selects RX12 yX12_take yX12_take ∈ lwg := lwg_at 1329 (by decide +kernel) rfl
theorem cw_X12_taken : cwO mX12_taken ∈ lwg := lwg_at 1355 (by decide +kernel) rfl
theorem nd_X12_taken : yX12_taken.cls ≠ "java/lang/invoke/MethodHandle" ∧ yX12_taken.cls ≠ "java/lang/invoke/VarHandle" ∧ (parseMethodDescriptor yX12_taken.desc).map (fun d => d.parameters.length) = some 3 := by decide +kernel
theorem pf_X12_taken : plainFor yX12_taken = true := plainFor_of_name (by decide)
theorem wi_X12_taken : Cond.instanceMethod yX12_taken ∈ lwg := lwg_at 1353 (by decide +kernel) rfl
theorem ws_X12_taken : Cond.selects RX12 yX12_taken yX12_taken ∈ lwg := lwg_at 1354 (by decide +kernel) rfl
theorem cw_X12_trip : cwO mX12_trip ∈ lwg := lwg_at 1187 (by decide +kernel) rfl
theorem nd_X12_trip : yX12_trip.cls ≠ "java/lang/invoke/MethodHandle" ∧ yX12_trip.cls ≠ "java/lang/invoke/VarHandle" ∧ (parseMethodDescriptor yX12_trip.desc).map (fun d => d.parameters.length) = some 3 := by decide +kernel
theorem pf_X12_trip : plainFor yX12_trip = true := plainFor_of_name (by decide)
theorem wi_X12_trip : Cond.instanceMethod yX12_trip ∈ lwg := lwg_at 1185 (by decide +kernel) rfl
theorem ws_X12_trip : Cond.selects RX12 yX12_trip yX12_trip ∈ lwg := lwg_at 1186 (by decide +kernel) rfl
theorem cw_X12_walk : cwO mX12_walk ∈ lwg := lwg_at 1211 (by decide +kernel) rfl
theorem nd_X12_walk : yX12_walk.cls ≠ "java/lang/invoke/MethodHandle" ∧ yX12_walk.cls ≠ "java/lang/invoke/VarHandle" ∧ (parseMethodDescriptor yX12_walk.desc).map (fun d => d.parameters.length) = some 3 := by decide +kernel
theorem pf_X12_walk : plainFor yX12_walk = true := plainFor_of_name (by decide)
theorem wi_X12_walk : Cond.instanceMethod yX12_walk ∈ lwg := lwg_at 1209 (by decide +kernel) rfl
theorem ws_X12_walk : Cond.selects RX12 yX12_walk yX12_walk ∈ lwg := lwg_at 1210 (by decide +kernel) rfl
theorem cw_X12_walkAhead : cwO mX12_walkAhead ∈ lwg := lwg_at 1302 (by decide +kernel) rfl
theorem nd_X12_walkAhead : yX12_walkAhead.cls ≠ "java/lang/invoke/MethodHandle" ∧ yX12_walkAhead.cls ≠ "java/lang/invoke/VarHandle" ∧ (parseMethodDescriptor yX12_walkAhead.desc).map (fun d => d.parameters.length) = some 5 := by decide +kernel
theorem pf_X12_walkAhead : plainFor yX12_walkAhead = true := plainFor_of_name (by decide)
theorem wi_X12_walkAhead : Cond.instanceMethod yX12_walkAhead ∈ lwg := lwg_at 1301 (by decide +kernel) rfl
theorem ws_X12_walkAhead : Cond.selects RX12 yX12_walkAhead yX12_walkAhead ∈ lwg := lwg_at 47 (by decide +kernel) rfl
theorem cw_X12_way : cwO mX12_way ∈ lwg := lwg_at 1322 (by decide +kernel) rfl
theorem nd_X12_way : yX12_way.cls ≠ "java/lang/invoke/MethodHandle" ∧ yX12_way.cls ≠ "java/lang/invoke/VarHandle" ∧ (parseMethodDescriptor yX12_way.desc).map (fun d => d.parameters.length) = some 2 := by decide +kernel
theorem pf_X12_way : plainFor yX12_way = true := plainFor_of_name (by decide)
theorem wi_X12_way : Cond.instanceMethod yX12_way ∈ lwg := lwg_at 1320 (by decide +kernel) rfl
theorem ws_X12_way : Cond.selects RX12 yX12_way yX12_way ∈ lwg := lwg_at 1321 (by decide +kernel) rfl
theorem cw_X12_ways : cwO mX12_ways ∈ lwg := lwg_at 1239 (by decide +kernel) rfl
theorem nd_X12_ways : yX12_ways.cls ≠ "java/lang/invoke/MethodHandle" ∧ yX12_ways.cls ≠ "java/lang/invoke/VarHandle" ∧ (parseMethodDescriptor yX12_ways.desc).map (fun d => d.parameters.length) = some 4 := by decide +kernel
theorem pf_X12_ways : plainFor yX12_ways = true := plainFor_of_name (by decide)
theorem wi_X12_ways : Cond.instanceMethod yX12_ways ∈ lwg := lwg_at 1237 (by decide +kernel) rfl
theorem ws_X12_ways : Cond.selects RX12 yX12_ways yX12_ways ∈ lwg := lwg_at 1238 (by decide +kernel) rfl
theorem cw_X1_sum : cwO mX1_sum ∈ lwg := lwg_at 622 (by decide +kernel) rfl
theorem nd_X1_sum : yX1_sum.cls ≠ "java/lang/invoke/MethodHandle" ∧ yX1_sum.cls ≠ "java/lang/invoke/VarHandle" ∧ (parseMethodDescriptor yX1_sum.desc).map (fun d => d.parameters.length) = some 3 := by decide +kernel
theorem pf_X1_sum : plainFor yX1_sum = true := plainFor_of_name (by decide)
theorem wi_X1_sum : Cond.instanceMethod yX1_sum ∈ lwg := lwg_at 620 (by decide +kernel) rfl
theorem ws_X1_sum : Cond.selects RX1 yX1_sum yX1_sum ∈ lwg := lwg_at 621 (by decide +kernel) rfl
theorem cw_X1_tell : cwO mX1_tell ∈ lwg := lwg_at 618 (by decide +kernel) rfl
theorem nd_X1_tell : yX1_tell.cls ≠ "java/lang/invoke/MethodHandle" ∧ yX1_tell.cls ≠ "java/lang/invoke/VarHandle" ∧ (parseMethodDescriptor yX1_tell.desc).map (fun d => d.parameters.length) = some 4 := by decide +kernel
theorem pf_X1_tell : plainFor yX1_tell = true := plainFor_of_name (by decide)
theorem wi_X1_tell : Cond.instanceMethod yX1_tell ∈ lwg := lwg_at 616 (by decide +kernel) rfl
theorem ws_X1_tell : Cond.selects RX1 yX1_tell yX1_tell ∈ lwg := lwg_at 617 (by decide +kernel) rfl
theorem cw_X2_callsInTime : cwO mX2_callsInTime ∈ lwg := lwg_at 779 (by decide +kernel) rfl
theorem nd_X2_callsInTime : yX2_callsInTime.cls ≠ "java/lang/invoke/MethodHandle" ∧ yX2_callsInTime.cls ≠ "java/lang/invoke/VarHandle" ∧ (parseMethodDescriptor yX2_callsInTime.desc).map (fun d => d.parameters.length) = some 5 := by decide +kernel
theorem pf_X2_callsInTime : plainFor yX2_callsInTime = true := plainFor_of_name (by decide)
theorem wi_X2_callsInTime : Cond.instanceMethod yX2_callsInTime ∈ lwg := lwg_at 778 (by decide +kernel) rfl
theorem ws_X2_callsInTime : Cond.selects RX2 yX2_callsInTime yX2_callsInTime ∈ lwg := lwg_at 15 (by decide +kernel) rfl
theorem cw_X2_canGetOn : cwO mX2_canGetOn ∈ lwg := lwg_at 788 (by decide +kernel) rfl
theorem nd_X2_canGetOn : yX2_canGetOn.cls ≠ "java/lang/invoke/MethodHandle" ∧ yX2_canGetOn.cls ≠ "java/lang/invoke/VarHandle" ∧ (parseMethodDescriptor yX2_canGetOn.desc).map (fun d => d.parameters.length) = some 5 := by decide +kernel
theorem pf_X2_canGetOn : plainFor yX2_canGetOn = true := plainFor_of_name (by decide)
theorem wi_X2_canGetOn : Cond.instanceMethod yX2_canGetOn ∈ lwg := lwg_at 787 (by decide +kernel) rfl
theorem ws_X2_canGetOn : Cond.selects RX2 yX2_canGetOn yX2_canGetOn ∈ lwg := lwg_at 17 (by decide +kernel) rfl
theorem cw_X2_collect : cwO mX2_collect ∈ lwg := lwg_at 728 (by decide +kernel) rfl
theorem nd_X2_collect : yX2_collect.cls ≠ "java/lang/invoke/MethodHandle" ∧ yX2_collect.cls ≠ "java/lang/invoke/VarHandle" ∧ (parseMethodDescriptor yX2_collect.desc).map (fun d => d.parameters.length) = some 1 := by decide +kernel
theorem pf_X2_collect : plainFor yX2_collect = true := plainFor_of_name (by decide)
theorem wi_X2_collect : Cond.instanceMethod yX2_collect ∈ lwg := lwg_at 726 (by decide +kernel) rfl
theorem ws_X2_collect : Cond.selects RX2 yX2_collect yX2_collect ∈ lwg := lwg_at 727 (by decide +kernel) rfl
theorem cw_X2_firstOff : cwO mX2_firstOff ∈ lwg := lwg_at 784 (by decide +kernel) rfl
theorem nd_X2_firstOff : yX2_firstOff.cls ≠ "java/lang/invoke/MethodHandle" ∧ yX2_firstOff.cls ≠ "java/lang/invoke/VarHandle" ∧ (parseMethodDescriptor yX2_firstOff.desc).map (fun d => d.parameters.length) = some 3 := by decide +kernel
theorem pf_X2_firstOff : plainFor yX2_firstOff = true := plainFor_of_name (by decide)
theorem wi_X2_firstOff : Cond.instanceMethod yX2_firstOff ∈ lwg := lwg_at 783 (by decide +kernel) rfl
theorem ws_X2_firstOff : Cond.selects RX2 yX2_firstOff yX2_firstOff ∈ lwg := lwg_at 16 (by decide +kernel) rfl
theorem cw_X2_has : cwO mX2_has ∈ lwg := lwg_at 821 (by decide +kernel) rfl
theorem nd_X2_has : yX2_has.cls ≠ "java/lang/invoke/MethodHandle" ∧ yX2_has.cls ≠ "java/lang/invoke/VarHandle" ∧ (parseMethodDescriptor yX2_has.desc).map (fun d => d.parameters.length) = some 1 := by decide +kernel
theorem pf_X2_has : plainFor yX2_has = true := plainFor_of_name (by decide)
theorem wi_X2_has : Cond.instanceMethod yX2_has ∈ lwg := lwg_at 819 (by decide +kernel) rfl
theorem ws_X2_has : Cond.selects RX2 yX2_has yX2_has ∈ lwg := lwg_at 820 (by decide +kernel) rfl
theorem cw_X2_hasLeg : cwO mX2_hasLeg ∈ lwg := lwg_at 833 (by decide +kernel) rfl
theorem nd_X2_hasLeg : yX2_hasLeg.cls ≠ "java/lang/invoke/MethodHandle" ∧ yX2_hasLeg.cls ≠ "java/lang/invoke/VarHandle" ∧ (parseMethodDescriptor yX2_hasLeg.desc).map (fun d => d.parameters.length) = some 2 := by decide +kernel
theorem pf_X2_hasLeg : plainFor yX2_hasLeg = true := plainFor_of_name (by decide)
theorem wi_X2_hasLeg : Cond.instanceMethod yX2_hasLeg ∈ lwg := lwg_at 831 (by decide +kernel) rfl
theorem ws_X2_hasLeg : Cond.selects RX2 yX2_hasLeg yX2_hasLeg ∈ lwg := lwg_at 832 (by decide +kernel) rfl
theorem cw_X2_isUnbeaten : cwO mX2_isUnbeaten ∈ lwg := lwg_at 752 (by decide +kernel) rfl
theorem nd_X2_isUnbeaten : yX2_isUnbeaten.cls ≠ "java/lang/invoke/MethodHandle" ∧ yX2_isUnbeaten.cls ≠ "java/lang/invoke/VarHandle" ∧ (parseMethodDescriptor yX2_isUnbeaten.desc).map (fun d => d.parameters.length) = some 2 := by decide +kernel
theorem pf_X2_isUnbeaten : plainFor yX2_isUnbeaten = true := plainFor_of_name (by decide)
theorem wi_X2_isUnbeaten : Cond.instanceMethod yX2_isUnbeaten ∈ lwg := lwg_at 751 (by decide +kernel) rfl
theorem ws_X2_isUnbeaten : Cond.selects RX2 yX2_isUnbeaten yX2_isUnbeaten ∈ lwg := lwg_at 11 (by decide +kernel) rfl
theorem cw_X2_leastRide : cwO mX2_leastRide ∈ lwg := lwg_at 775 (by decide +kernel) rfl
theorem nd_X2_leastRide : yX2_leastRide.cls ≠ "java/lang/invoke/MethodHandle" ∧ yX2_leastRide.cls ≠ "java/lang/invoke/VarHandle" ∧ (parseMethodDescriptor yX2_leastRide.desc).map (fun d => d.parameters.length) = some 6 := by decide +kernel
theorem pf_X2_leastRide : plainFor yX2_leastRide = true := plainFor_of_name (by decide)
theorem wi_X2_leastRide : Cond.instanceMethod yX2_leastRide ∈ lwg := lwg_at 774 (by decide +kernel) rfl
theorem ws_X2_leastRide : Cond.selects RX2 yX2_leastRide yX2_leastRide ∈ lwg := lwg_at 14 (by decide +kernel) rfl
theorem cw_X2_leastWalk : cwO mX2_leastWalk ∈ lwg := lwg_at 769 (by decide +kernel) rfl
theorem nd_X2_leastWalk : yX2_leastWalk.cls ≠ "java/lang/invoke/MethodHandle" ∧ yX2_leastWalk.cls ≠ "java/lang/invoke/VarHandle" ∧ (parseMethodDescriptor yX2_leastWalk.desc).map (fun d => d.parameters.length) = some 5 := by decide +kernel
theorem pf_X2_leastWalk : plainFor yX2_leastWalk = true := plainFor_of_name (by decide)
theorem wi_X2_leastWalk : Cond.instanceMethod yX2_leastWalk ∈ lwg := lwg_at 768 (by decide +kernel) rfl
theorem ws_X2_leastWalk : Cond.selects RX2 yX2_leastWalk yX2_leastWalk ∈ lwg := lwg_at 13 (by decide +kernel) rfl
theorem cw_X2_ofLeg : cwO mX2_ofLeg ∈ lwg := lwg_at 813 (by decide +kernel) rfl
theorem nd_X2_ofLeg : yX2_ofLeg.cls ≠ "java/lang/invoke/MethodHandle" ∧ yX2_ofLeg.cls ≠ "java/lang/invoke/VarHandle" ∧ (parseMethodDescriptor yX2_ofLeg.desc).map (fun d => d.parameters.length) = some 3 := by decide +kernel
theorem pf_X2_ofLeg : plainFor yX2_ofLeg = true := plainFor_of_name (by decide)
theorem wi_X2_ofLeg : Cond.instanceMethod yX2_ofLeg ∈ lwg := lwg_at 811 (by decide +kernel) rfl
theorem ws_X2_ofLeg : Cond.selects RX2 yX2_ofLeg yX2_ofLeg ∈ lwg := lwg_at 812 (by decide +kernel) rfl
theorem cw_X2_ofWay : cwO mX2_ofWay ∈ lwg := lwg_at 825 (by decide +kernel) rfl
theorem nd_X2_ofWay : yX2_ofWay.cls ≠ "java/lang/invoke/MethodHandle" ∧ yX2_ofWay.cls ≠ "java/lang/invoke/VarHandle" ∧ (parseMethodDescriptor yX2_ofWay.desc).map (fun d => d.parameters.length) = some 2 := by decide +kernel
theorem pf_X2_ofWay : plainFor yX2_ofWay = true := plainFor_of_name (by decide)
theorem wi_X2_ofWay : Cond.instanceMethod yX2_ofWay ∈ lwg := lwg_at 823 (by decide +kernel) rfl
theorem ws_X2_ofWay : Cond.selects RX2 yX2_ofWay yX2_ofWay ∈ lwg := lwg_at 824 (by decide +kernel) rfl
theorem cw_X2_ridesOver : cwO mX2_ridesOver ∈ lwg := lwg_at 862 (by decide +kernel) rfl
theorem nd_X2_ridesOver : yX2_ridesOver.cls ≠ "java/lang/invoke/MethodHandle" ∧ yX2_ridesOver.cls ≠ "java/lang/invoke/VarHandle" ∧ (parseMethodDescriptor yX2_ridesOver.desc).map (fun d => d.parameters.length) = some 4 := by decide +kernel
theorem pf_X2_ridesOver : plainFor yX2_ridesOver = true := plainFor_of_name (by decide)
theorem wi_X2_ridesOver : Cond.instanceMethod yX2_ridesOver ∈ lwg := lwg_at 860 (by decide +kernel) rfl
theorem ws_X2_ridesOver : Cond.selects RX2 yX2_ridesOver yX2_ridesOver ∈ lwg := lwg_at 861 (by decide +kernel) rfl
theorem cw_X2_trace : cwO mX2_trace ∈ lwg := lwg_at 765 (by decide +kernel) rfl
theorem nd_X2_trace : yX2_trace.cls ≠ "java/lang/invoke/MethodHandle" ∧ yX2_trace.cls ≠ "java/lang/invoke/VarHandle" ∧ (parseMethodDescriptor yX2_trace.desc).map (fun d => d.parameters.length) = some 4 := by decide +kernel
theorem pf_X2_trace : plainFor yX2_trace = true := plainFor_of_name (by decide)
theorem wi_X2_trace : Cond.instanceMethod yX2_trace ∈ lwg := lwg_at 764 (by decide +kernel) rfl
theorem ws_X2_trace : Cond.selects RX2 yX2_trace yX2_trace ∈ lwg := lwg_at 12 (by decide +kernel) rfl
theorem cw_X2_write : cwO mX2_write ∈ lwg := lwg_at 800 (by decide +kernel) rfl
theorem nd_X2_write : yX2_write.cls ≠ "java/lang/invoke/MethodHandle" ∧ yX2_write.cls ≠ "java/lang/invoke/VarHandle" ∧ (parseMethodDescriptor yX2_write.desc).map (fun d => d.parameters.length) = some 3 := by decide +kernel
theorem pf_X2_write : plainFor yX2_write = true := plainFor_of_name (by decide)
theorem wi_X2_write : Cond.instanceMethod yX2_write ∈ lwg := lwg_at 799 (by decide +kernel) rfl
theorem ws_X2_write : Cond.selects RX2 yX2_write yX2_write ∈ lwg := lwg_at 18 (by decide +kernel) rfl
theorem cw_X2_writeRide : cwO mX2_writeRide ∈ lwg := lwg_at 804 (by decide +kernel) rfl
theorem nd_X2_writeRide : yX2_writeRide.cls ≠ "java/lang/invoke/MethodHandle" ∧ yX2_writeRide.cls ≠ "java/lang/invoke/VarHandle" ∧ (parseMethodDescriptor yX2_writeRide.desc).map (fun d => d.parameters.length) = some 4 := by decide +kernel
theorem pf_X2_writeRide : plainFor yX2_writeRide = true := plainFor_of_name (by decide)
theorem wi_X2_writeRide : Cond.instanceMethod yX2_writeRide ∈ lwg := lwg_at 803 (by decide +kernel) rfl
theorem ws_X2_writeRide : Cond.selects RX2 yX2_writeRide yX2_writeRide ∈ lwg := lwg_at 19 (by decide +kernel) rfl
theorem cw_X2_writeWalk : cwO mX2_writeWalk ∈ lwg := lwg_at 808 (by decide +kernel) rfl
theorem nd_X2_writeWalk : yX2_writeWalk.cls ≠ "java/lang/invoke/MethodHandle" ∧ yX2_writeWalk.cls ≠ "java/lang/invoke/VarHandle" ∧ (parseMethodDescriptor yX2_writeWalk.desc).map (fun d => d.parameters.length) = some 3 := by decide +kernel
theorem pf_X2_writeWalk : plainFor yX2_writeWalk = true := plainFor_of_name (by decide)
theorem wi_X2_writeWalk : Cond.instanceMethod yX2_writeWalk ∈ lwg := lwg_at 807 (by decide +kernel) rfl
theorem ws_X2_writeWalk : Cond.selects RX2 yX2_writeWalk yX2_writeWalk ∈ lwg := lwg_at 20 (by decide +kernel) rfl
theorem cw_X3_at : cwO mX3_at ∈ lwg := lwg_at 858 (by decide +kernel) rfl
theorem nd_X3_at : yX3_at.cls ≠ "java/lang/invoke/MethodHandle" ∧ yX3_at.cls ≠ "java/lang/invoke/VarHandle" ∧ (parseMethodDescriptor yX3_at.desc).map (fun d => d.parameters.length) = some 3 := by decide +kernel
theorem pf_X3_at : plainFor yX3_at = true := plainFor_of_name (by decide)
theorem wi_X3_at : Cond.instanceMethod yX3_at ∈ lwg := lwg_at 856 (by decide +kernel) rfl
theorem ws_X3_at : Cond.selects RX3 yX3_at yX3_at ∈ lwg := lwg_at 857 (by decide +kernel) rfl
theorem cw_X3_change : cwO mX3_change ∈ lwg := lwg_at 870 (by decide +kernel) rfl
theorem nd_X3_change : yX3_change.cls ≠ "java/lang/invoke/MethodHandle" ∧ yX3_change.cls ≠ "java/lang/invoke/VarHandle" ∧ (parseMethodDescriptor yX3_change.desc).map (fun d => d.parameters.length) = some 5 := by decide +kernel
theorem pf_X3_change : plainFor yX3_change = true := plainFor_of_name (by decide)
theorem wi_X3_change : Cond.instanceMethod yX3_change ∈ lwg := lwg_at 868 (by decide +kernel) rfl
theorem ws_X3_change : Cond.selects RX3 yX3_change yX3_change ∈ lwg := lwg_at 869 (by decide +kernel) rfl
theorem cw_X3_full : cwO mX3_full ∈ lwg := lwg_at 661 (by decide +kernel) rfl
theorem nd_X3_full : yX3_full.cls ≠ "java/lang/invoke/MethodHandle" ∧ yX3_full.cls ≠ "java/lang/invoke/VarHandle" ∧ (parseMethodDescriptor yX3_full.desc).map (fun d => d.parameters.length) = some 3 := by decide +kernel
theorem pf_X3_full : plainFor yX3_full = true := plainFor_of_name (by decide)
theorem wi_X3_full : Cond.instanceMethod yX3_full ∈ lwg := lwg_at 659 (by decide +kernel) rfl
theorem ws_X3_full : Cond.selects RX3 yX3_full yX3_full ∈ lwg := lwg_at 660 (by decide +kernel) rfl
theorem cw_X3_newRow : cwO mX3_newRow ∈ lwg := lwg_at 874 (by decide +kernel) rfl
theorem nd_X3_newRow : yX3_newRow.cls ≠ "java/lang/invoke/MethodHandle" ∧ yX3_newRow.cls ≠ "java/lang/invoke/VarHandle" ∧ (parseMethodDescriptor yX3_newRow.desc).map (fun d => d.parameters.length) = some 2 := by decide +kernel
theorem pf_X3_newRow : plainFor yX3_newRow = true := plainFor_of_name (by decide)
theorem wi_X3_newRow : Cond.instanceMethod yX3_newRow ∈ lwg := lwg_at 873 (by decide +kernel) rfl
theorem ws_X3_newRow : Cond.selects RX3 yX3_newRow yX3_newRow ∈ lwg := lwg_at 24 (by decide +kernel) rfl
theorem cw_X3_rowOf : cwO mX3_rowOf ∈ lwg := lwg_at 665 (by decide +kernel) rfl
theorem nd_X3_rowOf : yX3_rowOf.cls ≠ "java/lang/invoke/MethodHandle" ∧ yX3_rowOf.cls ≠ "java/lang/invoke/VarHandle" ∧ (parseMethodDescriptor yX3_rowOf.desc).map (fun d => d.parameters.length) = some 2 := by decide +kernel
theorem pf_X3_rowOf : plainFor yX3_rowOf = true := plainFor_of_name (by decide)
theorem wi_X3_rowOf : Cond.instanceMethod yX3_rowOf ∈ lwg := lwg_at 664 (by decide +kernel) rfl
theorem ws_X3_rowOf : Cond.selects RX3 yX3_rowOf yX3_rowOf ∈ lwg := lwg_at 2 (by decide +kernel) rfl
theorem cw_X4_gather : cwO mX4_gather ∈ lwg := lwg_at 638 (by decide +kernel) rfl
theorem nd_X4_gather : yX4_gather.cls ≠ "java/lang/invoke/MethodHandle" ∧ yX4_gather.cls ≠ "java/lang/invoke/VarHandle" ∧ (parseMethodDescriptor yX4_gather.desc).map (fun d => d.parameters.length) = some 2 := by decide +kernel
theorem pf_X4_gather : plainFor yX4_gather = true := plainFor_of_name (by decide)
theorem wi_X4_gather : Cond.instanceMethod yX4_gather ∈ lwg := lwg_at 636 (by decide +kernel) rfl
theorem ws_X4_gather : Cond.selects RX4 yX4_gather yX4_gather ∈ lwg := lwg_at 637 (by decide +kernel) rfl
theorem cw_X4_gatherRun : cwO mX4_gatherRun ∈ lwg := lwg_at 653 (by decide +kernel) rfl
theorem nd_X4_gatherRun : yX4_gatherRun.cls ≠ "java/lang/invoke/MethodHandle" ∧ yX4_gatherRun.cls ≠ "java/lang/invoke/VarHandle" ∧ (parseMethodDescriptor yX4_gatherRun.desc).map (fun d => d.parameters.length) = some 3 := by decide +kernel
theorem pf_X4_gatherRun : plainFor yX4_gatherRun = true := plainFor_of_name (by decide)
theorem wi_X4_gatherRun : Cond.instanceMethod yX4_gatherRun ∈ lwg := lwg_at 652 (by decide +kernel) rfl
theorem ws_X4_gatherRun : Cond.selects RX4 yX4_gatherRun yX4_gatherRun ∈ lwg := lwg_at 0 (by decide +kernel) rfl
theorem cw_X4_setTimes : cwO mX4_setTimes ∈ lwg := lwg_at 657 (by decide +kernel) rfl
theorem nd_X4_setTimes : yX4_setTimes.cls ≠ "java/lang/invoke/MethodHandle" ∧ yX4_setTimes.cls ≠ "java/lang/invoke/VarHandle" ∧ (parseMethodDescriptor yX4_setTimes.desc).map (fun d => d.parameters.length) = some 3 := by decide +kernel
theorem pf_X4_setTimes : plainFor yX4_setTimes = true := plainFor_of_name (by decide)
theorem wi_X4_setTimes : Cond.instanceMethod yX4_setTimes ∈ lwg := lwg_at 656 (by decide +kernel) rfl
theorem ws_X4_setTimes : Cond.selects RX4 yX4_setTimes yX4_setTimes ∈ lwg := lwg_at 1 (by decide +kernel) rfl
theorem cw_X5_arrival : cwO mX5_arrival ∈ lwg := lwg_at 739 (by decide +kernel) rfl
theorem nd_X5_arrival : yX5_arrival.cls ≠ "java/lang/invoke/MethodHandle" ∧ yX5_arrival.cls ≠ "java/lang/invoke/VarHandle" ∧ (parseMethodDescriptor yX5_arrival.desc).map (fun d => d.parameters.length) = some 3 := by decide +kernel
theorem pf_X5_arrival : plainFor yX5_arrival = true := plainFor_of_name (by decide)
theorem wi_X5_arrival : Cond.instanceMethod yX5_arrival ∈ lwg := lwg_at 737 (by decide +kernel) rfl
theorem ws_X5_arrival : Cond.selects RX5 yX5_arrival yX5_arrival ∈ lwg := lwg_at 738 (by decide +kernel) rfl
theorem cw_X5_ask : cwO mX5_ask ∈ lwg := lwg_at 674 (by decide +kernel) rfl
theorem nd_X5_ask : yX5_ask.cls ≠ "java/lang/invoke/MethodHandle" ∧ yX5_ask.cls ≠ "java/lang/invoke/VarHandle" ∧ (parseMethodDescriptor yX5_ask.desc).map (fun d => d.parameters.length) = some 3 := by decide +kernel
theorem pf_X5_ask : plainFor yX5_ask = true := plainFor_of_name (by decide)
theorem wi_X5_ask : Cond.instanceMethod yX5_ask ∈ lwg := lwg_at 672 (by decide +kernel) rfl
theorem ws_X5_ask : Cond.selects RX5 yX5_ask yX5_ask ∈ lwg := lwg_at 673 (by decide +kernel) rfl
theorem cw_X5_askSoonest : cwO mX5_askSoonest ∈ lwg := lwg_at 932 (by decide +kernel) rfl
theorem nd_X5_askSoonest : yX5_askSoonest.cls ≠ "java/lang/invoke/MethodHandle" ∧ yX5_askSoonest.cls ≠ "java/lang/invoke/VarHandle" ∧ (parseMethodDescriptor yX5_askSoonest.desc).map (fun d => d.parameters.length) = some 2 := by decide +kernel
theorem pf_X5_askSoonest : plainFor yX5_askSoonest = true := plainFor_of_name (by decide)
theorem wi_X5_askSoonest : Cond.instanceMethod yX5_askSoonest ∈ lwg := lwg_at 930 (by decide +kernel) rfl
theorem ws_X5_askSoonest : Cond.selects RX5 yX5_askSoonest yX5_askSoonest ∈ lwg := lwg_at 931 (by decide +kernel) rfl
theorem cw_X5_canCost : cwO mX5_canCost ∈ lwg := lwg_at 747 (by decide +kernel) rfl
theorem nd_X5_canCost : yX5_canCost.cls ≠ "java/lang/invoke/MethodHandle" ∧ yX5_canCost.cls ≠ "java/lang/invoke/VarHandle" ∧ (parseMethodDescriptor yX5_canCost.desc).map (fun d => d.parameters.length) = some 2 := by decide +kernel
theorem pf_X5_canCost : plainFor yX5_canCost = true := plainFor_of_name (by decide)
theorem wi_X5_canCost : Cond.instanceMethod yX5_canCost ∈ lwg := lwg_at 746 (by decide +kernel) rfl
theorem ws_X5_canCost : Cond.selects RX5 yX5_canCost yX5_canCost ∈ lwg := lwg_at 10 (by decide +kernel) rfl
theorem cw_X5_endedAt : cwO mX5_endedAt ∈ lwg := lwg_at 743 (by decide +kernel) rfl
theorem nd_X5_endedAt : yX5_endedAt.cls ≠ "java/lang/invoke/MethodHandle" ∧ yX5_endedAt.cls ≠ "java/lang/invoke/VarHandle" ∧ (parseMethodDescriptor yX5_endedAt.desc).map (fun d => d.parameters.length) = some 3 := by decide +kernel
theorem pf_X5_endedAt : plainFor yX5_endedAt = true := plainFor_of_name (by decide)
theorem wi_X5_endedAt : Cond.instanceMethod yX5_endedAt ∈ lwg := lwg_at 741 (by decide +kernel) rfl
theorem ws_X5_endedAt : Cond.selects RX5 yX5_endedAt yX5_endedAt ∈ lwg := lwg_at 742 (by decide +kernel) rfl
theorem cw_X5_faresTo : cwO mX5_faresTo ∈ lwg := lwg_at 720 (by decide +kernel) rfl
theorem nd_X5_faresTo : yX5_faresTo.cls ≠ "java/lang/invoke/MethodHandle" ∧ yX5_faresTo.cls ≠ "java/lang/invoke/VarHandle" ∧ (parseMethodDescriptor yX5_faresTo.desc).map (fun d => d.parameters.length) = some 1 := by decide +kernel
theorem pf_X5_faresTo : plainFor yX5_faresTo = true := plainFor_of_name (by decide)
theorem wi_X5_faresTo : Cond.instanceMethod yX5_faresTo ∈ lwg := lwg_at 719 (by decide +kernel) rfl
theorem ws_X5_faresTo : Cond.selects RX5 yX5_faresTo yX5_faresTo ∈ lwg := lwg_at 8 (by decide +kernel) rfl
theorem cw_X5_getOff : cwO mX5_getOff ∈ lwg := lwg_at 716 (by decide +kernel) rfl
theorem nd_X5_getOff : yX5_getOff.cls ≠ "java/lang/invoke/MethodHandle" ∧ yX5_getOff.cls ≠ "java/lang/invoke/VarHandle" ∧ (parseMethodDescriptor yX5_getOff.desc).map (fun d => d.parameters.length) = some 3 := by decide +kernel
theorem pf_X5_getOff : plainFor yX5_getOff = true := plainFor_of_name (by decide)
theorem wi_X5_getOff : Cond.instanceMethod yX5_getOff ∈ lwg := lwg_at 715 (by decide +kernel) rfl
theorem ws_X5_getOff : Cond.selects RX5 yX5_getOff yX5_getOff ∈ lwg := lwg_at 7 (by decide +kernel) rfl
theorem cw_X5_getOn : cwO mX5_getOn ∈ lwg := lwg_at 724 (by decide +kernel) rfl
theorem nd_X5_getOn : yX5_getOn.cls ≠ "java/lang/invoke/MethodHandle" ∧ yX5_getOn.cls ≠ "java/lang/invoke/VarHandle" ∧ (parseMethodDescriptor yX5_getOn.desc).map (fun d => d.parameters.length) = some 3 := by decide +kernel
theorem pf_X5_getOn : plainFor yX5_getOn = true := plainFor_of_name (by decide)
theorem wi_X5_getOn : Cond.instanceMethod yX5_getOn ∈ lwg := lwg_at 723 (by decide +kernel) rfl
theorem ws_X5_getOn : Cond.selects RX5 yX5_getOn yX5_getOn ∈ lwg := lwg_at 9 (by decide +kernel) rfl
theorem cw_X5_getReady : cwO mX5_getReady ∈ lwg := lwg_at 682 (by decide +kernel) rfl
theorem nd_X5_getReady : yX5_getReady.cls ≠ "java/lang/invoke/MethodHandle" ∧ yX5_getReady.cls ≠ "java/lang/invoke/VarHandle" ∧ (parseMethodDescriptor yX5_getReady.desc).map (fun d => d.parameters.length) = some 1 := by decide +kernel
theorem pf_X5_getReady : plainFor yX5_getReady = true := plainFor_of_name (by decide)
theorem wi_X5_getReady : Cond.instanceMethod yX5_getReady ∈ lwg := lwg_at 681 (by decide +kernel) rfl
theorem ws_X5_getReady : Cond.selects RX5 yX5_getReady yX5_getReady ∈ lwg := lwg_at 3 (by decide +kernel) rfl
theorem cw_X5_mostFare : cwO mX5_mostFare ∈ lwg := lwg_at 686 (by decide +kernel) rfl
theorem nd_X5_mostFare : yX5_mostFare.cls ≠ "java/lang/invoke/MethodHandle" ∧ yX5_mostFare.cls ≠ "java/lang/invoke/VarHandle" ∧ (parseMethodDescriptor yX5_mostFare.desc).map (fun d => d.parameters.length) = some 1 := by decide +kernel
theorem pf_X5_mostFare : plainFor yX5_mostFare = true := plainFor_of_name (by decide)
theorem wi_X5_mostFare : Cond.instanceMethod yX5_mostFare ∈ lwg := lwg_at 684 (by decide +kernel) rfl
theorem ws_X5_mostFare : Cond.selects RX5 yX5_mostFare yX5_mostFare ∈ lwg := lwg_at 685 (by decide +kernel) rfl
theorem cw_X5_readyAt : cwO mX5_readyAt ∈ lwg := lwg_at 796 (by decide +kernel) rfl
theorem nd_X5_readyAt : yX5_readyAt.cls ≠ "java/lang/invoke/MethodHandle" ∧ yX5_readyAt.cls ≠ "java/lang/invoke/VarHandle" ∧ (parseMethodDescriptor yX5_readyAt.desc).map (fun d => d.parameters.length) = some 3 := by decide +kernel
theorem pf_X5_readyAt : plainFor yX5_readyAt = true := plainFor_of_name (by decide)
theorem wi_X5_readyAt : Cond.instanceMethod yX5_readyAt ∈ lwg := lwg_at 794 (by decide +kernel) rfl
theorem ws_X5_readyAt : Cond.selects RX5 yX5_readyAt yX5_readyAt ∈ lwg := lwg_at 795 (by decide +kernel) rfl
theorem cw_X5_ride : cwO mX5_ride ∈ lwg := lwg_at 708 (by decide +kernel) rfl
theorem nd_X5_ride : yX5_ride.cls ≠ "java/lang/invoke/MethodHandle" ∧ yX5_ride.cls ≠ "java/lang/invoke/VarHandle" ∧ (parseMethodDescriptor yX5_ride.desc).map (fun d => d.parameters.length) = some 2 := by decide +kernel
theorem pf_X5_ride : plainFor yX5_ride = true := plainFor_of_name (by decide)
theorem wi_X5_ride : Cond.instanceMethod yX5_ride ∈ lwg := lwg_at 707 (by decide +kernel) rfl
theorem ws_X5_ride : Cond.selects RX5 yX5_ride yX5_ride ∈ lwg := lwg_at 6 (by decide +kernel) rfl
theorem cw_X5_row : cwO mX5_row ∈ lwg := lwg_at 690 (by decide +kernel) rfl
theorem nd_X5_row : yX5_row.cls ≠ "java/lang/invoke/MethodHandle" ∧ yX5_row.cls ≠ "java/lang/invoke/VarHandle" ∧ (parseMethodDescriptor yX5_row.desc).map (fun d => d.parameters.length) = some 2 := by decide +kernel
theorem pf_X5_row : plainFor yX5_row = true := plainFor_of_name (by decide)
theorem wi_X5_row : Cond.instanceMethod yX5_row ∈ lwg := lwg_at 689 (by decide +kernel) rfl
theorem ws_X5_row : Cond.selects RX5 yX5_row yX5_row ∈ lwg := lwg_at 4 (by decide +kernel) rfl
theorem cw_X6_clear : cwO mX6_clear ∈ lwg := lwg_at 732 (by decide +kernel) rfl
theorem nd_X6_clear : yX6_clear.cls ≠ "java/lang/invoke/MethodHandle" ∧ yX6_clear.cls ≠ "java/lang/invoke/VarHandle" ∧ (parseMethodDescriptor yX6_clear.desc).map (fun d => d.parameters.length) = some 0 := by decide +kernel
theorem pf_X6_clear : plainFor yX6_clear = true := plainFor_of_name (by decide)
theorem wi_X6_clear : Cond.instanceMethod yX6_clear ∈ lwg := lwg_at 730 (by decide +kernel) rfl
theorem ws_X6_clear : Cond.selects RX6 yX6_clear yX6_clear ∈ lwg := lwg_at 731 (by decide +kernel) rfl
theorem cw_X6_get : cwO mX6_get ∈ lwg := lwg_at 761 (by decide +kernel) rfl
theorem nd_X6_get : yX6_get.cls ≠ "java/lang/invoke/MethodHandle" ∧ yX6_get.cls ≠ "java/lang/invoke/VarHandle" ∧ (parseMethodDescriptor yX6_get.desc).map (fun d => d.parameters.length) = some 1 := by decide +kernel
theorem pf_X6_get : plainFor yX6_get = true := plainFor_of_name (by decide)
theorem wi_X6_get : Cond.instanceMethod yX6_get ∈ lwg := lwg_at 759 (by decide +kernel) rfl
theorem ws_X6_get : Cond.selects RX6 yX6_get yX6_get ∈ lwg := lwg_at 760 (by decide +kernel) rfl
theorem cw_X6_insert : cwO mX6_insert ∈ lwg := lwg_at 757 (by decide +kernel) rfl
theorem nd_X6_insert : yX6_insert.cls ≠ "java/lang/invoke/MethodHandle" ∧ yX6_insert.cls ≠ "java/lang/invoke/VarHandle" ∧ (parseMethodDescriptor yX6_insert.desc).map (fun d => d.parameters.length) = some 1 := by decide +kernel
theorem pf_X6_insert : plainFor yX6_insert = true := plainFor_of_name (by decide)
theorem wi_X6_insert : Cond.instanceMethod yX6_insert ∈ lwg := lwg_at 755 (by decide +kernel) rfl
theorem ws_X6_insert : Cond.selects RX6 yX6_insert yX6_insert ∈ lwg := lwg_at 756 (by decide +kernel) rfl
theorem cw_X7_add : cwO mX7_add ∈ lwg := lwg_at 527 (by decide +kernel) rfl
theorem nd_X7_add : yX7_add.cls ≠ "java/lang/invoke/MethodHandle" ∧ yX7_add.cls ≠ "java/lang/invoke/VarHandle" ∧ (parseMethodDescriptor yX7_add.desc).map (fun d => d.parameters.length) = some 2 := by decide +kernel
theorem pf_X7_add : plainFor yX7_add = true := plainFor_of_name (by decide)
theorem wi_X7_add : Cond.instanceMethod yX7_add ∈ lwg := lwg_at 525 (by decide +kernel) rfl
theorem ws_X7_add : Cond.selects RX7 yX7_add yX7_add ∈ lwg := lwg_at 526 (by decide +kernel) rfl
theorem cw_X7_dearest : cwO mX7_dearest ∈ lwg := lwg_at 669 (by decide +kernel) rfl
theorem nd_X7_dearest : yX7_dearest.cls ≠ "java/lang/invoke/MethodHandle" ∧ yX7_dearest.cls ≠ "java/lang/invoke/VarHandle" ∧ (parseMethodDescriptor yX7_dearest.desc).map (fun d => d.parameters.length) = some 0 := by decide +kernel
theorem pf_X7_dearest : plainFor yX7_dearest = true := plainFor_of_name (by decide)
theorem wi_X7_dearest : Cond.instanceMethod yX7_dearest ∈ lwg := lwg_at 667 (by decide +kernel) rfl
theorem ws_X7_dearest : Cond.selects RX7 yX7_dearest yX7_dearest ∈ lwg := lwg_at 668 (by decide +kernel) rfl
theorem cw_X7_has : cwO mX7_has ∈ lwg := lwg_at 562 (by decide +kernel) rfl
theorem nd_X7_has : yX7_has.cls ≠ "java/lang/invoke/MethodHandle" ∧ yX7_has.cls ≠ "java/lang/invoke/VarHandle" ∧ (parseMethodDescriptor yX7_has.desc).map (fun d => d.parameters.length) = some 1 := by decide +kernel
theorem pf_X7_has : plainFor yX7_has = true := plainFor_of_name (by decide)
theorem wi_X7_has : Cond.instanceMethod yX7_has ∈ lwg := lwg_at 560 (by decide +kernel) rfl
theorem ws_X7_has : Cond.selects RX7 yX7_has yX7_has ∈ lwg := lwg_at 561 (by decide +kernel) rfl
theorem cw_X7_price : cwO mX7_price ∈ lwg := lwg_at 535 (by decide +kernel) rfl
theorem nd_X7_price : yX7_price.cls ≠ "java/lang/invoke/MethodHandle" ∧ yX7_price.cls ≠ "java/lang/invoke/VarHandle" ∧ (parseMethodDescriptor yX7_price.desc).map (fun d => d.parameters.length) = some 3 := by decide +kernel
theorem pf_X7_price : plainFor yX7_price = true := plainFor_of_name (by decide)
theorem wi_X7_price : Cond.instanceMethod yX7_price ∈ lwg := lwg_at 533 (by decide +kernel) rfl
theorem ws_X7_price : Cond.selects RX7 yX7_price yX7_price ∈ lwg := lwg_at 534 (by decide +kernel) rfl
theorem cw_X7_priceOfRide : cwO mX7_priceOfRide ∈ lwg := lwg_at 792 (by decide +kernel) rfl
theorem nd_X7_priceOfRide : yX7_priceOfRide.cls ≠ "java/lang/invoke/MethodHandle" ∧ yX7_priceOfRide.cls ≠ "java/lang/invoke/VarHandle" ∧ (parseMethodDescriptor yX7_priceOfRide.desc).map (fun d => d.parameters.length) = some 2 := by decide +kernel
theorem pf_X7_priceOfRide : plainFor yX7_priceOfRide = true := plainFor_of_name (by decide)
theorem wi_X7_priceOfRide : Cond.instanceMethod yX7_priceOfRide ∈ lwg := lwg_at 790 (by decide +kernel) rfl
theorem ws_X7_priceOfRide : Cond.selects RX7 yX7_priceOfRide yX7_priceOfRide ∈ lwg := lwg_at 791 (by decide +kernel) rfl
theorem cw_X8_canRide : cwO mX8_canRide ∈ lwg := lwg_at 903 (by decide +kernel) rfl
theorem nd_X8_canRide : yX8_canRide.cls ≠ "java/lang/invoke/MethodHandle" ∧ yX8_canRide.cls ≠ "java/lang/invoke/VarHandle" ∧ (parseMethodDescriptor yX8_canRide.desc).map (fun d => d.parameters.length) = some 2 := by decide +kernel
theorem pf_X8_canRide : plainFor yX8_canRide = true := plainFor_of_name (by decide)
theorem wi_X8_canRide : Cond.instanceMethod yX8_canRide ∈ lwg := lwg_at 902 (by decide +kernel) rfl
theorem ws_X8_canRide : Cond.selects RX8 yX8_canRide yX8_canRide ∈ lwg := lwg_at 26 (by decide +kernel) rfl
theorem cw_X8_changeAt : cwO mX8_changeAt ∈ lwg := lwg_at 899 (by decide +kernel) rfl
theorem nd_X8_changeAt : yX8_changeAt.cls ≠ "java/lang/invoke/MethodHandle" ∧ yX8_changeAt.cls ≠ "java/lang/invoke/VarHandle" ∧ (parseMethodDescriptor yX8_changeAt.desc).map (fun d => d.parameters.length) = some 1 := by decide +kernel
theorem pf_X8_changeAt : plainFor yX8_changeAt = true := plainFor_of_name (by decide)
theorem wi_X8_changeAt : Cond.instanceMethod yX8_changeAt ∈ lwg := lwg_at 898 (by decide +kernel) rfl
theorem ws_X8_changeAt : Cond.selects RX8 yX8_changeAt yX8_changeAt ∈ lwg := lwg_at 25 (by decide +kernel) rfl
theorem cw_X8_changePlaces : cwO mX8_changePlaces ∈ lwg := lwg_at 866 (by decide +kernel) rfl
theorem nd_X8_changePlaces : yX8_changePlaces.cls ≠ "java/lang/invoke/MethodHandle" ∧ yX8_changePlaces.cls ≠ "java/lang/invoke/VarHandle" ∧ (parseMethodDescriptor yX8_changePlaces.desc).map (fun d => d.parameters.length) = some 2 := by decide +kernel
theorem pf_X8_changePlaces : plainFor yX8_changePlaces = true := plainFor_of_name (by decide)
theorem wi_X8_changePlaces : Cond.instanceMethod yX8_changePlaces ∈ lwg := lwg_at 865 (by decide +kernel) rfl
theorem ws_X8_changePlaces : Cond.selects RX8 yX8_changePlaces yX8_changePlaces ∈ lwg := lwg_at 23 (by decide +kernel) rfl
theorem cw_X8_giveBack : cwO mX8_giveBack ∈ lwg := lwg_at 886 (by decide +kernel) rfl
theorem nd_X8_giveBack : yX8_giveBack.cls ≠ "java/lang/invoke/MethodHandle" ∧ yX8_giveBack.cls ≠ "java/lang/invoke/VarHandle" ∧ (parseMethodDescriptor yX8_giveBack.desc).map (fun d => d.parameters.length) = some 1 := by decide +kernel
theorem pf_X8_giveBack : plainFor yX8_giveBack = true := plainFor_of_name (by decide)
theorem wi_X8_giveBack : Cond.instanceMethod yX8_giveBack ∈ lwg := lwg_at 884 (by decide +kernel) rfl
theorem ws_X8_giveBack : Cond.selects RX8 yX8_giveBack yX8_giveBack ∈ lwg := lwg_at 885 (by decide +kernel) rfl
theorem cw_X8_hasPlaces : cwO mX8_hasPlaces ∈ lwg := lwg_at 848 (by decide +kernel) rfl
theorem nd_X8_hasPlaces : yX8_hasPlaces.cls ≠ "java/lang/invoke/MethodHandle" ∧ yX8_hasPlaces.cls ≠ "java/lang/invoke/VarHandle" ∧ (parseMethodDescriptor yX8_hasPlaces.desc).map (fun d => d.parameters.length) = some 2 := by decide +kernel
theorem pf_X8_hasPlaces : plainFor yX8_hasPlaces = true := plainFor_of_name (by decide)
theorem wi_X8_hasPlaces : Cond.instanceMethod yX8_hasPlaces ∈ lwg := lwg_at 847 (by decide +kernel) rfl
theorem ws_X8_hasPlaces : Cond.selects RX8 yX8_hasPlaces yX8_hasPlaces ∈ lwg := lwg_at 21 (by decide +kernel) rfl
theorem cw_X8_hasPlacesOn : cwO mX8_hasPlacesOn ∈ lwg := lwg_at 854 (by decide +kernel) rfl
theorem nd_X8_hasPlacesOn : yX8_hasPlacesOn.cls ≠ "java/lang/invoke/MethodHandle" ∧ yX8_hasPlacesOn.cls ≠ "java/lang/invoke/VarHandle" ∧ (parseMethodDescriptor yX8_hasPlacesOn.desc).map (fun d => d.parameters.length) = some 3 := by decide +kernel
theorem pf_X8_hasPlacesOn : plainFor yX8_hasPlacesOn = true := plainFor_of_name (by decide)
theorem wi_X8_hasPlacesOn : Cond.instanceMethod yX8_hasPlacesOn ∈ lwg := lwg_at 853 (by decide +kernel) rfl
theorem ws_X8_hasPlacesOn : Cond.selects RX8 yX8_hasPlacesOn yX8_hasPlacesOn ∈ lwg := lwg_at 22 (by decide +kernel) rfl
theorem cw_X8_isOut : cwO mX8_isOut ∈ lwg := lwg_at 882 (by decide +kernel) rfl
theorem nd_X8_isOut : yX8_isOut.cls ≠ "java/lang/invoke/MethodHandle" ∧ yX8_isOut.cls ≠ "java/lang/invoke/VarHandle" ∧ (parseMethodDescriptor yX8_isOut.desc).map (fun d => d.parameters.length) = some 1 := by decide +kernel
theorem pf_X8_isOut : plainFor yX8_isOut = true := plainFor_of_name (by decide)
theorem wi_X8_isOut : Cond.instanceMethod yX8_isOut ∈ lwg := lwg_at 880 (by decide +kernel) rfl
theorem ws_X8_isOut : Cond.selects RX8 yX8_isOut yX8_isOut ∈ lwg := lwg_at 881 (by decide +kernel) rfl
theorem cw_X8_make : cwO mX8_make ∈ lwg := lwg_at 844 (by decide +kernel) rfl
theorem nd_X8_make : yX8_make.cls ≠ "java/lang/invoke/MethodHandle" ∧ yX8_make.cls ≠ "java/lang/invoke/VarHandle" ∧ (parseMethodDescriptor yX8_make.desc).map (fun d => d.parameters.length) = some 2 := by decide +kernel
theorem pf_X8_make : plainFor yX8_make = true := plainFor_of_name (by decide)
theorem wi_X8_make : Cond.instanceMethod yX8_make ∈ lwg := lwg_at 842 (by decide +kernel) rfl
theorem ws_X8_make : Cond.selects RX8 yX8_make yX8_make ∈ lwg := lwg_at 843 (by decide +kernel) rfl
theorem cw_X8_travel : cwO mX8_travel ∈ lwg := lwg_at 894 (by decide +kernel) rfl
theorem nd_X8_travel : yX8_travel.cls ≠ "java/lang/invoke/MethodHandle" ∧ yX8_travel.cls ≠ "java/lang/invoke/VarHandle" ∧ (parseMethodDescriptor yX8_travel.desc).map (fun d => d.parameters.length) = some 1 := by decide +kernel
theorem pf_X8_travel : plainFor yX8_travel = true := plainFor_of_name (by decide)
theorem wi_X8_travel : Cond.instanceMethod yX8_travel ∈ lwg := lwg_at 892 (by decide +kernel) rfl
theorem ws_X8_travel : Cond.selects RX8 yX8_travel yX8_travel ∈ lwg := lwg_at 893 (by decide +kernel) rfl
theorem cw_X9_add : cwO mX9_add ∈ lwg := lwg_at 550 (by decide +kernel) rfl
theorem nd_X9_add : yX9_add.cls ≠ "java/lang/invoke/MethodHandle" ∧ yX9_add.cls ≠ "java/lang/invoke/VarHandle" ∧ (parseMethodDescriptor yX9_add.desc).map (fun d => d.parameters.length) = some 3 := by decide +kernel
theorem pf_X9_add : plainFor yX9_add = true := plainFor_of_name (by decide)
theorem wi_X9_add : Cond.instanceMethod yX9_add ∈ lwg := lwg_at 548 (by decide +kernel) rfl
theorem ws_X9_add : Cond.selects RX9 yX9_add yX9_add ∈ lwg := lwg_at 549 (by decide +kernel) rfl
theorem cw_X9_addCall : cwO mX9_addCall ∈ lwg := lwg_at 566 (by decide +kernel) rfl
theorem nd_X9_addCall : yX9_addCall.cls ≠ "java/lang/invoke/MethodHandle" ∧ yX9_addCall.cls ≠ "java/lang/invoke/VarHandle" ∧ (parseMethodDescriptor yX9_addCall.desc).map (fun d => d.parameters.length) = some 4 := by decide +kernel
theorem pf_X9_addCall : plainFor yX9_addCall = true := plainFor_of_name (by decide)
theorem wi_X9_addCall : Cond.instanceMethod yX9_addCall ∈ lwg := lwg_at 564 (by decide +kernel) rfl
theorem ws_X9_addCall : Cond.selects RX9 yX9_addCall yX9_addCall ∈ lwg := lwg_at 565 (by decide +kernel) rfl
theorem cw_X9_comesAt : cwO mX9_comesAt ∈ lwg := lwg_at 914 (by decide +kernel) rfl
theorem nd_X9_comesAt : yX9_comesAt.cls ≠ "java/lang/invoke/MethodHandle" ∧ yX9_comesAt.cls ≠ "java/lang/invoke/VarHandle" ∧ (parseMethodDescriptor yX9_comesAt.desc).map (fun d => d.parameters.length) = some 3 := by decide +kernel
theorem pf_X9_comesAt : plainFor yX9_comesAt = true := plainFor_of_name (by decide)
theorem wi_X9_comesAt : Cond.instanceMethod yX9_comesAt ∈ lwg := lwg_at 912 (by decide +kernel) rfl
theorem ws_X9_comesAt : Cond.selects RX9 yX9_comesAt yX9_comesAt ∈ lwg := lwg_at 913 (by decide +kernel) rfl
theorem cw_X9_has : cwO mX9_has ∈ lwg := lwg_at 558 (by decide +kernel) rfl
theorem nd_X9_has : yX9_has.cls ≠ "java/lang/invoke/MethodHandle" ∧ yX9_has.cls ≠ "java/lang/invoke/VarHandle" ∧ (parseMethodDescriptor yX9_has.desc).map (fun d => d.parameters.length) = some 1 := by decide +kernel
theorem pf_X9_has : plainFor yX9_has = true := plainFor_of_name (by decide)
theorem wi_X9_has : Cond.instanceMethod yX9_has ∈ lwg := lwg_at 556 (by decide +kernel) rfl
theorem ws_X9_has : Cond.selects RX9 yX9_has yX9_has ∈ lwg := lwg_at 557 (by decide +kernel) rfl
theorem cw_X9_hasCall : cwO mX9_hasCall ∈ lwg := lwg_at 574 (by decide +kernel) rfl
theorem nd_X9_hasCall : yX9_hasCall.cls ≠ "java/lang/invoke/MethodHandle" ∧ yX9_hasCall.cls ≠ "java/lang/invoke/VarHandle" ∧ (parseMethodDescriptor yX9_hasCall.desc).map (fun d => d.parameters.length) = some 2 := by decide +kernel
theorem pf_X9_hasCall : plainFor yX9_hasCall = true := plainFor_of_name (by decide)
theorem wi_X9_hasCall : Cond.instanceMethod yX9_hasCall ∈ lwg := lwg_at 572 (by decide +kernel) rfl
theorem ws_X9_hasCall : Cond.selects RX9 yX9_hasCall yX9_hasCall ∈ lwg := lwg_at 573 (by decide +kernel) rfl
theorem cw_X9_isOpen : cwO mX9_isOpen ∈ lwg := lwg_at 712 (by decide +kernel) rfl
theorem nd_X9_isOpen : yX9_isOpen.cls ≠ "java/lang/invoke/MethodHandle" ∧ yX9_isOpen.cls ≠ "java/lang/invoke/VarHandle" ∧ (parseMethodDescriptor yX9_isOpen.desc).map (fun d => d.parameters.length) = some 2 := by decide +kernel
theorem pf_X9_isOpen : plainFor yX9_isOpen = true := plainFor_of_name (by decide)
theorem wi_X9_isOpen : Cond.instanceMethod yX9_isOpen ∈ lwg := lwg_at 710 (by decide +kernel) rfl
theorem ws_X9_isOpen : Cond.selects RX9 yX9_isOpen yX9_isOpen ∈ lwg := lwg_at 711 (by decide +kernel) rfl
theorem cw_X9_leavesAt : cwO mX9_leavesAt ∈ lwg := lwg_at 909 (by decide +kernel) rfl
theorem nd_X9_leavesAt : yX9_leavesAt.cls ≠ "java/lang/invoke/MethodHandle" ∧ yX9_leavesAt.cls ≠ "java/lang/invoke/VarHandle" ∧ (parseMethodDescriptor yX9_leavesAt.desc).map (fun d => d.parameters.length) = some 3 := by decide +kernel
theorem pf_X9_leavesAt : plainFor yX9_leavesAt = true := plainFor_of_name (by decide)
theorem wi_X9_leavesAt : Cond.instanceMethod yX9_leavesAt ∈ lwg := lwg_at 907 (by decide +kernel) rfl
theorem ws_X9_leavesAt : Cond.selects RX9 yX9_leavesAt yX9_leavesAt ∈ lwg := lwg_at 908 (by decide +kernel) rfl
theorem cw_X9_runsOn : cwO mX9_runsOn ∈ lwg := lwg_at 649 (by decide +kernel) rfl
theorem nd_X9_runsOn : yX9_runsOn.cls ≠ "java/lang/invoke/MethodHandle" ∧ yX9_runsOn.cls ≠ "java/lang/invoke/VarHandle" ∧ (parseMethodDescriptor yX9_runsOn.desc).map (fun d => d.parameters.length) = some 2 := by decide +kernel
theorem pf_X9_runsOn : plainFor yX9_runsOn = true := plainFor_of_name (by decide)
theorem wi_X9_runsOn : Cond.instanceMethod yX9_runsOn ∈ lwg := lwg_at 647 (by decide +kernel) rfl
theorem ws_X9_runsOn : Cond.selects RX9 yX9_runsOn yX9_runsOn ∈ lwg := lwg_at 648 (by decide +kernel) rfl
theorem cw_X9_setGone : cwO mX9_setGone ∈ lwg := lwg_at 630 (by decide +kernel) rfl
theorem nd_X9_setGone : yX9_setGone.cls ≠ "java/lang/invoke/MethodHandle" ∧ yX9_setGone.cls ≠ "java/lang/invoke/VarHandle" ∧ (parseMethodDescriptor yX9_setGone.desc).map (fun d => d.parameters.length) = some 3 := by decide +kernel
theorem pf_X9_setGone : plainFor yX9_setGone = true := plainFor_of_name (by decide)
theorem wi_X9_setGone : Cond.instanceMethod yX9_setGone ∈ lwg := lwg_at 628 (by decide +kernel) rfl
theorem ws_X9_setGone : Cond.selects RX9 yX9_setGone yX9_setGone ∈ lwg := lwg_at 629 (by decide +kernel) rfl
theorem cw_X9_setMissed : cwO mX9_setMissed ∈ lwg := lwg_at 579 (by decide +kernel) rfl
theorem nd_X9_setMissed : yX9_setMissed.cls ≠ "java/lang/invoke/MethodHandle" ∧ yX9_setMissed.cls ≠ "java/lang/invoke/VarHandle" ∧ (parseMethodDescriptor yX9_setMissed.desc).map (fun d => d.parameters.length) = some 3 := by decide +kernel
theorem pf_X9_setMissed : plainFor yX9_setMissed = true := plainFor_of_name (by decide)
theorem wi_X9_setMissed : Cond.instanceMethod yX9_setMissed ∈ lwg := lwg_at 577 (by decide +kernel) rfl
theorem ws_X9_setMissed : Cond.selects RX9 yX9_setMissed yX9_setMissed ∈ lwg := lwg_at 578 (by decide +kernel) rfl
theorem g_X0_gather_X0_gatherTrip : COK mX0_gather mX0_gatherTrip 37 3 := ⟨cw_X0_gatherTrip, lwg_at 962 (by decide +kernel) rfl, wc_X0, nd_X0_gatherTrip, by decide, by decide⟩
theorem g_X0_gather_X6_clear : COK mX0_gather mX6_clear 24 0 := ⟨cw_X6_clear, lwg_at 960 (by decide +kernel) rfl, wc_X6, nd_X6_clear, by decide, by decide⟩
theorem g_X0_gather_X9_runsOn : COK mX0_gather mX9_runsOn 33 2 := ⟨cw_X9_runsOn, lwg_at 961 (by decide +kernel) rfl, wc_X9, nd_X9_runsOn, by decide, by decide⟩
theorem g_X0_gatherTrip_X6_insert : COK mX0_gatherTrip mX6_insert 63 1 := ⟨cw_X6_insert, lwg_at 968 (by decide +kernel) rfl, wc_X6, nd_X6_insert, by decide, by decide⟩
theorem g_X0_gatherTrip_X9_isOpen : COK mX0_gatherTrip mX9_isOpen 60 2 := ⟨cw_X9_isOpen, lwg_at 966 (by decide +kernel) rfl, wc_X9, nd_X9_isOpen, by decide, by decide⟩
theorem g_X0_gatherTrip_X9_leavesAt : COK mX0_gatherTrip mX9_leavesAt 50 3 := ⟨cw_X9_leavesAt, lwg_at 967 (by decide +kernel) rfl, wc_X9, nd_X9_leavesAt, by decide, by decide⟩
theorem g_X0_of_X6_get : COK mX0_of mX6_get 42 1 := ⟨cw_X6_get, lwg_at 973 (by decide +kernel) rfl, wc_X6, nd_X6_get, by decide, by decide⟩
theorem g_X0_of_X9_comesAt : COK mX0_of mX9_comesAt 46 3 := ⟨cw_X9_comesAt, lwg_at 974 (by decide +kernel) rfl, wc_X9, nd_X9_comesAt, by decide, by decide⟩
theorem g_X0_of_X9_leavesAt : COK mX0_of mX9_leavesAt 50 3 := ⟨cw_X9_leavesAt, lwg_at 967 (by decide +kernel) rfl, wc_X9, nd_X9_leavesAt, by decide, by decide⟩
theorem g_X10_beginsAt_X10_nextBeginning : COK mX10_beginsAt mX10_nextBeginning 40 2 := ⟨cw_X10_nextBeginning, lwg_at 700 (by decide +kernel) rfl, wc_X10, nd_X10_nextBeginning, by decide, by decide⟩
theorem g_X10_endsAt_X10_beginsAt : COK mX10_endsAt mX10_beginsAt 45 3 := ⟨cw_X10_beginsAt, lwg_at 696 (by decide +kernel) rfl, wc_X10, nd_X10_beginsAt, by decide, by decide⟩
theorem g_X11_asked_X10_has : COK mX11_asked mX10_has 131 1 := ⟨cw_X10_has, lwg_at 592 (by decide +kernel) rfl, wc_X10, nd_X10_has, by decide, by decide⟩
theorem g_X11_asked_X10_makeAsked : COK mX11_asked mX10_makeAsked 141 2 := ⟨cw_X10_makeAsked, lwg_at 607 (by decide +kernel) rfl, wc_X10, nd_X10_makeAsked, by decide, by decide⟩
theorem g_X11_asked_X11_between : COK mX11_asked mX11_between 90 3 := ⟨cw_X11_between, lwg_at 518 (by decide +kernel) rfl, wc_X11, nd_X11_between, by decide, by decide⟩
theorem g_X11_call_X7_has : COK mX11_call mX7_has 117 1 := ⟨cw_X7_has, lwg_at 559 (by decide +kernel) rfl, wc_X7, nd_X7_has, by decide, by decide⟩
theorem g_X11_call_X9_addCall : COK mX11_call mX9_addCall 118 4 := ⟨cw_X9_addCall, lwg_at 563 (by decide +kernel) rfl, wc_X9, nd_X9_addCall, by decide, by decide⟩
theorem g_X11_call_X9_has : COK mX11_call mX9_has 114 1 := ⟨cw_X9_has, lwg_at 555 (by decide +kernel) rfl, wc_X9, nd_X9_has, by decide, by decide⟩
theorem g_X11_comes_X8_isOut : COK mX11_comes mX8_isOut 186 1 := ⟨cw_X8_isOut, lwg_at 879 (by decide +kernel) rfl, wc_X8, nd_X8_isOut, by decide, by decide⟩
theorem g_X11_comes_X8_travel : COK mX11_comes mX8_travel 193 1 := ⟨cw_X8_travel, lwg_at 891 (by decide +kernel) rfl, wc_X8, nd_X8_travel, by decide, by decide⟩
theorem g_X11_day_X11_between : COK mX11_day mX11_between 90 3 := ⟨cw_X11_between, lwg_at 518 (by decide +kernel) rfl, wc_X11, nd_X11_between, by decide, by decide⟩
theorem g_X11_day_X11_isDay : COK mX11_day mX11_isDay 106 1 := ⟨cw_X11_isDay, lwg_at 540 (by decide +kernel) rfl, wc_X11, nd_X11_isDay, by decide, by decide⟩
theorem g_X11_fare_X11_between : COK mX11_fare mX11_between 90 3 := ⟨cw_X11_between, lwg_at 518 (by decide +kernel) rfl, wc_X11, nd_X11_between, by decide, by decide⟩
theorem g_X11_fare_X11_isZone : COK mX11_fare mX11_isZone 94 1 := ⟨cw_X11_isZone, lwg_at 521 (by decide +kernel) rfl, wc_X11, nd_X11_isZone, by decide, by decide⟩
theorem g_X11_fare_X7_price : COK mX11_fare mX7_price 102 3 := ⟨cw_X7_price, lwg_at 532 (by decide +kernel) rfl, wc_X7, nd_X7_price, by decide, by decide⟩
theorem g_X11_gather_J7_fill_53178 : COK mX11_gather mJ7_fill_53178 229 2 := ⟨cw_J7_fill_53178, lwg_at 947 (by decide +kernel) rfl, wc_J7, nd_J7_fill_53178, by decide, by decide⟩
theorem g_X11_gather_X4_gather : COK mX11_gather mX4_gather 156 2 := ⟨cw_X4_gather, lwg_at 635 (by decide +kernel) rfl, wc_X4, nd_X4_gather, by decide, by decide⟩
theorem g_X11_gather_X5_askSoonest : COK mX11_gather mX5_askSoonest 204 2 := ⟨cw_X5_askSoonest, lwg_at 929 (by decide +kernel) rfl, wc_X5, nd_X5_askSoonest, by decide, by decide⟩
theorem g_X11_give_X8_giveBack : COK mX11_give mX8_giveBack 189 1 := ⟨cw_X8_giveBack, lwg_at 883 (by decide +kernel) rfl, wc_X8, nd_X8_giveBack, by decide, by decide⟩
theorem g_X11_give_X8_isOut : COK mX11_give mX8_isOut 186 1 := ⟨cw_X8_isOut, lwg_at 879 (by decide +kernel) rfl, wc_X8, nd_X8_isOut, by decide, by decide⟩
theorem g_X11_gone_X11_isDay : COK mX11_gone mX11_isDay 106 1 := ⟨cw_X11_isDay, lwg_at 540 (by decide +kernel) rfl, wc_X11, nd_X11_isDay, by decide, by decide⟩
theorem g_X11_gone_X9_has : COK mX11_gone mX9_has 114 1 := ⟨cw_X9_has, lwg_at 555 (by decide +kernel) rfl, wc_X9, nd_X9_has, by decide, by decide⟩
theorem g_X11_gone_X9_setGone : COK mX11_gone mX9_setGone 153 3 := ⟨cw_X9_setGone, lwg_at 627 (by decide +kernel) rfl, wc_X9, nd_X9_setGone, by decide, by decide⟩
theorem g_X11_isDay_X11_between : COK mX11_isDay mX11_between 90 3 := ⟨cw_X11_between, lwg_at 518 (by decide +kernel) rfl, wc_X11, nd_X11_between, by decide, by decide⟩
theorem g_X11_isMinute_X11_between : COK mX11_isMinute mX11_between 90 3 := ⟨cw_X11_between, lwg_at 518 (by decide +kernel) rfl, wc_X11, nd_X11_between, by decide, by decide⟩
theorem g_X11_isZone_X11_between : COK mX11_isZone mX11_between 90 3 := ⟨cw_X11_between, lwg_at 518 (by decide +kernel) rfl, wc_X11, nd_X11_between, by decide, by decide⟩
theorem g_X11_late_X11_between : COK mX11_late mX11_between 90 3 := ⟨cw_X11_between, lwg_at 518 (by decide +kernel) rfl, wc_X11, nd_X11_between, by decide, by decide⟩
theorem g_X11_late_X11_isDay : COK mX11_late mX11_isDay 106 1 := ⟨cw_X11_isDay, lwg_at 540 (by decide +kernel) rfl, wc_X11, nd_X11_isDay, by decide, by decide⟩
theorem g_X11_late_X1_tell : COK mX11_late mX1_tell 148 4 := ⟨cw_X1_tell, lwg_at 615 (by decide +kernel) rfl, wc_X1, nd_X1_tell, by decide, by decide⟩
theorem g_X11_late_X9_hasCall : COK mX11_late mX9_hasCall 122 2 := ⟨cw_X9_hasCall, lwg_at 571 (by decide +kernel) rfl, wc_X9, nd_X9_hasCall, by decide, by decide⟩
theorem g_X11_latest_X11_isDay : COK mX11_latest mX11_isDay 106 1 := ⟨cw_X11_isDay, lwg_at 540 (by decide +kernel) rfl, wc_X11, nd_X11_isDay, by decide, by decide⟩
theorem g_X11_latest_X4_gather : COK mX11_latest mX4_gather 156 2 := ⟨cw_X4_gather, lwg_at 635 (by decide +kernel) rfl, wc_X4, nd_X4_gather, by decide, by decide⟩
theorem g_X11_latest_X5_askSoonest : COK mX11_latest mX5_askSoonest 204 2 := ⟨cw_X5_askSoonest, lwg_at 929 (by decide +kernel) rfl, wc_X5, nd_X5_askSoonest, by decide, by decide⟩
theorem g_X11_latest_X7_has : COK mX11_latest mX7_has 117 1 := ⟨cw_X7_has, lwg_at 559 (by decide +kernel) rfl, wc_X7, nd_X7_has, by decide, by decide⟩
theorem g_X11_leg_X11_between : COK mX11_leg mX11_between 90 3 := ⟨cw_X11_between, lwg_at 518 (by decide +kernel) rfl, wc_X11, nd_X11_between, by decide, by decide⟩
theorem g_X11_leg_X2_hasLeg : COK mX11_leg mX2_hasLeg 176 2 := ⟨cw_X2_hasLeg, lwg_at 830 (by decide +kernel) rfl, wc_X2, nd_X2_hasLeg, by decide, by decide⟩
theorem g_X11_leg_X2_ofLeg : COK mX11_leg mX2_ofLeg 179 3 := ⟨cw_X2_ofLeg, lwg_at 836 (by decide +kernel) rfl, wc_X2, nd_X2_ofLeg, by decide, by decide⟩
theorem g_X11_meet_X11_gather : COK mX11_meet mX11_gather 214 3 := ⟨cw_X11_gather, lwg_at 943 (by decide +kernel) rfl, wc_X11, nd_X11_gather, by decide, by decide⟩
theorem g_X11_meet_X11_isDay : COK mX11_meet mX11_isDay 106 1 := ⟨cw_X11_isDay, lwg_at 540 (by decide +kernel) rfl, wc_X11, nd_X11_isDay, by decide, by decide⟩
theorem g_X11_meet_X11_isMinute : COK mX11_meet mX11_isMinute 132 1 := ⟨cw_X11_isMinute, lwg_at 596 (by decide +kernel) rfl, wc_X11, nd_X11_isMinute, by decide, by decide⟩
theorem g_X11_miss_X9_hasCall : COK mX11_miss mX9_hasCall 122 2 := ⟨cw_X9_hasCall, lwg_at 571 (by decide +kernel) rfl, wc_X9, nd_X9_hasCall, by decide, by decide⟩
theorem g_X11_miss_X9_setMissed : COK mX11_miss mX9_setMissed 126 3 := ⟨cw_X9_setMissed, lwg_at 576 (by decide +kernel) rfl, wc_X9, nd_X9_setMissed, by decide, by decide⟩
theorem g_X11_reach_X11_isDay : COK mX11_reach mX11_isDay 106 1 := ⟨cw_X11_isDay, lwg_at 540 (by decide +kernel) rfl, wc_X11, nd_X11_isDay, by decide, by decide⟩
theorem g_X11_reach_X11_isMinute : COK mX11_reach mX11_isMinute 132 1 := ⟨cw_X11_isMinute, lwg_at 596 (by decide +kernel) rfl, wc_X11, nd_X11_isMinute, by decide, by decide⟩
theorem g_X11_reach_X4_gather : COK mX11_reach mX4_gather 156 2 := ⟨cw_X4_gather, lwg_at 635 (by decide +kernel) rfl, wc_X4, nd_X4_gather, by decide, by decide⟩
theorem g_X11_reach_X5_askSoonest : COK mX11_reach mX5_askSoonest 204 2 := ⟨cw_X5_askSoonest, lwg_at 929 (by decide +kernel) rfl, wc_X5, nd_X5_askSoonest, by decide, by decide⟩
theorem g_X11_reach_X7_has : COK mX11_reach mX7_has 117 1 := ⟨cw_X7_has, lwg_at 559 (by decide +kernel) rfl, wc_X7, nd_X7_has, by decide, by decide⟩
theorem g_X11_shuttle_X10_has : COK mX11_shuttle mX10_has 131 1 := ⟨cw_X10_has, lwg_at 592 (by decide +kernel) rfl, wc_X10, nd_X10_has, by decide, by decide⟩
theorem g_X11_shuttle_X10_makeShuttle : COK mX11_shuttle mX10_makeShuttle 135 4 := ⟨cw_X10_makeShuttle, lwg_at 599 (by decide +kernel) rfl, wc_X10, nd_X10_makeShuttle, by decide, by decide⟩
theorem g_X11_shuttle_X11_between : COK mX11_shuttle mX11_between 90 3 := ⟨cw_X11_between, lwg_at 518 (by decide +kernel) rfl, wc_X11, nd_X11_between, by decide, by decide⟩
theorem g_X11_shuttle_X11_isMinute : COK mX11_shuttle mX11_isMinute 132 1 := ⟨cw_X11_isMinute, lwg_at 596 (by decide +kernel) rfl, wc_X11, nd_X11_isMinute, by decide, by decide⟩
theorem g_X11_still_X8_isOut : COK mX11_still mX8_isOut 186 1 := ⟨cw_X8_isOut, lwg_at 879 (by decide +kernel) rfl, wc_X8, nd_X8_isOut, by decide, by decide⟩
theorem g_X11_still_X8_travel : COK mX11_still mX8_travel 193 1 := ⟨cw_X8_travel, lwg_at 891 (by decide +kernel) rfl, wc_X8, nd_X8_travel, by decide, by decide⟩
theorem g_X11_stop_X11_between : COK mX11_stop mX11_between 90 3 := ⟨cw_X11_between, lwg_at 518 (by decide +kernel) rfl, wc_X11, nd_X11_between, by decide, by decide⟩
theorem g_X11_stop_X11_isZone : COK mX11_stop mX11_isZone 94 1 := ⟨cw_X11_isZone, lwg_at 521 (by decide +kernel) rfl, wc_X11, nd_X11_isZone, by decide, by decide⟩
theorem g_X11_stop_X7_add : COK mX11_stop mX7_add 98 2 := ⟨cw_X7_add, lwg_at 524 (by decide +kernel) rfl, wc_X7, nd_X7_add, by decide, by decide⟩
theorem g_X11_table_X0_gather : COK mX11_table mX0_gather 216 2 := ⟨cw_X0_gather, lwg_at 956 (by decide +kernel) rfl, wc_X0, nd_X0_gather, by decide, by decide⟩
theorem g_X11_table_X0_of : COK mX11_table mX0_of 218 3 := ⟨cw_X0_of, lwg_at 969 (by decide +kernel) rfl, wc_X0, nd_X0_of, by decide, by decide⟩
theorem g_X11_table_X11_between : COK mX11_table mX11_between 90 3 := ⟨cw_X11_between, lwg_at 518 (by decide +kernel) rfl, wc_X11, nd_X11_between, by decide, by decide⟩
theorem g_X11_table_X11_isDay : COK mX11_table mX11_isDay 106 1 := ⟨cw_X11_isDay, lwg_at 540 (by decide +kernel) rfl, wc_X11, nd_X11_isDay, by decide, by decide⟩
theorem g_X11_table_X7_has : COK mX11_table mX7_has 117 1 := ⟨cw_X7_has, lwg_at 559 (by decide +kernel) rfl, wc_X7, nd_X7_has, by decide, by decide⟩
theorem g_X11_take_X2_has : COK mX11_take mX2_has 172 1 := ⟨cw_X2_has, lwg_at 818 (by decide +kernel) rfl, wc_X2, nd_X2_has, by decide, by decide⟩
theorem g_X11_take_X8_make : COK mX11_take mX8_make 182 2 := ⟨cw_X8_make, lwg_at 841 (by decide +kernel) rfl, wc_X8, nd_X8_make, by decide, by decide⟩
theorem g_X11_taken_X11_isDay : COK mX11_taken mX11_isDay 106 1 := ⟨cw_X11_isDay, lwg_at 540 (by decide +kernel) rfl, wc_X11, nd_X11_isDay, by decide, by decide⟩
theorem g_X11_taken_X3_at : COK mX11_taken mX3_at 201 3 := ⟨cw_X3_at, lwg_at 924 (by decide +kernel) rfl, wc_X3, nd_X3_at, by decide, by decide⟩
theorem g_X11_taken_X9_hasCall : COK mX11_taken mX9_hasCall 122 2 := ⟨cw_X9_hasCall, lwg_at 571 (by decide +kernel) rfl, wc_X9, nd_X9_hasCall, by decide, by decide⟩
theorem g_X11_trip_X11_between : COK mX11_trip mX11_between 90 3 := ⟨cw_X11_between, lwg_at 518 (by decide +kernel) rfl, wc_X11, nd_X11_between, by decide, by decide⟩
theorem g_X11_trip_X9_add : COK mX11_trip mX9_add 112 3 := ⟨cw_X9_add, lwg_at 547 (by decide +kernel) rfl, wc_X9, nd_X9_add, by decide, by decide⟩
theorem g_X11_walk_X10_add : COK mX11_walk mX10_add 130 3 := ⟨cw_X10_add, lwg_at 584 (by decide +kernel) rfl, wc_X10, nd_X10_add, by decide, by decide⟩
theorem g_X11_walk_X11_between : COK mX11_walk mX11_between 90 3 := ⟨cw_X11_between, lwg_at 518 (by decide +kernel) rfl, wc_X11, nd_X11_between, by decide, by decide⟩
theorem g_X11_walk_X7_has : COK mX11_walk mX7_has 117 1 := ⟨cw_X7_has, lwg_at 559 (by decide +kernel) rfl, wc_X7, nd_X7_has, by decide, by decide⟩
theorem g_X11_way_X11_between : COK mX11_way mX11_between 90 3 := ⟨cw_X11_between, lwg_at 518 (by decide +kernel) rfl, wc_X11, nd_X11_between, by decide, by decide⟩
theorem g_X11_way_X2_has : COK mX11_way mX2_has 172 1 := ⟨cw_X2_has, lwg_at 818 (by decide +kernel) rfl, wc_X2, nd_X2_has, by decide, by decide⟩
theorem g_X11_way_X2_ofWay : COK mX11_way mX2_ofWay 173 2 := ⟨cw_X2_ofWay, lwg_at 822 (by decide +kernel) rfl, wc_X2, nd_X2_ofWay, by decide, by decide⟩
theorem g_X11_ways_X11_isDay : COK mX11_ways mX11_isDay 106 1 := ⟨cw_X11_isDay, lwg_at 540 (by decide +kernel) rfl, wc_X11, nd_X11_isDay, by decide, by decide⟩
theorem g_X11_ways_X11_isMinute : COK mX11_ways mX11_isMinute 132 1 := ⟨cw_X11_isMinute, lwg_at 596 (by decide +kernel) rfl, wc_X11, nd_X11_isMinute, by decide, by decide⟩
theorem g_X11_ways_X2_collect : COK mX11_ways mX2_collect 168 1 := ⟨cw_X2_collect, lwg_at 725 (by decide +kernel) rfl, wc_X2, nd_X2_collect, by decide, by decide⟩
theorem g_X11_ways_X4_gather : COK mX11_ways mX4_gather 156 2 := ⟨cw_X4_gather, lwg_at 635 (by decide +kernel) rfl, wc_X4, nd_X4_gather, by decide, by decide⟩
theorem g_X11_ways_X5_ask : COK mX11_ways mX5_ask 164 3 := ⟨cw_X5_ask, lwg_at 671 (by decide +kernel) rfl, wc_X5, nd_X5_ask, by decide, by decide⟩
theorem g_X11_ways_X7_dearest : COK mX11_ways mX7_dearest 160 0 := ⟨cw_X7_dearest, lwg_at 666 (by decide +kernel) rfl, wc_X7, nd_X7_dearest, by decide, by decide⟩
theorem g_X11_ways_X7_has : COK mX11_ways mX7_has 117 1 := ⟨cw_X7_has, lwg_at 559 (by decide +kernel) rfl, wc_X7, nd_X7_has, by decide, by decide⟩
theorem g_X12_add_X12_begins : COK mX12_add mX12_begins 184 3 := ⟨cw_X12_begins, lwg_at 1268 (by decide +kernel) rfl, wc_X12, nd_X12_begins, by decide, by decide⟩
theorem g_X12_arrival_X12_at : COK mX12_arrival mX12_at 209 3 := ⟨cw_X12_at, lwg_at 1261 (by decide +kernel) rfl, wc_X12, nd_X12_at, by decide, by decide⟩
theorem g_X12_arrival_X12_behind : COK mX12_arrival mX12_behind 212 3 := ⟨cw_X12_behind, lwg_at 1264 (by decide +kernel) rfl, wc_X12, nd_X12_behind, by decide, by decide⟩
theorem g_X12_asked_X12_in : COK mX12_asked mX12_in 150 3 := ⟨cw_X12_in, lwg_at 1170 (by decide +kernel) rfl, wc_X12, nd_X12_in, by decide, by decide⟩
theorem g_X12_asked_X12_isWalk : COK mX12_asked mX12_isWalk 174 1 := ⟨cw_X12_isWalk, lwg_at 1216 (by decide +kernel) rfl, wc_X12, nd_X12_isWalk, by decide, by decide⟩
theorem g_X12_behind_X12_begins : COK mX12_behind mX12_begins 184 3 := ⟨cw_X12_begins, lwg_at 1268 (by decide +kernel) rfl, wc_X12, nd_X12_begins, by decide, by decide⟩
theorem g_X12_call_X12_isStop : COK mX12_call mX12_isStop 167 1 := ⟨cw_X12_isStop, lwg_at 1196 (by decide +kernel) rfl, wc_X12, nd_X12_isStop, by decide, by decide⟩
theorem g_X12_call_X12_isTrip : COK mX12_call mX12_isTrip 157 1 := ⟨cw_X12_isTrip, lwg_at 1192 (by decide +kernel) rfl, wc_X12, nd_X12_isTrip, by decide, by decide⟩
theorem g_X12_comes_X12_still : COK mX12_comes mX12_still 292 1 := ⟨cw_X12_still, lwg_at 1351 (by decide +kernel) rfl, wc_X12, nd_X12_still, by decide, by decide⟩
theorem g_X12_comesAt_X12_lateAt : COK mX12_comesAt mX12_lateAt 180 3 := ⟨cw_X12_lateAt, lwg_at 1228 (by decide +kernel) rfl, wc_X12, nd_X12_lateAt, by decide, by decide⟩
theorem g_X12_day_X12_in : COK mX12_day mX12_in 150 3 := ⟨cw_X12_in, lwg_at 1170 (by decide +kernel) rfl, wc_X12, nd_X12_in, by decide, by decide⟩
theorem g_X12_day_X12_isDay : COK mX12_day mX12_isDay 164 1 := ⟨cw_X12_isDay, lwg_at 1181 (by decide +kernel) rfl, wc_X12, nd_X12_isDay, by decide, by decide⟩
theorem g_X12_fare_X12_in : COK mX12_fare mX12_in 150 3 := ⟨cw_X12_in, lwg_at 1170 (by decide +kernel) rfl, wc_X12, nd_X12_in, by decide, by decide⟩
theorem g_X12_findRide_X12_at : COK mX12_findRide mX12_at 209 3 := ⟨cw_X12_at, lwg_at 1261 (by decide +kernel) rfl, wc_X12, nd_X12_at, by decide, by decide⟩
theorem g_X12_findRide_X12_behind : COK mX12_findRide mX12_behind 212 3 := ⟨cw_X12_behind, lwg_at 1264 (by decide +kernel) rfl, wc_X12, nd_X12_behind, by decide, by decide⟩
theorem g_X12_findRide_X12_fareOf : COK mX12_findRide mX12_fareOf 227 3 := ⟨cw_X12_fareOf, lwg_at 1283 (by decide +kernel) rfl, wc_X12, nd_X12_fareOf, by decide, by decide⟩
theorem g_X12_findRide_X12_hasPlace : COK mX12_findRide mX12_hasPlace 223 4 := ⟨cw_X12_hasPlace, lwg_at 1279 (by decide +kernel) rfl, wc_X12, nd_X12_hasPlace, by decide, by decide⟩
theorem g_X12_findWay_X12_fareOf : COK mX12_findWay mX12_fareOf 227 3 := ⟨cw_X12_fareOf, lwg_at 1283 (by decide +kernel) rfl, wc_X12, nd_X12_fareOf, by decide, by decide⟩
theorem g_X12_findWay_X12_findRide : COK mX12_findWay mX12_findRide 253 6 := ⟨cw_X12_findRide, lwg_at 1303 (by decide +kernel) rfl, wc_X12, nd_X12_findRide, by decide, by decide⟩
theorem g_X12_findWay_X12_putRide : COK mX12_findWay mX12_putRide 257 3 := ⟨cw_X12_putRide, lwg_at 1311 (by decide +kernel) rfl, wc_X12, nd_X12_putRide, by decide, by decide⟩
theorem g_X12_findWay_X12_putWalk : COK mX12_findWay mX12_putWalk 249 1 := ⟨cw_X12_putWalk, lwg_at 1307 (by decide +kernel) rfl, wc_X12, nd_X12_putWalk, by decide, by decide⟩
theorem g_X12_findWay_X12_walkAhead : COK mX12_findWay mX12_walkAhead 245 5 := ⟨cw_X12_walkAhead, lwg_at 1299 (by decide +kernel) rfl, wc_X12, nd_X12_walkAhead, by decide, by decide⟩
theorem g_X12_give_X12_isTicket : COK mX12_give mX12_isTicket 286 1 := ⟨cw_X12_isTicket, lwg_at 1339 (by decide +kernel) rfl, wc_X12, nd_X12_isTicket, by decide, by decide⟩
theorem g_X12_give_X12_places : COK mX12_give mX12_places 283 4 := ⟨cw_X12_places, lwg_at 1331 (by decide +kernel) rfl, wc_X12, nd_X12_places, by decide, by decide⟩
theorem g_X12_go_X12_at : COK mX12_go mX12_at 209 3 := ⟨cw_X12_at, lwg_at 1261 (by decide +kernel) rfl, wc_X12, nd_X12_at, by decide, by decide⟩
theorem g_X12_go_X12_behind : COK mX12_go mX12_behind 212 3 := ⟨cw_X12_behind, lwg_at 1264 (by decide +kernel) rfl, wc_X12, nd_X12_behind, by decide, by decide⟩
theorem g_X12_go_X12_least : COK mX12_go mX12_least 215 3 := ⟨cw_X12_least, lwg_at 1272 (by decide +kernel) rfl, wc_X12, nd_X12_least, by decide, by decide⟩
theorem g_X12_go_X12_ride : COK mX12_go mX12_ride 219 2 := ⟨cw_X12_ride, lwg_at 1275 (by decide +kernel) rfl, wc_X12, nd_X12_ride, by decide, by decide⟩
theorem g_X12_gone_X12_isDay : COK mX12_gone mX12_isDay 164 1 := ⟨cw_X12_isDay, lwg_at 1181 (by decide +kernel) rfl, wc_X12, nd_X12_isDay, by decide, by decide⟩
theorem g_X12_gone_X12_isTrip : COK mX12_gone mX12_isTrip 157 1 := ⟨cw_X12_isTrip, lwg_at 1192 (by decide +kernel) rfl, wc_X12, nd_X12_isTrip, by decide, by decide⟩
theorem g_X12_isAhead_X12_leavesAt : COK mX12_isAhead mX12_leavesAt 202 3 := ⟨cw_X12_leavesAt, lwg_at 1252 (by decide +kernel) rfl, wc_X12, nd_X12_leavesAt, by decide, by decide⟩
theorem g_X12_isBeaten_X12_arrival : COK mX12_isBeaten mX12_arrival 230 3 := ⟨cw_X12_arrival, lwg_at 1287 (by decide +kernel) rfl, wc_X12, nd_X12_arrival, by decide, by decide⟩
theorem g_X12_isCall_X12_in : COK mX12_isCall mX12_in 150 3 := ⟨cw_X12_in, lwg_at 1170 (by decide +kernel) rfl, wc_X12, nd_X12_in, by decide, by decide⟩
theorem g_X12_isCall_X12_isTrip : COK mX12_isCall mX12_isTrip 157 1 := ⟨cw_X12_isTrip, lwg_at 1192 (by decide +kernel) rfl, wc_X12, nd_X12_isTrip, by decide, by decide⟩
theorem g_X12_isDay_X12_in : COK mX12_isDay mX12_in 150 3 := ⟨cw_X12_in, lwg_at 1170 (by decide +kernel) rfl, wc_X12, nd_X12_in, by decide, by decide⟩
theorem g_X12_isInTable_X12_runs : COK mX12_isInTable mX12_runs 196 2 := ⟨cw_X12_runs, lwg_at 1244 (by decide +kernel) rfl, wc_X12, nd_X12_runs, by decide, by decide⟩
theorem g_X12_isInTime_X12_go : COK mX12_isInTime mX12_go 267 2 := ⟨cw_X12_go, lwg_at 1256 (by decide +kernel) rfl, wc_X12, nd_X12_go, by decide, by decide⟩
theorem g_X12_isInTime_X12_soonestOf : COK mX12_isInTime mX12_soonestOf 299 1 := ⟨cw_X12_soonestOf, lwg_at 1364 (by decide +kernel) rfl, wc_X12, nd_X12_soonestOf, by decide, by decide⟩
theorem g_X12_isStop_X12_in : COK mX12_isStop mX12_in 150 3 := ⟨cw_X12_in, lwg_at 1170 (by decide +kernel) rfl, wc_X12, nd_X12_in, by decide, by decide⟩
theorem g_X12_isTicket_X12_in : COK mX12_isTicket mX12_in 150 3 := ⟨cw_X12_in, lwg_at 1170 (by decide +kernel) rfl, wc_X12, nd_X12_in, by decide, by decide⟩
theorem g_X12_isTrip_X12_in : COK mX12_isTrip mX12_in 150 3 := ⟨cw_X12_in, lwg_at 1170 (by decide +kernel) rfl, wc_X12, nd_X12_in, by decide, by decide⟩
theorem g_X12_isWalk_X12_in : COK mX12_isWalk mX12_in 150 3 := ⟨cw_X12_in, lwg_at 1170 (by decide +kernel) rfl, wc_X12, nd_X12_in, by decide, by decide⟩
theorem g_X12_late_X12_in : COK mX12_late mX12_in 150 3 := ⟨cw_X12_in, lwg_at 1170 (by decide +kernel) rfl, wc_X12, nd_X12_in, by decide, by decide⟩
theorem g_X12_late_X12_isCall : COK mX12_late mX12_isCall 170 2 := ⟨cw_X12_isCall, lwg_at 1204 (by decide +kernel) rfl, wc_X12, nd_X12_isCall, by decide, by decide⟩
theorem g_X12_late_X12_isDay : COK mX12_late mX12_isDay 164 1 := ⟨cw_X12_isDay, lwg_at 1181 (by decide +kernel) rfl, wc_X12, nd_X12_isDay, by decide, by decide⟩
theorem g_X12_late_X12_lateAt : COK mX12_late mX12_lateAt 180 3 := ⟨cw_X12_lateAt, lwg_at 1228 (by decide +kernel) rfl, wc_X12, nd_X12_lateAt, by decide, by decide⟩
theorem g_X12_latest_X12_isDay : COK mX12_latest mX12_isDay 164 1 := ⟨cw_X12_isDay, lwg_at 1181 (by decide +kernel) rfl, wc_X12, nd_X12_isDay, by decide, by decide⟩
theorem g_X12_latest_X12_isInTime : COK mX12_latest mX12_isInTime 296 4 := ⟨cw_X12_isInTime, lwg_at 1360 (by decide +kernel) rfl, wc_X12, nd_X12_isInTime, by decide, by decide⟩
theorem g_X12_latest_X12_isStop : COK mX12_latest mX12_isStop 167 1 := ⟨cw_X12_isStop, lwg_at 1196 (by decide +kernel) rfl, wc_X12, nd_X12_isStop, by decide, by decide⟩
theorem g_X12_latest_X12_look : COK mX12_latest mX12_look 264 2 := ⟨cw_X12_look, lwg_at 1240 (by decide +kernel) rfl, wc_X12, nd_X12_look, by decide, by decide⟩
theorem g_X12_leavesAt_X12_lateAt : COK mX12_leavesAt mX12_lateAt 180 3 := ⟨cw_X12_lateAt, lwg_at 1228 (by decide +kernel) rfl, wc_X12, nd_X12_lateAt, by decide, by decide⟩
theorem g_X12_leg_X12_in : COK mX12_leg mX12_in 150 3 := ⟨cw_X12_in, lwg_at 1170 (by decide +kernel) rfl, wc_X12, nd_X12_in, by decide, by decide⟩
theorem g_X12_look_X12_comesAt : COK mX12_look mX12_comesAt 199 3 := ⟨cw_X12_comesAt, lwg_at 1248 (by decide +kernel) rfl, wc_X12, nd_X12_comesAt, by decide, by decide⟩
theorem g_X12_look_X12_leavesAt : COK mX12_look mX12_leavesAt 202 3 := ⟨cw_X12_leavesAt, lwg_at 1252 (by decide +kernel) rfl, wc_X12, nd_X12_leavesAt, by decide, by decide⟩
theorem g_X12_look_X12_runs : COK mX12_look mX12_runs 196 2 := ⟨cw_X12_runs, lwg_at 1244 (by decide +kernel) rfl, wc_X12, nd_X12_runs, by decide, by decide⟩
theorem g_X12_meet_X12_go : COK mX12_meet mX12_go 267 2 := ⟨cw_X12_go, lwg_at 1256 (by decide +kernel) rfl, wc_X12, nd_X12_go, by decide, by decide⟩
theorem g_X12_meet_X12_in : COK mX12_meet mX12_in 150 3 := ⟨cw_X12_in, lwg_at 1170 (by decide +kernel) rfl, wc_X12, nd_X12_in, by decide, by decide⟩
theorem g_X12_meet_X12_isDay : COK mX12_meet mX12_isDay 164 1 := ⟨cw_X12_isDay, lwg_at 1181 (by decide +kernel) rfl, wc_X12, nd_X12_isDay, by decide, by decide⟩
theorem g_X12_meet_X12_look : COK mX12_meet mX12_look 264 2 := ⟨cw_X12_look, lwg_at 1240 (by decide +kernel) rfl, wc_X12, nd_X12_look, by decide, by decide⟩
theorem g_X12_meet_X12_soonestOf : COK mX12_meet mX12_soonestOf 299 1 := ⟨cw_X12_soonestOf, lwg_at 1364 (by decide +kernel) rfl, wc_X12, nd_X12_soonestOf, by decide, by decide⟩
theorem g_X12_miss_X12_isCall : COK mX12_miss mX12_isCall 170 2 := ⟨cw_X12_isCall, lwg_at 1204 (by decide +kernel) rfl, wc_X12, nd_X12_isCall, by decide, by decide⟩
theorem g_X12_reach_X12_go : COK mX12_reach mX12_go 267 2 := ⟨cw_X12_go, lwg_at 1256 (by decide +kernel) rfl, wc_X12, nd_X12_go, by decide, by decide⟩
theorem g_X12_reach_X12_in : COK mX12_reach mX12_in 150 3 := ⟨cw_X12_in, lwg_at 1170 (by decide +kernel) rfl, wc_X12, nd_X12_in, by decide, by decide⟩
theorem g_X12_reach_X12_isDay : COK mX12_reach mX12_isDay 164 1 := ⟨cw_X12_isDay, lwg_at 1181 (by decide +kernel) rfl, wc_X12, nd_X12_isDay, by decide, by decide⟩
theorem g_X12_reach_X12_isStop : COK mX12_reach mX12_isStop 167 1 := ⟨cw_X12_isStop, lwg_at 1196 (by decide +kernel) rfl, wc_X12, nd_X12_isStop, by decide, by decide⟩
theorem g_X12_reach_X12_look : COK mX12_reach mX12_look 264 2 := ⟨cw_X12_look, lwg_at 1240 (by decide +kernel) rfl, wc_X12, nd_X12_look, by decide, by decide⟩
theorem g_X12_reach_X12_soonestOf : COK mX12_reach mX12_soonestOf 299 1 := ⟨cw_X12_soonestOf, lwg_at 1364 (by decide +kernel) rfl, wc_X12, nd_X12_soonestOf, by decide, by decide⟩
theorem g_X12_ride_X12_at : COK mX12_ride mX12_at 209 3 := ⟨cw_X12_at, lwg_at 1261 (by decide +kernel) rfl, wc_X12, nd_X12_at, by decide, by decide⟩
theorem g_X12_ride_X12_fareOf : COK mX12_ride mX12_fareOf 227 3 := ⟨cw_X12_fareOf, lwg_at 1283 (by decide +kernel) rfl, wc_X12, nd_X12_fareOf, by decide, by decide⟩
theorem g_X12_ride_X12_hasPlace : COK mX12_ride mX12_hasPlace 223 4 := ⟨cw_X12_hasPlace, lwg_at 1279 (by decide +kernel) rfl, wc_X12, nd_X12_hasPlace, by decide, by decide⟩
theorem g_X12_ride_X12_least : COK mX12_ride mX12_least 215 3 := ⟨cw_X12_least, lwg_at 1272 (by decide +kernel) rfl, wc_X12, nd_X12_least, by decide, by decide⟩
theorem g_X12_shuttle_X12_in : COK mX12_shuttle mX12_in 150 3 := ⟨cw_X12_in, lwg_at 1170 (by decide +kernel) rfl, wc_X12, nd_X12_in, by decide, by decide⟩
theorem g_X12_shuttle_X12_isWalk : COK mX12_shuttle mX12_isWalk 174 1 := ⟨cw_X12_isWalk, lwg_at 1216 (by decide +kernel) rfl, wc_X12, nd_X12_isWalk, by decide, by decide⟩
theorem g_X12_soonestOf_X12_arrival : COK mX12_soonestOf mX12_arrival 230 3 := ⟨cw_X12_arrival, lwg_at 1287 (by decide +kernel) rfl, wc_X12, nd_X12_arrival, by decide, by decide⟩
theorem g_X12_still_X12_behind : COK mX12_still mX12_behind 212 3 := ⟨cw_X12_behind, lwg_at 1264 (by decide +kernel) rfl, wc_X12, nd_X12_behind, by decide, by decide⟩
theorem g_X12_still_X12_comesAt : COK mX12_still mX12_comesAt 199 3 := ⟨cw_X12_comesAt, lwg_at 1248 (by decide +kernel) rfl, wc_X12, nd_X12_comesAt, by decide, by decide⟩
theorem g_X12_still_X12_isTicket : COK mX12_still mX12_isTicket 286 1 := ⟨cw_X12_isTicket, lwg_at 1339 (by decide +kernel) rfl, wc_X12, nd_X12_isTicket, by decide, by decide⟩
theorem g_X12_still_X12_leavesAt : COK mX12_still mX12_leavesAt 202 3 := ⟨cw_X12_leavesAt, lwg_at 1252 (by decide +kernel) rfl, wc_X12, nd_X12_leavesAt, by decide, by decide⟩
theorem g_X12_still_X12_runs : COK mX12_still mX12_runs 196 2 := ⟨cw_X12_runs, lwg_at 1244 (by decide +kernel) rfl, wc_X12, nd_X12_runs, by decide, by decide⟩
theorem g_X12_stop_X12_in : COK mX12_stop mX12_in 150 3 := ⟨cw_X12_in, lwg_at 1170 (by decide +kernel) rfl, wc_X12, nd_X12_in, by decide, by decide⟩
theorem g_X12_table_X12_comesAt : COK mX12_table mX12_comesAt 199 3 := ⟨cw_X12_comesAt, lwg_at 1248 (by decide +kernel) rfl, wc_X12, nd_X12_comesAt, by decide, by decide⟩
theorem g_X12_table_X12_in : COK mX12_table mX12_in 150 3 := ⟨cw_X12_in, lwg_at 1170 (by decide +kernel) rfl, wc_X12, nd_X12_in, by decide, by decide⟩
theorem g_X12_table_X12_isAhead : COK mX12_table mX12_isAhead 305 5 := ⟨cw_X12_isAhead, lwg_at 1388 (by decide +kernel) rfl, wc_X12, nd_X12_isAhead, by decide, by decide⟩
theorem g_X12_table_X12_isDay : COK mX12_table mX12_isDay 164 1 := ⟨cw_X12_isDay, lwg_at 1181 (by decide +kernel) rfl, wc_X12, nd_X12_isDay, by decide, by decide⟩
theorem g_X12_table_X12_isInTable : COK mX12_table mX12_isInTable 302 4 := ⟨cw_X12_isInTable, lwg_at 1384 (by decide +kernel) rfl, wc_X12, nd_X12_isInTable, by decide, by decide⟩
theorem g_X12_table_X12_isStop : COK mX12_table mX12_isStop 167 1 := ⟨cw_X12_isStop, lwg_at 1196 (by decide +kernel) rfl, wc_X12, nd_X12_isStop, by decide, by decide⟩
theorem g_X12_table_X12_leavesAt : COK mX12_table mX12_leavesAt 202 3 := ⟨cw_X12_leavesAt, lwg_at 1252 (by decide +kernel) rfl, wc_X12, nd_X12_leavesAt, by decide, by decide⟩
theorem g_X12_take_X12_in : COK mX12_take mX12_in 150 3 := ⟨cw_X12_in, lwg_at 1170 (by decide +kernel) rfl, wc_X12, nd_X12_in, by decide, by decide⟩
theorem g_X12_take_X12_places : COK mX12_take mX12_places 283 4 := ⟨cw_X12_places, lwg_at 1331 (by decide +kernel) rfl, wc_X12, nd_X12_places, by decide, by decide⟩
theorem g_X12_taken_X12_isCall : COK mX12_taken mX12_isCall 170 2 := ⟨cw_X12_isCall, lwg_at 1204 (by decide +kernel) rfl, wc_X12, nd_X12_isCall, by decide, by decide⟩
theorem g_X12_taken_X12_isDay : COK mX12_taken mX12_isDay 164 1 := ⟨cw_X12_isDay, lwg_at 1181 (by decide +kernel) rfl, wc_X12, nd_X12_isDay, by decide, by decide⟩
theorem g_X12_trip_X12_in : COK mX12_trip mX12_in 150 3 := ⟨cw_X12_in, lwg_at 1170 (by decide +kernel) rfl, wc_X12, nd_X12_in, by decide, by decide⟩
theorem g_X12_walk_X12_in : COK mX12_walk mX12_in 150 3 := ⟨cw_X12_in, lwg_at 1170 (by decide +kernel) rfl, wc_X12, nd_X12_in, by decide, by decide⟩
theorem g_X12_walk_X12_isStop : COK mX12_walk mX12_isStop 167 1 := ⟨cw_X12_isStop, lwg_at 1196 (by decide +kernel) rfl, wc_X12, nd_X12_isStop, by decide, by decide⟩
theorem g_X12_walkAhead_X12_behind : COK mX12_walkAhead mX12_behind 212 3 := ⟨cw_X12_behind, lwg_at 1264 (by decide +kernel) rfl, wc_X12, nd_X12_behind, by decide, by decide⟩
theorem g_X12_walkAhead_X12_findRide : COK mX12_walkAhead mX12_findRide 253 6 := ⟨cw_X12_findRide, lwg_at 1303 (by decide +kernel) rfl, wc_X12, nd_X12_findRide, by decide, by decide⟩
theorem g_X12_way_X12_in : COK mX12_way mX12_in 150 3 := ⟨cw_X12_in, lwg_at 1170 (by decide +kernel) rfl, wc_X12, nd_X12_in, by decide, by decide⟩
theorem g_X12_ways_X12_add : COK mX12_ways mX12_add 277 3 := ⟨cw_X12_add, lwg_at 1315 (by decide +kernel) rfl, wc_X12, nd_X12_add, by decide, by decide⟩
theorem g_X12_ways_X12_arrival : COK mX12_ways mX12_arrival 230 3 := ⟨cw_X12_arrival, lwg_at 1287 (by decide +kernel) rfl, wc_X12, nd_X12_arrival, by decide, by decide⟩
theorem g_X12_ways_X12_findWay : COK mX12_ways mX12_findWay 273 4 := ⟨cw_X12_findWay, lwg_at 1295 (by decide +kernel) rfl, wc_X12, nd_X12_findWay, by decide, by decide⟩
theorem g_X12_ways_X12_go : COK mX12_ways mX12_go 267 2 := ⟨cw_X12_go, lwg_at 1256 (by decide +kernel) rfl, wc_X12, nd_X12_go, by decide, by decide⟩
theorem g_X12_ways_X12_in : COK mX12_ways mX12_in 150 3 := ⟨cw_X12_in, lwg_at 1170 (by decide +kernel) rfl, wc_X12, nd_X12_in, by decide, by decide⟩
theorem g_X12_ways_X12_isBeaten : COK mX12_ways mX12_isBeaten 270 4 := ⟨cw_X12_isBeaten, lwg_at 1291 (by decide +kernel) rfl, wc_X12, nd_X12_isBeaten, by decide, by decide⟩
theorem g_X12_ways_X12_isDay : COK mX12_ways mX12_isDay 164 1 := ⟨cw_X12_isDay, lwg_at 1181 (by decide +kernel) rfl, wc_X12, nd_X12_isDay, by decide, by decide⟩
theorem g_X12_ways_X12_isStop : COK mX12_ways mX12_isStop 167 1 := ⟨cw_X12_isStop, lwg_at 1196 (by decide +kernel) rfl, wc_X12, nd_X12_isStop, by decide, by decide⟩
theorem g_X12_ways_X12_look : COK mX12_ways mX12_look 264 2 := ⟨cw_X12_look, lwg_at 1240 (by decide +kernel) rfl, wc_X12, nd_X12_look, by decide, by decide⟩
theorem g_X1_tell_X1_sum : COK mX1_tell mX1_sum 31 3 := ⟨cw_X1_sum, lwg_at 619 (by decide +kernel) rfl, wc_X1, nd_X1_sum, by decide, by decide⟩
theorem g_X2_callsInTime_X10_endsAt : COK mX2_callsInTime mX10_endsAt 166 3 := ⟨cw_X10_endsAt, lwg_at 771 (by decide +kernel) rfl, wc_X10, nd_X10_endsAt, by decide, by decide⟩
theorem g_X2_callsInTime_X9_isOpen : COK mX2_callsInTime mX9_isOpen 183 2 := ⟨cw_X9_isOpen, lwg_at 780 (by decide +kernel) rfl, wc_X9, nd_X9_isOpen, by decide, by decide⟩
theorem g_X2_canGetOn_X5_readyAt : COK mX2_canGetOn mX5_readyAt 192 3 := ⟨cw_X5_readyAt, lwg_at 793 (by decide +kernel) rfl, wc_X5, nd_X5_readyAt, by decide, by decide⟩
theorem g_X2_canGetOn_X7_priceOfRide : COK mX2_canGetOn mX7_priceOfRide 139 2 := ⟨cw_X7_priceOfRide, lwg_at 789 (by decide +kernel) rfl, wc_X7, nd_X7_priceOfRide, by decide, by decide⟩
theorem g_X2_canGetOn_X9_isOpen : COK mX2_canGetOn mX9_isOpen 183 2 := ⟨cw_X9_isOpen, lwg_at 780 (by decide +kernel) rfl, wc_X9, nd_X9_isOpen, by decide, by decide⟩
theorem g_X2_collect_J7_fill_53178 : COK mX2_collect mJ7_fill_53178 72 2 := ⟨cw_J7_fill_53178, lwg_at 734 (by decide +kernel) rfl, wc_J7, nd_J7_fill_53178, by decide, by decide⟩
theorem g_X2_collect_X2_isUnbeaten : COK mX2_collect mX2_isUnbeaten 85 2 := ⟨cw_X2_isUnbeaten, lwg_at 749 (by decide +kernel) rfl, wc_X2, nd_X2_isUnbeaten, by decide, by decide⟩
theorem g_X2_collect_X2_trace : COK mX2_collect mX2_trace 96 4 := ⟨cw_X2_trace, lwg_at 762 (by decide +kernel) rfl, wc_X2, nd_X2_trace, by decide, by decide⟩
theorem g_X2_collect_X2_write : COK mX2_collect mX2_write 100 3 := ⟨cw_X2_write, lwg_at 797 (by decide +kernel) rfl, wc_X2, nd_X2_write, by decide, by decide⟩
theorem g_X2_collect_X5_arrival : COK mX2_collect mX5_arrival 82 3 := ⟨cw_X5_arrival, lwg_at 736 (by decide +kernel) rfl, wc_X5, nd_X5_arrival, by decide, by decide⟩
theorem g_X2_collect_X5_mostFare : COK mX2_collect mX5_mostFare 78 1 := ⟨cw_X5_mostFare, lwg_at 735 (by decide +kernel) rfl, wc_X5, nd_X5_mostFare, by decide, by decide⟩
theorem g_X2_collect_X6_clear : COK mX2_collect mX6_clear 68 0 := ⟨cw_X6_clear, lwg_at 729 (by decide +kernel) rfl, wc_X6, nd_X6_clear, by decide, by decide⟩
theorem g_X2_collect_X6_get : COK mX2_collect mX6_get 93 1 := ⟨cw_X6_get, lwg_at 758 (by decide +kernel) rfl, wc_X6, nd_X6_get, by decide, by decide⟩
theorem g_X2_collect_X6_insert : COK mX2_collect mX6_insert 89 1 := ⟨cw_X6_insert, lwg_at 754 (by decide +kernel) rfl, wc_X6, nd_X6_insert, by decide, by decide⟩
theorem g_X2_hasLeg_X2_has : COK mX2_hasLeg mX2_has 50 1 := ⟨cw_X2_has, lwg_at 834 (by decide +kernel) rfl, wc_X2, nd_X2_has, by decide, by decide⟩
theorem g_X2_hasLeg_X2_ofWay : COK mX2_hasLeg mX2_ofWay 54 2 := ⟨cw_X2_ofWay, lwg_at 835 (by decide +kernel) rfl, wc_X2, nd_X2_ofWay, by decide, by decide⟩
theorem g_X2_leastRide_X2_callsInTime : COK mX2_leastRide mX2_callsInTime 170 5 := ⟨cw_X2_callsInTime, lwg_at 776 (by decide +kernel) rfl, wc_X2, nd_X2_callsInTime, by decide, by decide⟩
theorem g_X2_leastRide_X2_canGetOn : COK mX2_leastRide mX2_canGetOn 176 5 := ⟨cw_X2_canGetOn, lwg_at 785 (by decide +kernel) rfl, wc_X2, nd_X2_canGetOn, by decide, by decide⟩
theorem g_X2_leastRide_X2_firstOff : COK mX2_leastRide mX2_firstOff 173 3 := ⟨cw_X2_firstOff, lwg_at 781 (by decide +kernel) rfl, wc_X2, nd_X2_firstOff, by decide, by decide⟩
theorem g_X2_leastWalk_X10_endsAt : COK mX2_leastWalk mX10_endsAt 166 3 := ⟨cw_X10_endsAt, lwg_at 771 (by decide +kernel) rfl, wc_X10, nd_X10_endsAt, by decide, by decide⟩
theorem g_X2_leastWalk_X5_endedAt : COK mX2_leastWalk mX5_endedAt 150 3 := ⟨cw_X5_endedAt, lwg_at 770 (by decide +kernel) rfl, wc_X5, nd_X5_endedAt, by decide, by decide⟩
theorem g_X2_ridesOver_X2_ofLeg : COK mX2_ridesOver mX2_ofLeg 58 3 := ⟨cw_X2_ofLeg, lwg_at 810 (by decide +kernel) rfl, wc_X2, nd_X2_ofLeg, by decide, by decide⟩
theorem g_X2_ridesOver_X2_ofWay : COK mX2_ridesOver mX2_ofWay 54 2 := ⟨cw_X2_ofWay, lwg_at 835 (by decide +kernel) rfl, wc_X2, nd_X2_ofWay, by decide, by decide⟩
theorem g_X2_trace_X2_leastRide : COK mX2_trace mX2_leastRide 113 6 := ⟨cw_X2_leastRide, lwg_at 772 (by decide +kernel) rfl, wc_X2, nd_X2_leastRide, by decide, by decide⟩
theorem g_X2_trace_X2_leastWalk : COK mX2_trace mX2_leastWalk 109 5 := ⟨cw_X2_leastWalk, lwg_at 766 (by decide +kernel) rfl, wc_X2, nd_X2_leastWalk, by decide, by decide⟩
theorem g_X2_trace_X7_priceOfRide : COK mX2_trace mX7_priceOfRide 139 2 := ⟨cw_X7_priceOfRide, lwg_at 789 (by decide +kernel) rfl, wc_X7, nd_X7_priceOfRide, by decide, by decide⟩
theorem g_X2_write_X2_ofLeg : COK mX2_write mX2_ofLeg 58 3 := ⟨cw_X2_ofLeg, lwg_at 810 (by decide +kernel) rfl, wc_X2, nd_X2_ofLeg, by decide, by decide⟩
theorem g_X2_write_X2_writeRide : COK mX2_write mX2_writeRide 195 4 := ⟨cw_X2_writeRide, lwg_at 801 (by decide +kernel) rfl, wc_X2, nd_X2_writeRide, by decide, by decide⟩
theorem g_X2_write_X2_writeWalk : COK mX2_write mX2_writeWalk 199 3 := ⟨cw_X2_writeWalk, lwg_at 805 (by decide +kernel) rfl, wc_X2, nd_X2_writeWalk, by decide, by decide⟩
theorem g_X2_writeWalk_X10_beginsAt : COK mX2_writeWalk mX10_beginsAt 209 3 := ⟨cw_X10_beginsAt, lwg_at 809 (by decide +kernel) rfl, wc_X10, nd_X10_beginsAt, by decide, by decide⟩
theorem g_X2_writeWalk_X10_endsAt : COK mX2_writeWalk mX10_endsAt 166 3 := ⟨cw_X10_endsAt, lwg_at 771 (by decide +kernel) rfl, wc_X10, nd_X10_endsAt, by decide, by decide⟩
theorem g_X3_at_X3_rowOf : COK mX3_at mX3_rowOf 18 2 := ⟨cw_X3_rowOf, lwg_at 662 (by decide +kernel) rfl, wc_X3, nd_X3_rowOf, by decide, by decide⟩
theorem g_X3_change_X3_newRow : COK mX3_change mX3_newRow 22 2 := ⟨cw_X3_newRow, lwg_at 871 (by decide +kernel) rfl, wc_X3, nd_X3_newRow, by decide, by decide⟩
theorem g_X3_change_X3_rowOf : COK mX3_change mX3_rowOf 18 2 := ⟨cw_X3_rowOf, lwg_at 662 (by decide +kernel) rfl, wc_X3, nd_X3_rowOf, by decide, by decide⟩
theorem g_X3_full_X3_rowOf : COK mX3_full mX3_rowOf 18 2 := ⟨cw_X3_rowOf, lwg_at 662 (by decide +kernel) rfl, wc_X3, nd_X3_rowOf, by decide, by decide⟩
theorem g_X4_gather_J9_floorDiv_7cf53 : COK mX4_gather mJ9_floorDiv_7cf53 53 2 := ⟨cw_J9_floorDiv_7cf53, lwg_at 639 (by decide +kernel) rfl, wc_J9, nd_J9_floorDiv_7cf53, by decide, by decide⟩
theorem g_X4_gather_X4_gatherRun : COK mX4_gather mX4_gatherRun 73 3 := ⟨cw_X4_gatherRun, lwg_at 650 (by decide +kernel) rfl, wc_X4, nd_X4_gatherRun, by decide, by decide⟩
theorem g_X4_gather_X9_runsOn : COK mX4_gather mX9_runsOn 69 2 := ⟨cw_X9_runsOn, lwg_at 646 (by decide +kernel) rfl, wc_X9, nd_X9_runsOn, by decide, by decide⟩
theorem g_X4_gatherRun_X3_full : COK mX4_gatherRun mX3_full 86 3 := ⟨cw_X3_full, lwg_at 658 (by decide +kernel) rfl, wc_X3, nd_X3_full, by decide, by decide⟩
theorem g_X4_gatherRun_X4_setTimes : COK mX4_gatherRun mX4_setTimes 77 3 := ⟨cw_X4_setTimes, lwg_at 654 (by decide +kernel) rfl, wc_X4, nd_X4_setTimes, by decide, by decide⟩
theorem g_X5_arrival_X10_endsAt : COK mX5_arrival mX10_endsAt 92 3 := ⟨cw_X10_endsAt, lwg_at 691 (by decide +kernel) rfl, wc_X10, nd_X10_endsAt, by decide, by decide⟩
theorem g_X5_arrival_X5_endedAt : COK mX5_arrival mX5_endedAt 106 3 := ⟨cw_X5_endedAt, lwg_at 740 (by decide +kernel) rfl, wc_X5, nd_X5_endedAt, by decide, by decide⟩
theorem g_X5_ask_J7_fill_53178 : COK mX5_ask mJ7_fill_53178 51 2 := ⟨cw_J7_fill_53178, lwg_at 676 (by decide +kernel) rfl, wc_J7, nd_J7_fill_53178, by decide, by decide⟩
theorem g_X5_ask_X5_getReady : COK mX5_ask mX5_getReady 57 1 := ⟨cw_X5_getReady, lwg_at 679 (by decide +kernel) rfl, wc_X5, nd_X5_getReady, by decide, by decide⟩
theorem g_X5_ask_X5_ride : COK mX5_ask mX5_ride 66 2 := ⟨cw_X5_ride, lwg_at 705 (by decide +kernel) rfl, wc_X5, nd_X5_ride, by decide, by decide⟩
theorem g_X5_askSoonest_X10_endsAt : COK mX5_askSoonest mX10_endsAt 92 3 := ⟨cw_X10_endsAt, lwg_at 691 (by decide +kernel) rfl, wc_X10, nd_X10_endsAt, by decide, by decide⟩
theorem g_X5_askSoonest_X5_ask : COK mX5_askSoonest mX5_ask 70 3 := ⟨cw_X5_ask, lwg_at 933 (by decide +kernel) rfl, wc_X5, nd_X5_ask, by decide, by decide⟩
theorem g_X5_askSoonest_X5_row : COK mX5_askSoonest mX5_row 77 2 := ⟨cw_X5_row, lwg_at 687 (by decide +kernel) rfl, wc_X5, nd_X5_row, by decide, by decide⟩
theorem g_X5_canCost_X11_between : CNK mX5_canCost mX11_between 109 3 := ⟨cw_X11_between, rfl, wc_X11, nd_X11_between, by decide, by decide⟩
theorem g_X5_canCost_X5_mostFare : COK mX5_canCost mX5_mostFare 113 1 := ⟨cw_X5_mostFare, lwg_at 683 (by decide +kernel) rfl, wc_X5, nd_X5_mostFare, by decide, by decide⟩
theorem g_X5_endedAt_X5_canCost : COK mX5_endedAt mX5_canCost 102 2 := ⟨cw_X5_canCost, lwg_at 744 (by decide +kernel) rfl, wc_X5, nd_X5_canCost, by decide, by decide⟩
theorem g_X5_endedAt_X5_row : COK mX5_endedAt mX5_row 77 2 := ⟨cw_X5_row, lwg_at 687 (by decide +kernel) rfl, wc_X5, nd_X5_row, by decide, by decide⟩
theorem g_X5_getOff_X5_faresTo : COK mX5_getOff mX5_faresTo 149 1 := ⟨cw_X5_faresTo, lwg_at 717 (by decide +kernel) rfl, wc_X5, nd_X5_faresTo, by decide, by decide⟩
theorem g_X5_getOff_X5_mostFare : COK mX5_getOff mX5_mostFare 113 1 := ⟨cw_X5_mostFare, lwg_at 683 (by decide +kernel) rfl, wc_X5, nd_X5_mostFare, by decide, by decide⟩
theorem g_X5_getOff_X5_row : COK mX5_getOff mX5_row 77 2 := ⟨cw_X5_row, lwg_at 687 (by decide +kernel) rfl, wc_X5, nd_X5_row, by decide, by decide⟩
theorem g_X5_getOn_X5_mostFare : COK mX5_getOn mX5_mostFare 113 1 := ⟨cw_X5_mostFare, lwg_at 683 (by decide +kernel) rfl, wc_X5, nd_X5_mostFare, by decide, by decide⟩
theorem g_X5_getOn_X5_row : COK mX5_getOn mX5_row 77 2 := ⟨cw_X5_row, lwg_at 687 (by decide +kernel) rfl, wc_X5, nd_X5_row, by decide, by decide⟩
theorem g_X5_getReady_X10_endsAt : COK mX5_getReady mX10_endsAt 92 3 := ⟨cw_X10_endsAt, lwg_at 691 (by decide +kernel) rfl, wc_X10, nd_X10_endsAt, by decide, by decide⟩
theorem g_X5_getReady_X5_mostFare : COK mX5_getReady mX5_mostFare 113 1 := ⟨cw_X5_mostFare, lwg_at 683 (by decide +kernel) rfl, wc_X5, nd_X5_mostFare, by decide, by decide⟩
theorem g_X5_getReady_X5_row : COK mX5_getReady mX5_row 77 2 := ⟨cw_X5_row, lwg_at 687 (by decide +kernel) rfl, wc_X5, nd_X5_row, by decide, by decide⟩
theorem g_X5_readyAt_X5_canCost : COK mX5_readyAt mX5_canCost 102 2 := ⟨cw_X5_canCost, lwg_at 744 (by decide +kernel) rfl, wc_X5, nd_X5_canCost, by decide, by decide⟩
theorem g_X5_readyAt_X5_row : COK mX5_readyAt mX5_row 77 2 := ⟨cw_X5_row, lwg_at 687 (by decide +kernel) rfl, wc_X5, nd_X5_row, by decide, by decide⟩
theorem g_X5_ride_J7_fill_53178 : COK mX5_ride mJ7_fill_53178 51 2 := ⟨cw_J7_fill_53178, lwg_at 676 (by decide +kernel) rfl, wc_J7, nd_J7_fill_53178, by decide, by decide⟩
theorem g_X5_ride_X5_getOff : COK mX5_ride mX5_getOff 131 3 := ⟨cw_X5_getOff, lwg_at 713 (by decide +kernel) rfl, wc_X5, nd_X5_getOff, by decide, by decide⟩
theorem g_X5_ride_X5_getOn : COK mX5_ride mX5_getOn 137 3 := ⟨cw_X5_getOn, lwg_at 721 (by decide +kernel) rfl, wc_X5, nd_X5_getOn, by decide, by decide⟩
theorem g_X5_ride_X9_isOpen : COK mX5_ride mX9_isOpen 128 2 := ⟨cw_X9_isOpen, lwg_at 709 (by decide +kernel) rfl, wc_X9, nd_X9_isOpen, by decide, by decide⟩
theorem g_X8_canRide_X9_isOpen : COK mX8_canRide mX9_isOpen 106 2 := ⟨cw_X9_isOpen, lwg_at 905 (by decide +kernel) rfl, wc_X9, nd_X9_isOpen, by decide, by decide⟩
theorem g_X8_canRide_X9_leavesAt : COK mX8_canRide mX9_leavesAt 109 3 := ⟨cw_X9_leavesAt, lwg_at 906 (by decide +kernel) rfl, wc_X9, nd_X9_leavesAt, by decide, by decide⟩
theorem g_X8_canRide_X9_runsOn : COK mX8_canRide mX9_runsOn 103 2 := ⟨cw_X9_runsOn, lwg_at 904 (by decide +kernel) rfl, wc_X9, nd_X9_runsOn, by decide, by decide⟩
theorem g_X8_changePlaces_X3_change : COK mX8_changePlaces mX3_change 115 5 := ⟨cw_X3_change, lwg_at 867 (by decide +kernel) rfl, wc_X3, nd_X3_change, by decide, by decide⟩
theorem g_X8_giveBack_X8_changePlaces : COK mX8_giveBack mX8_changePlaces 70 2 := ⟨cw_X8_changePlaces, lwg_at 863 (by decide +kernel) rfl, wc_X8, nd_X8_changePlaces, by decide, by decide⟩
theorem g_X8_hasPlaces_X2_ofLeg : COK mX8_hasPlaces mX2_ofLeg 66 3 := ⟨cw_X2_ofLeg, lwg_at 850 (by decide +kernel) rfl, wc_X2, nd_X2_ofLeg, by decide, by decide⟩
theorem g_X8_hasPlaces_X2_ofWay : COK mX8_hasPlaces mX2_ofWay 62 2 := ⟨cw_X2_ofWay, lwg_at 849 (by decide +kernel) rfl, wc_X2, nd_X2_ofWay, by decide, by decide⟩
theorem g_X8_hasPlaces_X8_hasPlacesOn : COK mX8_hasPlaces mX8_hasPlacesOn 120 3 := ⟨cw_X8_hasPlacesOn, lwg_at 851 (by decide +kernel) rfl, wc_X8, nd_X8_hasPlacesOn, by decide, by decide⟩
theorem g_X8_hasPlacesOn_X2_ofLeg : COK mX8_hasPlacesOn mX2_ofLeg 66 3 := ⟨cw_X2_ofLeg, lwg_at 850 (by decide +kernel) rfl, wc_X2, nd_X2_ofLeg, by decide, by decide⟩
theorem g_X8_hasPlacesOn_X2_ridesOver : COK mX8_hasPlacesOn mX2_ridesOver 127 4 := ⟨cw_X2_ridesOver, lwg_at 859 (by decide +kernel) rfl, wc_X2, nd_X2_ridesOver, by decide, by decide⟩
theorem g_X8_hasPlacesOn_X3_at : COK mX8_hasPlacesOn mX3_at 124 3 := ⟨cw_X3_at, lwg_at 855 (by decide +kernel) rfl, wc_X3, nd_X3_at, by decide, by decide⟩
theorem g_X8_make_X2_ofLeg : COK mX8_make mX2_ofLeg 66 3 := ⟨cw_X2_ofLeg, lwg_at 850 (by decide +kernel) rfl, wc_X2, nd_X2_ofLeg, by decide, by decide⟩
theorem g_X8_make_X2_ofWay : COK mX8_make mX2_ofWay 62 2 := ⟨cw_X2_ofWay, lwg_at 849 (by decide +kernel) rfl, wc_X2, nd_X2_ofWay, by decide, by decide⟩
theorem g_X8_make_X8_changePlaces : COK mX8_make mX8_changePlaces 70 2 := ⟨cw_X8_changePlaces, lwg_at 863 (by decide +kernel) rfl, wc_X8, nd_X8_changePlaces, by decide, by decide⟩
theorem g_X8_make_X8_hasPlaces : COK mX8_make mX8_hasPlaces 54 2 := ⟨cw_X8_hasPlaces, lwg_at 845 (by decide +kernel) rfl, wc_X8, nd_X8_hasPlaces, by decide, by decide⟩
theorem g_X8_travel_X10_endsAt : COK mX8_travel mX10_endsAt 77 3 := ⟨cw_X10_endsAt, lwg_at 895 (by decide +kernel) rfl, wc_X10, nd_X10_endsAt, by decide, by decide⟩
theorem g_X8_travel_X8_canRide : COK mX8_travel mX8_canRide 86 2 := ⟨cw_X8_canRide, lwg_at 900 (by decide +kernel) rfl, wc_X8, nd_X8_canRide, by decide, by decide⟩
theorem g_X8_travel_X8_changeAt : COK mX8_travel mX8_changeAt 82 1 := ⟨cw_X8_changeAt, lwg_at 896 (by decide +kernel) rfl, wc_X8, nd_X8_changeAt, by decide, by decide⟩
theorem g_X8_travel_X9_comesAt : COK mX8_travel mX9_comesAt 90 3 := ⟨cw_X9_comesAt, lwg_at 911 (by decide +kernel) rfl, wc_X9, nd_X9_comesAt, by decide, by decide⟩
theorem g_X9_comesAt_X1_sum : COK mX9_comesAt mX1_sum 57 3 := ⟨cw_X1_sum, lwg_at 910 (by decide +kernel) rfl, wc_X1, nd_X1_sum, by decide, by decide⟩
theorem g_X9_hasCall_X9_has : COK mX9_hasCall mX9_has 53 1 := ⟨cw_X9_has, lwg_at 575 (by decide +kernel) rfl, wc_X9, nd_X9_has, by decide, by decide⟩
theorem g_X9_leavesAt_X1_sum : COK mX9_leavesAt mX1_sum 57 3 := ⟨cw_X1_sum, lwg_at 910 (by decide +kernel) rfl, wc_X1, nd_X1_sum, by decide, by decide⟩
theorem l_X11_196 : Cond.methodLink RX11 196 Lib.Math.max.name ∈ lwg := lwg_at 919 (by decide +kernel) rfl
theorem l_X2_104 : Cond.methodLink RX2 104 Lib.Math.min.name ∈ lwg := lwg_at 753 (by decide +kernel) rfl
theorem l_X4_59 : Cond.methodLink RX4 59 Lib.Math.max.name ∈ lwg := lwg_at 642 (by decide +kernel) rfl
theorem l_X4_62 : Cond.methodLink RX4 62 Lib.Math.min.name ∈ lwg := lwg_at 643 (by decide +kernel) rfl
theorem l_X5_81 : Cond.methodLink RX5 81 Lib.Math.min.name ∈ lwg := lwg_at 704 (by decide +kernel) rfl
theorem l_X7_25 : Cond.methodLink RX7 25 Lib.Math.max.name ∈ lwg := lwg_at 670 (by decide +kernel) rfl
theorem w_static_max : Cond.static Lib.Math.max.name ∈ lwg := lwg_at 418 (by decide +kernel) rfl
theorem w_code_max : Cond.code Lib.Math.max.name Lib.Math.max.code 2 (some .int) ∈ lwg := lwg_at 419 (by decide +kernel) rfl
theorem w_static_min : Cond.static Lib.Math.min.name ∈ lwg := lwg_at 644 (by decide +kernel) rfl
theorem w_code_min : Cond.code Lib.Math.min.name Lib.Math.min.code 2 (some .int) ∈ lwg := lwg_at 645 (by decide +kernel) rfl
theorem w_init_math : Cond.initialized "java/lang/Math" ∈ lwg := lwg_at 70 (by decide +kernel) rfl

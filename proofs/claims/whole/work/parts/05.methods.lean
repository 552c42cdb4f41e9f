theorem uw_X0 : ∀ w ∈ u_ws RX0 TX0 10, w ∈ zgw := fun w h => List.mem_filter.mpr ((by decide +kernel : ∀ w ∈ u_ws RX0 TX0 10, w ∈ lw_tbl ∧ goodWord w = true) w h)
theorem uw_X1 : ∀ w ∈ u_ws RX1 TX1 5, w ∈ zgw := fun w h => List.mem_filter.mpr ((by decide +kernel : ∀ w ∈ u_ws RX1 TX1 5, w ∈ lw_tbl ∧ goodWord w = true) w h)
theorem uw_X2 : ∀ w ∈ u_ws RX2 TX2 9, w ∈ zgw := fun w h => List.mem_filter.mpr ((by decide +kernel : ∀ w ∈ u_ws RX2 TX2 9, w ∈ lw_tbl ∧ goodWord w = true) w h)
theorem uw_X3 : ∀ w ∈ u_ws RX3 TX3 6, w ∈ zgw := fun w h => List.mem_filter.mpr ((by decide +kernel : ∀ w ∈ u_ws RX3 TX3 6, w ∈ lw_tbl ∧ goodWord w = true) w h)
theorem uw_X4 : ∀ w ∈ u_ws RX4 TX4 3, w ∈ zgw := fun w h => List.mem_filter.mpr ((by decide +kernel : ∀ w ∈ u_ws RX4 TX4 3, w ∈ lw_tbl ∧ goodWord w = true) w h)
theorem uw_X5 : ∀ w ∈ u_ws RX5 TX5 3, w ∈ zgw := fun w h => List.mem_filter.mpr ((by decide +kernel : ∀ w ∈ u_ws RX5 TX5 3, w ∈ lw_tbl ∧ goodWord w = true) w h)
theorem uw_X6 : ∀ w ∈ u_ws RX6 TX6 13, w ∈ zgw := fun w h => List.mem_filter.mpr ((by decide +kernel : ∀ w ∈ u_ws RX6 TX6 13, w ∈ lw_tbl ∧ goodWord w = true) w h)
theorem uw_X7 : ∀ w ∈ u_ws RX7 TX7 32, w ∈ zgw := fun w h => List.mem_filter.mpr ((by decide +kernel : ∀ w ∈ u_ws RX7 TX7 32, w ∈ lw_tbl ∧ goodWord w = true) w h)
def m_X0_hasCome : zI := (yX0_hasCome, cX0_hasCome, 2, (some .boolean), RX0, 0, 0)
def m_X0_isThere : zI := (yX0_isThere, cX0_isThere, 2, (some .boolean), RX0, 1, 0)
def m_X0_isAt : zI := (yX0_isAt, cX0_isAt, 4, (some .boolean), RX0, 0, 0)
def m_X0_isHeavier : zI := (yX0_isHeavier, cX0_isHeavier, 3, (some .boolean), RX0, 0, 0)
def m_X0_across : zI := (yX0_across, cX0_across, 3, (some .int), RX0, 0, 0)
def m_X0_howMany : zI := (yX0_howMany, cX0_howMany, 4, (some .int), RX0, 0, 0)
def m_X0_append : zI := (yX0_append, cX0_append, 7, (some .int), RX0, 1, 0)
def m_X0_chain : zI := (yX0_chain, cX0_chain, 3, none, RX0, 0, 0)
def m_X0_dropLatest : zI := (yX0_dropLatest, cX0_dropLatest, 1, none, RX0, 0, 0)
def m_X0_raise : zI := (yX0_raise, cX0_raise, 2, none, RX0, 0, 0)
def m_X0_lowerTo : zI := (yX0_lowerTo, cX0_lowerTo, 3, none, RX0, 0, 0)
def m_X1_spread : zI := (yX1_spread, cX1_spread, 6, none, RX1, 2, 0)
def m_X1_clear : zI := (yX1_clear, cX1_clear, 2, none, RX1, 0, 0)
def m_X1_reach : zI := (yX1_reach, cX1_reach, 4, none, RX1, 0, 0)
def m_X1_spreadFrom : zI := (yX1_spreadFrom, cX1_spreadFrom, 9, none, RX1, 1, 0)
def m_X1_before : zI := (yX1_before, cX1_before, 3, (some .int), RX1, 1, 0)
def m_X1_endsOf : zI := (yX1_endsOf, cX1_endsOf, 3, (some .int), RX1, 0, 0)
def m_X2_find : zI := (yX2_find, cX2_find, 4, none, RX2, 4, 0)
def m_X2_isBridge : zI := (yX2_isBridge, cX2_isBridge, 3, (some .boolean), RX2, 1, 0)
def m_X2_isBridgeTo : zI := (yX2_isBridgeTo, cX2_isBridgeTo, 3, (some .boolean), RX2, 0, 0)
def m_X2_walkFrom : zI := (yX2_walkFrom, cX2_walkFrom, 6, none, RX2, 3, 0)
def m_X2_enter : zI := (yX2_enter, cX2_enter, 4, none, RX2, 0, 0)
def m_X2_follow : zI := (yX2_follow, cX2_follow, 5, (some .int), RX2, 2, 0)
def m_X2_leave : zI := (yX2_leave, cX2_leave, 4, (some .int), RX2, 1, 0)
def m_X2_markCutKnot : zI := (yX2_markCutKnot, cX2_markCutKnot, 2, none, RX2, 0, 0)
def m_X3_note : zI := (yX3_note, cX3_note, 7, none, RX3, 0, 0)
def m_X3_takeLatest : zI := (yX3_takeLatest, cX3_takeLatest, 1, (some .int), RX3, 0, 0)
def m_X3_forget : zI := (yX3_forget, cX3_forget, 1, none, RX3, 0, 0)
def m_X4_begin : zI := (yX4_begin, cX4_begin, 2, none, RX4, 0, 0)
def m_X4_lay : zI := (yX4_lay, cX4_lay, 3, none, RX4, 0, 0)
def m_X5_lay : zI := (yX5_lay, cX5_lay, 6, none, RX5, 2, 0)
def m_X5_heaviestOf : zI := (yX5_heaviestOf, cX5_heaviestOf, 4, (some .int), RX5, 1, 0)
def m_X6_knot : zI := (yX6_knot, cX6_knot, 3, (some .int), RX6, 1, 0)
def m_X6_kind : zI := (yX6_kind, cX6_kind, 3, (some .int), RX6, 0, 0)
def m_X6_edge : zI := (yX6_edge, cX6_edge, 8, (some .int), RX6, 5, 0)
def m_X6_cut : zI := (yX6_cut, cX6_cut, 5, (some .int), RX6, 6, 0)
def m_X6_instead : zI := (yX6_instead, cX6_instead, 2, (some .int), RX6, 6, 0)
def m_X6_told : zI := (yX6_told, cX6_told, 3, (some .int), RX6, 5, 0)
def m_X6_weight : zI := (yX6_weight, cX6_weight, 2, (some .long), RX6, 1, 0)
def m_X6_count : zI := (yX6_count, cX6_count, 2, (some .int), RX6, 5, 0)
def m_X6_total : zI := (yX6_total, cX6_total, 4, (some .long), RX6, 0, 0)
def m_X6_together : zI := (yX6_together, cX6_together, 4, (some .int), RX6, 5, 0)
def m_X6_size : zI := (yX6_size, cX6_size, 2, (some .int), RX6, 4, 0)
def m_X6_member : zI := (yX6_member, cX6_member, 5, (some .int), RX6, 4, 0)
def m_X6_way : zI := (yX6_way, cX6_way, 3, (some .int), RX6, 5, 0)
def m_X6_between : zI := (yX6_between, cX6_between, 5, (some .int), RX6, 5, 0)
def m_X6_heaviest : zI := (yX6_heaviest, cX6_heaviest, 3, (some .int), RX6, 5, 0)
def m_X6_sum : zI := (yX6_sum, cX6_sum, 7, (some .long), RX6, 5, 0)
def m_X6_least : zI := (yX6_least, cX6_least, 7, (some .long), RX6, 5, 0)
def m_X6_add : zI := (yX6_add, cX6_add, 6, (some .int), RX6, 5, 0)
def m_X6_value : zI := (yX6_value, cX6_value, 2, (some .long), RX6, 1, 0)
def m_X6_set : zI := (yX6_set, cX6_set, 4, (some .int), RX6, 1, 0)
def m_X6_root : zI := (yX6_root, cX6_root, 3, (some .int), RX6, 4, 0)
def m_X6_below : zI := (yX6_below, cX6_below, 3, (some .int), RX6, 5, 0)
def m_X6_meet : zI := (yX6_meet, cX6_meet, 6, (some .int), RX6, 5, 0)
def m_X6_sumBelow : zI := (yX6_sumBelow, cX6_sumBelow, 5, (some .long), RX6, 5, 0)
def m_X6_addBelow : zI := (yX6_addBelow, cX6_addBelow, 4, (some .int), RX6, 5, 0)
def m_X6_undo : zI := (yX6_undo, cX6_undo, 2, (some .int), RX6, 6, 0)
def m_X6_put : zI := (yX6_put, cX6_put, 6, (some .int), RX6, 6, 0)
def m_X6_forge : zI := (yX6_forge, cX6_forge, 5, (some .int), RX6, 2, 0)
def m_X6_status : zI := (yX6_status, cX6_status, 1, (some .int), RX6, 0, 0)
def m_X6_isKnot : zI := (yX6_isKnot, cX6_isKnot, 2, (some .boolean), RX6, 0, 0)
def m_X6_isTray : zI := (yX6_isTray, cX6_isTray, 2, (some .boolean), RX6, 0, 0)
def m_X6_layTrack : zI := (yX6_layTrack, cX6_layTrack, 3, (some .int), RX6, 4, 0)
def m_X6_floodPart : zI := (yX6_floodPart, cX6_floodPart, 2, none, RX6, 3, 0)
def m_X6_findRoot : zI := (yX6_findRoot, cX6_findRoot, 5, (some .int), RX6, 3, 0)
def m_X6_floodFromRoot : zI := (yX6_floodFromRoot, cX6_floodFromRoot, 2, none, RX6, 4, 0)
def m_X6_floodBelow : zI := (yX6_floodBelow, cX6_floodBelow, 2, none, RX6, 4, 0)
def m_X6_addOnTrack : zI := (yX6_addOnTrack, cX6_addOnTrack, 4, (some .int), RX6, 0, 0)
def m_X6_addOnFlood : zI := (yX6_addOnFlood, cX6_addOnFlood, 4, (some .int), RX6, 0, 0)
def m_X6_displaceHeavier : zI := (yX6_displaceHeavier, cX6_displaceHeavier, 3, (some .int), RX6, 2, 0)
def m_X6_findHeir : zI := (yX6_findHeir, cX6_findHeir, 3, (some .int), RX6, 5, 0)
def m_X6_findHeirByLevels : zI := (yX6_findHeirByLevels, cX6_findHeirByLevels, 6, (some .int), RX6, 4, 0)
def m_X6_floodSmaller : zI := (yX6_floodSmaller, cX6_floodSmaller, 3, (some (.object "ForestKeeper$Flood")), RX6, 3, 0)
def m_X6_raiseTrees : zI := (yX6_raiseTrees, cX6_raiseTrees, 4, none, RX6, 1, 0)
def m_X6_findHeirAt : zI := (yX6_findHeirAt, cX6_findHeirAt, 6, (some .int), RX6, 1, 0)
def m_X6_findLightestAcross : zI := (yX6_findLightestAcross, cX6_findLightestAcross, 4, (some .int), RX6, 3, 0)
def m_X6_takeBack : zI := (yX6_takeBack, cX6_takeBack, 6, none, RX6, 5, 0)
def m_X6_takeBackCut : zI := (yX6_takeBackCut, cX6_takeBackCut, 5, none, RX6, 1, 0)
def m_X6_refuse : zI := (yX6_refuse, cX6_refuse, 2, (some .int), RX6, 0, 0)
def m_X6_grant : zI := (yX6_grant, cX6_grant, 2, (some .int), RX6, 0, 0)
def m_X6_canPut : zI := (yX6_canPut, cX6_canPut, 4, (some .boolean), RX6, 5, 0)
def m_X6_putKnots : zI := (yX6_putKnots, cX6_putKnots, 4, none, RX6, 4, 0)
def m_X6_putWeights : zI := (yX6_putWeights, cX6_putWeights, 6, none, RX6, 5, 0)
def m_X6_putTruths : zI := (yX6_putTruths, cX6_putTruths, 4, none, RX6, 4, 0)
def m_X6_whyNot : zI := (yX6_whyNot, cX6_whyNot, 3, (some .int), RX6, 0, 0)
def m_X6_pick : zI := (yX6_pick, cX6_pick, 5, (some .int), RX6, 1, 0)
def m_X6_countLike : zI := (yX6_countLike, cX6_countLike, 6, (some .int), RX6, 1, 0)
def m_X6_sumOfCopy : zI := (yX6_sumOfCopy, cX6_sumOfCopy, 6, (some .int), RX6, 1, 0)
def m_X6_layIntoRows : zI := (yX6_layIntoRows, cX6_layIntoRows, 2, (some .int), RX6, 1, 0)
def m_X7_isKnot : zI := (yX7_isKnot, cX7_isKnot, 2, (some .boolean), RX7, 0, 1)
def m_X7_isThere : zI := (yX7_isThere, cX7_isThere, 2, (some .boolean), RX7, 0, 1)
def m_X7_keep : zI := (yX7_keep, cX7_keep, 3, none, RX7, 0, 1)
def m_X7_back : zI := (yX7_back, cX7_back, 3, none, RX7, 0, 1)
def m_X7_move : zI := (yX7_move, cX7_move, 4, none, RX7, 0, 1)
def m_X7_changes : zI := (yX7_changes, cX7_changes, 2, none, RX7, 1, 1)
def m_X7_undo : zI := (yX7_undo, cX7_undo, 1, (some .int), RX7, 1, 1)
def m_X7_reach : zI := (yX7_reach, cX7_reach, 12, (some .int), RX7, 0, 1)
def m_X7_part : zI := (yX7_part, cX7_part, 2, (some .int), RX7, 1, 1)
def m_X7_isTogether : zI := (yX7_isTogether, cX7_isTogether, 3, (some .boolean), RX7, 2, 1)
def m_X7_finds : zI := (yX7_finds, cX7_finds, 5, (some .boolean), RX7, 2, 1)
def m_X7_isHeavier : zI := (yX7_isHeavier, cX7_isHeavier, 3, (some .boolean), RX7, 0, 1)
def m_X7_heaviestOfWay : zI := (yX7_heaviestOfWay, cX7_heaviestOfWay, 3, (some .int), RX7, 1, 1)
def m_X7_rootOf : zI := (yX7_rootOf, cX7_rootOf, 4, (some .int), RX7, 2, 1)
def m_X7_knot : zI := (yX7_knot, cX7_knot, 3, (some .int), RX7, 0, 1)
def m_X7_kind : zI := (yX7_kind, cX7_kind, 3, (some .int), RX7, 0, 1)
def m_X7_edge : zI := (yX7_edge, cX7_edge, 8, (some .int), RX7, 3, 1)
def m_X7_goes : zI := (yX7_goes, cX7_goes, 3, (some .int), RX7, 2, 1)
def m_X7_lightest : zI := (yX7_lightest, cX7_lightest, 5, (some .int), RX7, 1, 1)
def m_X7_byLevels : zI := (yX7_byLevels, cX7_byLevels, 9, (some .int), RX7, 1, 1)
def m_X7_cut : zI := (yX7_cut, cX7_cut, 2, (some .int), RX7, 3, 1)
def m_X7_instead : zI := (yX7_instead, cX7_instead, 3, (some .int), RX7, 3, 1)
def m_X7_isBridge : zI := (yX7_isBridge, cX7_isBridge, 2, (some .boolean), RX7, 1, 1)
def m_X7_told : zI := (yX7_told, cX7_told, 3, (some .int), RX7, 2, 1)
def m_X7_weight : zI := (yX7_weight, cX7_weight, 2, (some .long), RX7, 0, 1)
def m_X7_isCut : zI := (yX7_isCut, cX7_isCut, 5, (some .boolean), RX7, 1, 1)
def m_X7_parts : zI := (yX7_parts, cX7_parts, 5, (some .int), RX7, 2, 1)
def m_X7_count : zI := (yX7_count, cX7_count, 4, (some .int), RX7, 3, 1)
def m_X7_total : zI := (yX7_total, cX7_total, 4, (some .long), RX7, 0, 1)
def m_X7_together : zI := (yX7_together, cX7_together, 3, (some .int), RX7, 3, 1)
def m_X7_size : zI := (yX7_size, cX7_size, 2, (some .int), RX7, 2, 1)
def m_X7_member : zI := (yX7_member, cX7_member, 5, (some .int), RX7, 2, 1)
def m_X7_way : zI := (yX7_way, cX7_way, 3, (some .int), RX7, 3, 1)
def m_X7_between : zI := (yX7_between, cX7_between, 4, (some .int), RX7, 3, 1)
def m_X7_heaviest : zI := (yX7_heaviest, cX7_heaviest, 3, (some .int), RX7, 3, 1)
def m_X7_sum : zI := (yX7_sum, cX7_sum, 6, (some .long), RX7, 3, 1)
def m_X7_least : zI := (yX7_least, cX7_least, 6, (some .long), RX7, 3, 1)
def m_X7_add : zI := (yX7_add, cX7_add, 6, (some .int), RX7, 3, 1)
def m_X7_value : zI := (yX7_value, cX7_value, 2, (some .long), RX7, 1, 1)
def m_X7_set : zI := (yX7_set, cX7_set, 4, (some .int), RX7, 2, 1)
def m_X7_root : zI := (yX7_root, cX7_root, 3, (some .int), RX7, 3, 1)
def m_X7_marksBelow : zI := (yX7_marksBelow, cX7_marksBelow, 6, (some .int), RX7, 3, 1)
def m_X7_below : zI := (yX7_below, cX7_below, 4, (some .int), RX7, 4, 1)
def m_X7_meet : zI := (yX7_meet, cX7_meet, 5, (some .int), RX7, 3, 1)
def m_X7_sumBelow : zI := (yX7_sumBelow, cX7_sumBelow, 5, (some .long), RX7, 4, 1)
def m_X7_addBelow : zI := (yX7_addBelow, cX7_addBelow, 6, (some .int), RX7, 4, 1)
def m_X7_refused : zI := (yX7_refused, cX7_refused, 2, (some .int), RX7, 0, 1)
def m_X7_done : zI := (yX7_done, cX7_done, 2, (some .int), RX7, 0, 1)
def m_X7_put : zI := (yX7_put, cX7_put, 7, (some .int), RX7, 3, 1)
def m_X7_forge : zI := (yX7_forge, cX7_forge, 8, (some .int), RX7, 1, 1)
def m_X7_status : zI := (yX7_status, cX7_status, 1, (some .int), RX7, 0, 1)
def m_J7_fill_53178 : zI := (yJ7_fill_53178, cJ7_fill_53178, 4, none, RJ7, 0, 0)
theorem fl_X0_9 : z_fl RX0 9 0 0 := ⟨_, _, _, rfl, by decide, List.mem_filter.mpr (by decide +kernel), uw_X0⟩
theorem fl_X0_15 : z_fl RX0 15 0 1 := ⟨_, _, _, rfl, by decide, List.mem_filter.mpr (by decide +kernel), uw_X0⟩
theorem fl_X0_18 : z_fl RX0 18 0 2 := ⟨_, _, _, rfl, by decide, List.mem_filter.mpr (by decide +kernel), uw_X0⟩
theorem fl_X0_22 : z_fl RX0 22 0 3 := ⟨_, _, _, rfl, by decide, List.mem_filter.mpr (by decide +kernel), uw_X0⟩
theorem fl_X0_25 : z_fl RX0 25 0 4 := ⟨_, _, _, rfl, by decide, List.mem_filter.mpr (by decide +kernel), uw_X0⟩
theorem fl_X0_28 : z_fl RX0 28 0 5 := ⟨_, _, _, rfl, by decide, List.mem_filter.mpr (by decide +kernel), uw_X0⟩
theorem fl_X0_31 : z_fl RX0 31 0 6 := ⟨_, _, _, rfl, by decide, List.mem_filter.mpr (by decide +kernel), uw_X0⟩
theorem fl_X0_34 : z_fl RX0 34 0 7 := ⟨_, _, _, rfl, by decide, List.mem_filter.mpr (by decide +kernel), uw_X0⟩
theorem fl_X0_43 : z_fl RX0 43 0 8 := ⟨_, _, _, rfl, by decide, List.mem_filter.mpr (by decide +kernel), uw_X0⟩
theorem fl_X0_55 : z_fl RX0 55 0 9 := ⟨_, _, _, rfl, by decide, List.mem_filter.mpr (by decide +kernel), uw_X0⟩
theorem fl_X1_9 : z_fl RX1 9 1 0 := ⟨_, _, _, rfl, by decide, List.mem_filter.mpr (by decide +kernel), uw_X1⟩
theorem fl_X1_15 : z_fl RX1 15 1 1 := ⟨_, _, _, rfl, by decide, List.mem_filter.mpr (by decide +kernel), uw_X1⟩
theorem fl_X1_18 : z_fl RX1 18 1 2 := ⟨_, _, _, rfl, by decide, List.mem_filter.mpr (by decide +kernel), uw_X1⟩
theorem fl_X1_21 : z_fl RX1 21 1 3 := ⟨_, _, _, rfl, by decide, List.mem_filter.mpr (by decide +kernel), uw_X1⟩
theorem fl_X1_32 : z_fl RX1 32 1 4 := ⟨_, _, _, rfl, by decide, List.mem_filter.mpr (by decide +kernel), uw_X1⟩
theorem fl_X1_40 : z_fl RX1 40 0 5 := ⟨_, _, _, rfl, by decide, List.mem_filter.mpr (by decide +kernel), uw_X0⟩
theorem fl_X1_49 : z_fl RX1 49 0 3 := ⟨_, _, _, rfl, by decide, List.mem_filter.mpr (by decide +kernel), uw_X0⟩
theorem fl_X1_52 : z_fl RX1 52 0 4 := ⟨_, _, _, rfl, by decide, List.mem_filter.mpr (by decide +kernel), uw_X0⟩
theorem fl_X1_55 : z_fl RX1 55 0 6 := ⟨_, _, _, rfl, by decide, List.mem_filter.mpr (by decide +kernel), uw_X0⟩
theorem fl_X1_58 : z_fl RX1 58 0 0 := ⟨_, _, _, rfl, by decide, List.mem_filter.mpr (by decide +kernel), uw_X0⟩
theorem fl_X1_61 : z_fl RX1 61 0 1 := ⟨_, _, _, rfl, by decide, List.mem_filter.mpr (by decide +kernel), uw_X0⟩
theorem fl_X2_9 : z_fl RX2 9 2 0 := ⟨_, _, _, rfl, by decide, List.mem_filter.mpr (by decide +kernel), uw_X2⟩
theorem fl_X2_15 : z_fl RX2 15 2 1 := ⟨_, _, _, rfl, by decide, List.mem_filter.mpr (by decide +kernel), uw_X2⟩
theorem fl_X2_18 : z_fl RX2 18 2 2 := ⟨_, _, _, rfl, by decide, List.mem_filter.mpr (by decide +kernel), uw_X2⟩
theorem fl_X2_21 : z_fl RX2 21 2 3 := ⟨_, _, _, rfl, by decide, List.mem_filter.mpr (by decide +kernel), uw_X2⟩
theorem fl_X2_24 : z_fl RX2 24 2 4 := ⟨_, _, _, rfl, by decide, List.mem_filter.mpr (by decide +kernel), uw_X2⟩
theorem fl_X2_34 : z_fl RX2 34 2 5 := ⟨_, _, _, rfl, by decide, List.mem_filter.mpr (by decide +kernel), uw_X2⟩
theorem fl_X2_38 : z_fl RX2 38 2 7 := ⟨_, _, _, rfl, by decide, List.mem_filter.mpr (by decide +kernel), uw_X2⟩
theorem fl_X2_41 : z_fl RX2 41 2 8 := ⟨_, _, _, rfl, by decide, List.mem_filter.mpr (by decide +kernel), uw_X2⟩
theorem fl_X2_48 : z_fl RX2 48 0 0 := ⟨_, _, _, rfl, by decide, List.mem_filter.mpr (by decide +kernel), uw_X0⟩
theorem fl_X2_57 : z_fl RX2 57 0 1 := ⟨_, _, _, rfl, by decide, List.mem_filter.mpr (by decide +kernel), uw_X0⟩
theorem fl_X2_60 : z_fl RX2 60 2 6 := ⟨_, _, _, rfl, by decide, List.mem_filter.mpr (by decide +kernel), uw_X2⟩
theorem fl_X2_71 : z_fl RX2 71 0 6 := ⟨_, _, _, rfl, by decide, List.mem_filter.mpr (by decide +kernel), uw_X0⟩
theorem fl_X2_80 : z_fl RX2 80 0 5 := ⟨_, _, _, rfl, by decide, List.mem_filter.mpr (by decide +kernel), uw_X0⟩
theorem fl_X3_9 : z_fl RX3 9 3 0 := ⟨_, _, _, rfl, by decide, List.mem_filter.mpr (by decide +kernel), uw_X3⟩
theorem fl_X3_15 : z_fl RX3 15 3 1 := ⟨_, _, _, rfl, by decide, List.mem_filter.mpr (by decide +kernel), uw_X3⟩
theorem fl_X3_18 : z_fl RX3 18 3 2 := ⟨_, _, _, rfl, by decide, List.mem_filter.mpr (by decide +kernel), uw_X3⟩
theorem fl_X3_21 : z_fl RX3 21 3 3 := ⟨_, _, _, rfl, by decide, List.mem_filter.mpr (by decide +kernel), uw_X3⟩
theorem fl_X3_25 : z_fl RX3 25 3 5 := ⟨_, _, _, rfl, by decide, List.mem_filter.mpr (by decide +kernel), uw_X3⟩
theorem fl_X3_29 : z_fl RX3 29 3 4 := ⟨_, _, _, rfl, by decide, List.mem_filter.mpr (by decide +kernel), uw_X3⟩
theorem fl_X4_9 : z_fl RX4 9 4 0 := ⟨_, _, _, rfl, by decide, List.mem_filter.mpr (by decide +kernel), uw_X4⟩
theorem fl_X4_19 : z_fl RX4 19 4 2 := ⟨_, _, _, rfl, by decide, List.mem_filter.mpr (by decide +kernel), uw_X4⟩
theorem fl_X5_9 : z_fl RX5 9 5 0 := ⟨_, _, _, rfl, by decide, List.mem_filter.mpr (by decide +kernel), uw_X5⟩
theorem fl_X5_15 : z_fl RX5 15 5 1 := ⟨_, _, _, rfl, by decide, List.mem_filter.mpr (by decide +kernel), uw_X5⟩
theorem fl_X5_18 : z_fl RX5 18 5 2 := ⟨_, _, _, rfl, by decide, List.mem_filter.mpr (by decide +kernel), uw_X5⟩
theorem fl_X5_22 : z_fl RX5 22 1 3 := ⟨_, _, _, rfl, by decide, List.mem_filter.mpr (by decide +kernel), uw_X1⟩
theorem fl_X5_28 : z_fl RX5 28 1 1 := ⟨_, _, _, rfl, by decide, List.mem_filter.mpr (by decide +kernel), uw_X1⟩
theorem fl_X5_31 : z_fl RX5 31 1 2 := ⟨_, _, _, rfl, by decide, List.mem_filter.mpr (by decide +kernel), uw_X1⟩
theorem fl_X6_9 : z_fl RX6 9 6 0 := ⟨_, _, _, rfl, by decide, List.mem_filter.mpr (by decide +kernel), uw_X6⟩
theorem fl_X6_13 : z_fl RX6 13 6 1 := ⟨_, _, _, rfl, by decide, List.mem_filter.mpr (by decide +kernel), uw_X6⟩
theorem fl_X6_20 : z_fl RX6 20 6 2 := ⟨_, _, _, rfl, by decide, List.mem_filter.mpr (by decide +kernel), uw_X6⟩
theorem fl_X6_27 : z_fl RX6 27 6 3 := ⟨_, _, _, rfl, by decide, List.mem_filter.mpr (by decide +kernel), uw_X6⟩
theorem fl_X6_31 : z_fl RX6 31 6 4 := ⟨_, _, _, rfl, by decide, List.mem_filter.mpr (by decide +kernel), uw_X6⟩
theorem fl_X6_37 : z_fl RX6 37 6 5 := ⟨_, _, _, rfl, by decide, List.mem_filter.mpr (by decide +kernel), uw_X6⟩
theorem fl_X6_44 : z_fl RX6 44 6 6 := ⟨_, _, _, rfl, by decide, List.mem_filter.mpr (by decide +kernel), uw_X6⟩
theorem fl_X6_51 : z_fl RX6 51 6 7 := ⟨_, _, _, rfl, by decide, List.mem_filter.mpr (by decide +kernel), uw_X6⟩
theorem fl_X6_57 : z_fl RX6 57 6 8 := ⟨_, _, _, rfl, by decide, List.mem_filter.mpr (by decide +kernel), uw_X6⟩
theorem fl_X6_61 : z_fl RX6 61 6 11 := ⟨_, _, _, rfl, by decide, List.mem_filter.mpr (by decide +kernel), uw_X6⟩
theorem fl_X6_65 : z_fl RX6 65 6 12 := ⟨_, _, _, rfl, by decide, List.mem_filter.mpr (by decide +kernel), uw_X6⟩
theorem fl_X6_69 : z_fl RX6 69 6 9 := ⟨_, _, _, rfl, by decide, List.mem_filter.mpr (by decide +kernel), uw_X6⟩
theorem fl_X6_75 : z_fl RX6 75 0 8 := ⟨_, _, _, rfl, by decide, List.mem_filter.mpr (by decide +kernel), uw_X0⟩
theorem fl_X6_101 : z_fl RX6 101 0 3 := ⟨_, _, _, rfl, by decide, List.mem_filter.mpr (by decide +kernel), uw_X0⟩
theorem fl_X6_104 : z_fl RX6 104 0 9 := ⟨_, _, _, rfl, by decide, List.mem_filter.mpr (by decide +kernel), uw_X0⟩
theorem fl_X6_114 : z_fl RX6 114 0 0 := ⟨_, _, _, rfl, by decide, List.mem_filter.mpr (by decide +kernel), uw_X0⟩
theorem fl_X6_117 : z_fl RX6 117 0 1 := ⟨_, _, _, rfl, by decide, List.mem_filter.mpr (by decide +kernel), uw_X0⟩
theorem fl_X6_120 : z_fl RX6 120 0 4 := ⟨_, _, _, rfl, by decide, List.mem_filter.mpr (by decide +kernel), uw_X0⟩
theorem fl_X6_131 : z_fl RX6 131 0 2 := ⟨_, _, _, rfl, by decide, List.mem_filter.mpr (by decide +kernel), uw_X0⟩
theorem fl_X6_139 : z_fl RX6 139 2 7 := ⟨_, _, _, rfl, by decide, List.mem_filter.mpr (by decide +kernel), uw_X2⟩
theorem fl_X6_142 : z_fl RX6 142 2 8 := ⟨_, _, _, rfl, by decide, List.mem_filter.mpr (by decide +kernel), uw_X2⟩
theorem fl_X6_145 : z_fl RX6 145 3 5 := ⟨_, _, _, rfl, by decide, List.mem_filter.mpr (by decide +kernel), uw_X3⟩
theorem fl_X6_152 : z_fl RX6 152 1 4 := ⟨_, _, _, rfl, by decide, List.mem_filter.mpr (by decide +kernel), uw_X1⟩
theorem fl_X6_153 : z_fl RX6 153 1 3 := ⟨_, _, _, rfl, by decide, List.mem_filter.mpr (by decide +kernel), uw_X1⟩
theorem fl_X6_157 : z_fl RX6 157 5 0 := ⟨_, _, _, rfl, by decide, List.mem_filter.mpr (by decide +kernel), uw_X5⟩
theorem fl_X6_176 : z_fl RX6 176 6 10 := ⟨_, _, _, rfl, by decide, List.mem_filter.mpr (by decide +kernel), uw_X6⟩
theorem fl_X6_186 : z_fl RX6 186 1 1 := ⟨_, _, _, rfl, by decide, List.mem_filter.mpr (by decide +kernel), uw_X1⟩
theorem fl_X6_192 : z_fl RX6 192 2 4 := ⟨_, _, _, rfl, by decide, List.mem_filter.mpr (by decide +kernel), uw_X2⟩
theorem fl_X6_195 : z_fl RX6 195 1 0 := ⟨_, _, _, rfl, by decide, List.mem_filter.mpr (by decide +kernel), uw_X1⟩
theorem fl_X6_205 : z_fl RX6 205 3 0 := ⟨_, _, _, rfl, by decide, List.mem_filter.mpr (by decide +kernel), uw_X3⟩
theorem fl_X6_208 : z_fl RX6 208 3 1 := ⟨_, _, _, rfl, by decide, List.mem_filter.mpr (by decide +kernel), uw_X3⟩
theorem fl_X6_211 : z_fl RX6 211 3 2 := ⟨_, _, _, rfl, by decide, List.mem_filter.mpr (by decide +kernel), uw_X3⟩
theorem fl_X6_214 : z_fl RX6 214 3 3 := ⟨_, _, _, rfl, by decide, List.mem_filter.mpr (by decide +kernel), uw_X3⟩
theorem fl_X6_269 : z_fl RX6 269 5 2 := ⟨_, _, _, rfl, by decide, List.mem_filter.mpr (by decide +kernel), uw_X5⟩
theorem fl_X6_274 : z_fl RX6 274 1 2 := ⟨_, _, _, rfl, by decide, List.mem_filter.mpr (by decide +kernel), uw_X1⟩
theorem fl_X6_318 : z_fl RX6 318 5 1 := ⟨_, _, _, rfl, by decide, List.mem_filter.mpr (by decide +kernel), uw_X5⟩
theorem fl_X6_321 : z_fl RX6 321 4 1 := ⟨_, _, _, rfl, by decide, List.mem_filter.mpr (by decide +kernel), uw_X4⟩
theorem fl_X6_327 : z_fl RX6 327 4 2 := ⟨_, _, _, rfl, by decide, List.mem_filter.mpr (by decide +kernel), uw_X4⟩
theorem fl_X6_328 : z_fl RX6 328 4 0 := ⟨_, _, _, rfl, by decide, List.mem_filter.mpr (by decide +kernel), uw_X4⟩
theorem fl_X7_7 : z_fl RX7 7 7 5 := ⟨_, _, _, rfl, by decide, List.mem_filter.mpr (by decide +kernel), uw_X7⟩
theorem fl_X7_13 : z_fl RX7 13 7 6 := ⟨_, _, _, rfl, by decide, List.mem_filter.mpr (by decide +kernel), uw_X7⟩
theorem fl_X7_17 : z_fl RX7 17 7 7 := ⟨_, _, _, rfl, by decide, List.mem_filter.mpr (by decide +kernel), uw_X7⟩
theorem fl_X7_20 : z_fl RX7 20 7 8 := ⟨_, _, _, rfl, by decide, List.mem_filter.mpr (by decide +kernel), uw_X7⟩
theorem fl_X7_23 : z_fl RX7 23 7 9 := ⟨_, _, _, rfl, by decide, List.mem_filter.mpr (by decide +kernel), uw_X7⟩
theorem fl_X7_26 : z_fl RX7 26 7 10 := ⟨_, _, _, rfl, by decide, List.mem_filter.mpr (by decide +kernel), uw_X7⟩
theorem fl_X7_29 : z_fl RX7 29 7 11 := ⟨_, _, _, rfl, by decide, List.mem_filter.mpr (by decide +kernel), uw_X7⟩
theorem fl_X7_32 : z_fl RX7 32 7 13 := ⟨_, _, _, rfl, by decide, List.mem_filter.mpr (by decide +kernel), uw_X7⟩
theorem fl_X7_35 : z_fl RX7 35 7 14 := ⟨_, _, _, rfl, by decide, List.mem_filter.mpr (by decide +kernel), uw_X7⟩
theorem fl_X7_38 : z_fl RX7 38 7 15 := ⟨_, _, _, rfl, by decide, List.mem_filter.mpr (by decide +kernel), uw_X7⟩
theorem fl_X7_41 : z_fl RX7 41 7 16 := ⟨_, _, _, rfl, by decide, List.mem_filter.mpr (by decide +kernel), uw_X7⟩
theorem fl_X7_44 : z_fl RX7 44 7 17 := ⟨_, _, _, rfl, by decide, List.mem_filter.mpr (by decide +kernel), uw_X7⟩
theorem fl_X7_47 : z_fl RX7 47 7 18 := ⟨_, _, _, rfl, by decide, List.mem_filter.mpr (by decide +kernel), uw_X7⟩
theorem fl_X7_50 : z_fl RX7 50 7 19 := ⟨_, _, _, rfl, by decide, List.mem_filter.mpr (by decide +kernel), uw_X7⟩
theorem fl_X7_53 : z_fl RX7 53 7 20 := ⟨_, _, _, rfl, by decide, List.mem_filter.mpr (by decide +kernel), uw_X7⟩
theorem fl_X7_57 : z_fl RX7 57 7 21 := ⟨_, _, _, rfl, by decide, List.mem_filter.mpr (by decide +kernel), uw_X7⟩
theorem fl_X7_60 : z_fl RX7 60 7 22 := ⟨_, _, _, rfl, by decide, List.mem_filter.mpr (by decide +kernel), uw_X7⟩
theorem fl_X7_63 : z_fl RX7 63 7 23 := ⟨_, _, _, rfl, by decide, List.mem_filter.mpr (by decide +kernel), uw_X7⟩
theorem fl_X7_66 : z_fl RX7 66 7 24 := ⟨_, _, _, rfl, by decide, List.mem_filter.mpr (by decide +kernel), uw_X7⟩
theorem fl_X7_69 : z_fl RX7 69 7 25 := ⟨_, _, _, rfl, by decide, List.mem_filter.mpr (by decide +kernel), uw_X7⟩
theorem fl_X7_72 : z_fl RX7 72 7 27 := ⟨_, _, _, rfl, by decide, List.mem_filter.mpr (by decide +kernel), uw_X7⟩
theorem fl_X7_75 : z_fl RX7 75 7 28 := ⟨_, _, _, rfl, by decide, List.mem_filter.mpr (by decide +kernel), uw_X7⟩
theorem fl_X7_78 : z_fl RX7 78 7 29 := ⟨_, _, _, rfl, by decide, List.mem_filter.mpr (by decide +kernel), uw_X7⟩
theorem fl_X7_81 : z_fl RX7 81 7 30 := ⟨_, _, _, rfl, by decide, List.mem_filter.mpr (by decide +kernel), uw_X7⟩
theorem fl_X7_84 : z_fl RX7 84 7 0 := ⟨_, _, _, rfl, by decide, List.mem_filter.mpr (by decide +kernel), uw_X7⟩
theorem fl_X7_88 : z_fl RX7 88 7 1 := ⟨_, _, _, rfl, by decide, List.mem_filter.mpr (by decide +kernel), uw_X7⟩
theorem fl_X7_91 : z_fl RX7 91 7 3 := ⟨_, _, _, rfl, by decide, List.mem_filter.mpr (by decide +kernel), uw_X7⟩
theorem fl_X7_94 : z_fl RX7 94 7 4 := ⟨_, _, _, rfl, by decide, List.mem_filter.mpr (by decide +kernel), uw_X7⟩
theorem fl_X7_97 : z_fl RX7 97 7 12 := ⟨_, _, _, rfl, by decide, List.mem_filter.mpr (by decide +kernel), uw_X7⟩
theorem fl_X7_119 : z_fl RX7 119 7 26 := ⟨_, _, _, rfl, by decide, List.mem_filter.mpr (by decide +kernel), uw_X7⟩
theorem fl_X7_126 : z_fl RX7 126 7 2 := ⟨_, _, _, rfl, by decide, List.mem_filter.mpr (by decide +kernel), uw_X7⟩
theorem fl_X7_175 : z_fl RX7 175 7 31 := ⟨_, _, _, rfl, by decide, List.mem_filter.mpr (by decide +kernel), uw_X7⟩
theorem fw_X0_43 : z_fw RX0 43 0 8 := ⟨_, _, _, tyX0, rfl, by decide, List.mem_filter.mpr (by decide +kernel), uw_X0, tyX0_ok, nmX0, rfl, rfl⟩
theorem fw_X0_55 : z_fw RX0 55 0 9 := ⟨_, _, _, tyX0, rfl, by decide, List.mem_filter.mpr (by decide +kernel), uw_X0, tyX0_ok, nmX0, rfl, rfl⟩
theorem fw_X1_32 : z_fw RX1 32 1 4 := ⟨_, _, _, tyX1, rfl, by decide, List.mem_filter.mpr (by decide +kernel), uw_X1, tyX1_ok, nmX1, rfl, rfl⟩
theorem fw_X2_34 : z_fw RX2 34 2 5 := ⟨_, _, _, tyX2, rfl, by decide, List.mem_filter.mpr (by decide +kernel), uw_X2, tyX2_ok, nmX2, rfl, rfl⟩
theorem fw_X2_38 : z_fw RX2 38 2 7 := ⟨_, _, _, tyX2, rfl, by decide, List.mem_filter.mpr (by decide +kernel), uw_X2, tyX2_ok, nmX2, rfl, rfl⟩
theorem fw_X2_41 : z_fw RX2 41 2 8 := ⟨_, _, _, tyX2, rfl, by decide, List.mem_filter.mpr (by decide +kernel), uw_X2, tyX2_ok, nmX2, rfl, rfl⟩
theorem fw_X2_60 : z_fw RX2 60 2 6 := ⟨_, _, _, tyX2, rfl, by decide, List.mem_filter.mpr (by decide +kernel), uw_X2, tyX2_ok, nmX2, rfl, rfl⟩
theorem fw_X3_25 : z_fw RX3 25 3 5 := ⟨_, _, _, tyX3, rfl, by decide, List.mem_filter.mpr (by decide +kernel), uw_X3, tyX3_ok, nmX3, rfl, rfl⟩
theorem fw_X3_29 : z_fw RX3 29 3 4 := ⟨_, _, _, tyX3, rfl, by decide, List.mem_filter.mpr (by decide +kernel), uw_X3, tyX3_ok, nmX3, rfl, rfl⟩
theorem fw_X4_15 : z_fw RX4 15 4 1 := ⟨_, _, _, tyX4, rfl, by decide, List.mem_filter.mpr (by decide +kernel), uw_X4, tyX4_ok, nmX4, rfl, rfl⟩
theorem fw_X4_19 : z_fw RX4 19 4 2 := ⟨_, _, _, tyX4, rfl, by decide, List.mem_filter.mpr (by decide +kernel), uw_X4, tyX4_ok, nmX4, rfl, rfl⟩
theorem fw_X5_18 : z_fw RX5 18 5 2 := ⟨_, _, _, tyX5, rfl, by decide, List.mem_filter.mpr (by decide +kernel), uw_X5, tyX5_ok, nmX5, rfl, rfl⟩
theorem fw_X6_61 : z_fw RX6 61 6 11 := ⟨_, _, _, tyX6, rfl, by decide, List.mem_filter.mpr (by decide +kernel), uw_X6, tyX6_ok, nmX6, rfl, rfl⟩
theorem fw_X6_65 : z_fw RX6 65 6 12 := ⟨_, _, _, tyX6, rfl, by decide, List.mem_filter.mpr (by decide +kernel), uw_X6, tyX6_ok, nmX6, rfl, rfl⟩
theorem fw_X6_69 : z_fw RX6 69 6 9 := ⟨_, _, _, tyX6, rfl, by decide, List.mem_filter.mpr (by decide +kernel), uw_X6, tyX6_ok, nmX6, rfl, rfl⟩
theorem fw_X6_176 : z_fw RX6 176 6 10 := ⟨_, _, _, tyX6, rfl, by decide, List.mem_filter.mpr (by decide +kernel), uw_X6, tyX6_ok, nmX6, rfl, rfl⟩
theorem fw_X7_84 : z_fw RX7 84 7 0 := ⟨_, _, _, tyX7, rfl, by decide, List.mem_filter.mpr (by decide +kernel), uw_X7, tyX7_ok, nmX7, rfl, rfl⟩
theorem fw_X7_88 : z_fw RX7 88 7 1 := ⟨_, _, _, tyX7, rfl, by decide, List.mem_filter.mpr (by decide +kernel), uw_X7, tyX7_ok, nmX7, rfl, rfl⟩
theorem fw_X7_91 : z_fw RX7 91 7 3 := ⟨_, _, _, tyX7, rfl, by decide, List.mem_filter.mpr (by decide +kernel), uw_X7, tyX7_ok, nmX7, rfl, rfl⟩
theorem fw_X7_94 : z_fw RX7 94 7 4 := ⟨_, _, _, tyX7, rfl, by decide, List.mem_filter.mpr (by decide +kernel), uw_X7, tyX7_ok, nmX7, rfl, rfl⟩
theorem fw_X7_97 : z_fw RX7 97 7 12 := ⟨_, _, _, tyX7, rfl, by decide, List.mem_filter.mpr (by decide +kernel), uw_X7, tyX7_ok, nmX7, rfl, rfl⟩
theorem fw_X7_119 : z_fw RX7 119 7 26 := ⟨_, _, _, tyX7, rfl, by decide, List.mem_filter.mpr (by decide +kernel), uw_X7, tyX7_ok, nmX7, rfl, rfl⟩
theorem fw_X7_126 : z_fw RX7 126 7 2 := ⟨_, _, _, tyX7, rfl, by decide, List.mem_filter.mpr (by decide +kernel), uw_X7, tyX7_ok, nmX7, rfl, rfl⟩
theorem fw_X7_175 : z_fw RX7 175 7 31 := ⟨_, _, _, tyX7, rfl, by decide, List.mem_filter.mpr (by decide +kernel), uw_X7, tyX7_ok, nmX7, rfl, rfl⟩
theorem ml_X0_47 : z_ml RX0 47 m_X0_hasCome 0 1 := ⟨fun w h => List.mem_filter.mpr ((by decide +kernel : ∀ w ∈ wsV RX0 47 RX0 yX0_hasCome [.code yX0_hasCome cX0_hasCome 2 (some .boolean)], w ∈ lw_tbl ∧ goodWord w = true) w h), ⟨_, _, rfl⟩, by decide, by decide, by decide +kernel, by decide⟩
theorem ml_X0_51 : z_ml RX0 51 m_X0_chain 0 2 := ⟨fun w h => List.mem_filter.mpr ((by decide +kernel : ∀ w ∈ wsV RX0 51 RX0 yX0_chain [.code yX0_chain cX0_chain 3 none], w ∈ lw_tbl ∧ goodWord w = true) w h), ⟨_, _, rfl⟩, by decide, by decide, by decide +kernel, by decide⟩
theorem ml_X1_25 : z_ml RX1 25 m_X1_clear 1 0 := ⟨fun w h => List.mem_filter.mpr ((by decide +kernel : ∀ w ∈ wsV RX1 25 RX1 yX1_clear [.code yX1_clear cX1_clear 2 none], w ∈ lw_tbl ∧ goodWord w = true) w h), ⟨_, _, rfl⟩, by decide, by decide, by decide +kernel, by decide⟩
theorem ml_X1_28 : z_ml RX1 28 m_X1_reach 1 3 := ⟨fun w h => List.mem_filter.mpr ((by decide +kernel : ∀ w ∈ wsV RX1 28 RX1 yX1_reach [.code yX1_reach cX1_reach 4 none], w ∈ lw_tbl ∧ goodWord w = true) w h), ⟨_, _, rfl⟩, by decide, by decide, by decide +kernel, by decide⟩
theorem ml_X1_36 : z_ml RX1 36 m_X1_spreadFrom 1 4 := ⟨fun w h => List.mem_filter.mpr ((by decide +kernel : ∀ w ∈ wsV RX1 36 RX1 yX1_spreadFrom [.code yX1_spreadFrom cX1_spreadFrom 9 none], w ∈ lw_tbl ∧ goodWord w = true) w h), ⟨_, _, rfl⟩, by decide, by decide, by decide +kernel, by decide⟩
theorem ml_X1_45 : z_ml RX1 45 m_X0_across 0 2 := ⟨fun w h => List.mem_filter.mpr ((by decide +kernel : ∀ w ∈ wsV RX1 45 RX0 yX0_across [.code yX0_across cX0_across 3 (some .int)], w ∈ lw_tbl ∧ goodWord w = true) w h), ⟨_, _, rfl⟩, by decide, by decide, by decide +kernel, by decide⟩
theorem ml_X2_44 : z_ml RX2 44 m_X2_walkFrom 2 2 := ⟨fun w h => List.mem_filter.mpr ((by decide +kernel : ∀ w ∈ wsV RX2 44 RX2 yX2_walkFrom [.code yX2_walkFrom cX2_walkFrom 6 none], w ∈ lw_tbl ∧ goodWord w = true) w h), ⟨_, _, rfl⟩, by decide, by decide, by decide +kernel, by decide⟩
theorem ml_X2_53 : z_ml RX2 53 m_X2_isBridgeTo 2 2 := ⟨fun w h => List.mem_filter.mpr ((by decide +kernel : ∀ w ∈ wsV RX2 53 RX2 yX2_isBridgeTo [.code yX2_isBridgeTo cX2_isBridgeTo 3 (some .boolean)], w ∈ lw_tbl ∧ goodWord w = true) w h), ⟨_, _, rfl⟩, by decide, by decide, by decide +kernel, by decide⟩
theorem ml_X2_63 : z_ml RX2 63 m_X2_enter 2 3 := ⟨fun w h => List.mem_filter.mpr ((by decide +kernel : ∀ w ∈ wsV RX2 63 RX2 yX2_enter [.code yX2_enter cX2_enter 4 none], w ∈ lw_tbl ∧ goodWord w = true) w h), ⟨_, _, rfl⟩, by decide, by decide, by decide +kernel, by decide⟩
theorem ml_X2_67 : z_ml RX2 67 m_X2_leave 2 2 := ⟨fun w h => List.mem_filter.mpr ((by decide +kernel : ∀ w ∈ wsV RX2 67 RX2 yX2_leave [.code yX2_leave cX2_leave 4 (some .int)], w ∈ lw_tbl ∧ goodWord w = true) w h), ⟨_, _, rfl⟩, by decide, by decide, by decide +kernel, by decide⟩
theorem ml_X2_72 : z_ml RX2 72 m_X2_follow 2 3 := ⟨fun w h => List.mem_filter.mpr ((by decide +kernel : ∀ w ∈ wsV RX2 72 RX2 yX2_follow [.code yX2_follow cX2_follow 5 (some .int)], w ∈ lw_tbl ∧ goodWord w = true) w h), ⟨_, _, rfl⟩, by decide, by decide, by decide +kernel, by decide⟩
theorem ml_X2_76 : z_ml RX2 76 m_X2_markCutKnot 2 1 := ⟨fun w h => List.mem_filter.mpr ((by decide +kernel : ∀ w ∈ wsV RX2 76 RX2 yX2_markCutKnot [.code yX2_markCutKnot cX2_markCutKnot 2 none], w ∈ lw_tbl ∧ goodWord w = true) w h), ⟨_, _, rfl⟩, by decide, by decide, by decide +kernel, by decide⟩
theorem ml_X2_83 : z_ml RX2 83 m_X0_isThere 0 1 := ⟨fun w h => List.mem_filter.mpr ((by decide +kernel : ∀ w ∈ wsV RX2 83 RX0 yX0_isThere [.code yX0_isThere cX0_isThere 2 (some .boolean)], w ∈ lw_tbl ∧ goodWord w = true) w h), ⟨_, _, rfl⟩, by decide, by decide, by decide +kernel, by decide⟩
theorem ml_X2_87 : z_ml RX2 87 m_X0_across 0 2 := ⟨fun w h => List.mem_filter.mpr ((by decide +kernel : ∀ w ∈ wsV RX2 87 RX0 yX0_across [.code yX0_across cX0_across 3 (some .int)], w ∈ lw_tbl ∧ goodWord w = true) w h), ⟨_, _, rfl⟩, by decide, by decide, by decide +kernel, by decide⟩
theorem ml_X5_34 : z_ml RX5 34 m_X1_before 1 2 := ⟨fun w h => List.mem_filter.mpr ((by decide +kernel : ∀ w ∈ wsV RX5 34 RX1 yX1_before [.code yX1_before cX1_before 3 (some .int)], w ∈ lw_tbl ∧ goodWord w = true) w h), ⟨_, _, rfl⟩, by decide, by decide, by decide +kernel, by decide⟩
theorem ml_X5_38 : z_ml RX5 38 m_X0_isHeavier 0 2 := ⟨fun w h => List.mem_filter.mpr ((by decide +kernel : ∀ w ∈ wsV RX5 38 RX0 yX0_isHeavier [.code yX0_isHeavier cX0_isHeavier 3 (some .boolean)], w ∈ lw_tbl ∧ goodWord w = true) w h), ⟨_, _, rfl⟩, by decide, by decide, by decide +kernel, by decide⟩
theorem ml_X6_72 : z_ml RX6 72 m_X3_forget 3 0 := ⟨fun w h => List.mem_filter.mpr ((by decide +kernel : ∀ w ∈ wsV RX6 72 RX3 yX3_forget [.code yX3_forget cX3_forget 1 none], w ∈ lw_tbl ∧ goodWord w = true) w h), ⟨_, _, rfl⟩, by decide, by decide, by decide +kernel, by decide⟩
theorem ml_X6_78 : z_ml RX6 78 m_X6_isKnot 6 1 := ⟨fun w h => List.mem_filter.mpr ((by decide +kernel : ∀ w ∈ wsV RX6 78 RX6 yX6_isKnot [.code yX6_isKnot cX6_isKnot 2 (some .boolean)], w ∈ lw_tbl ∧ goodWord w = true) w h), ⟨_, _, rfl⟩, by decide, by decide, by decide +kernel, by decide⟩
theorem ml_X6_82 : z_ml RX6 82 m_X6_layTrack 6 2 := ⟨fun w h => List.mem_filter.mpr ((by decide +kernel : ∀ w ∈ wsV RX6 82 RX6 yX6_layTrack [.code yX6_layTrack cX6_layTrack 3 (some .int)], w ∈ lw_tbl ∧ goodWord w = true) w h), ⟨_, _, rfl⟩, by decide, by decide, by decide +kernel, by decide⟩
theorem ml_X6_86 : z_ml RX6 86 m_X0_append 0 4 := ⟨fun w h => List.mem_filter.mpr ((by decide +kernel : ∀ w ∈ wsV RX6 86 RX0 yX0_append [.code yX0_append cX0_append 7 (some .int)], w ∈ lw_tbl ∧ goodWord w = true) w h), ⟨_, _, rfl⟩, by decide, by decide, by decide +kernel, by decide⟩
theorem ml_X6_90 : z_ml RX6 90 m_X6_displaceHeavier 6 1 := ⟨fun w h => List.mem_filter.mpr ((by decide +kernel : ∀ w ∈ wsV RX6 90 RX6 yX6_displaceHeavier [.code yX6_displaceHeavier cX6_displaceHeavier 3 (some .int)], w ∈ lw_tbl ∧ goodWord w = true) w h), ⟨_, _, rfl⟩, by decide, by decide, by decide +kernel, by decide⟩
theorem ml_X6_94 : z_ml RX6 94 m_X3_note 3 4 := ⟨fun w h => List.mem_filter.mpr ((by decide +kernel : ∀ w ∈ wsV RX6 94 RX3 yX3_note [.code yX3_note cX3_note 7 none], w ∈ lw_tbl ∧ goodWord w = true) w h), ⟨_, _, rfl⟩, by decide, by decide, by decide +kernel, by decide⟩
theorem ml_X6_98 : z_ml RX6 98 m_X0_isThere 0 1 := ⟨fun w h => List.mem_filter.mpr ((by decide +kernel : ∀ w ∈ wsV RX6 98 RX0 yX0_isThere [.code yX0_isThere cX0_isThere 2 (some .boolean)], w ∈ lw_tbl ∧ goodWord w = true) w h), ⟨_, _, rfl⟩, by decide, by decide, by decide +kernel, by decide⟩
theorem ml_X6_107 : z_ml RX6 107 m_X6_findHeir 6 2 := ⟨fun w h => List.mem_filter.mpr ((by decide +kernel : ∀ w ∈ wsV RX6 107 RX6 yX6_findHeir [.code yX6_findHeir cX6_findHeir 3 (some .int)], w ∈ lw_tbl ∧ goodWord w = true) w h), ⟨_, _, rfl⟩, by decide, by decide, by decide +kernel, by decide⟩
theorem ml_X6_111 : z_ml RX6 111 m_X0_hasCome 0 1 := ⟨fun w h => List.mem_filter.mpr ((by decide +kernel : ∀ w ∈ wsV RX6 111 RX0 yX0_hasCome [.code yX0_hasCome cX0_hasCome 2 (some .boolean)], w ∈ lw_tbl ∧ goodWord w = true) w h), ⟨_, _, rfl⟩, by decide, by decide, by decide +kernel, by decide⟩
theorem ml_X6_123 : z_ml RX6 123 m_X2_find 2 2 := ⟨fun w h => List.mem_filter.mpr ((by decide +kernel : ∀ w ∈ wsV RX6 123 RX2 yX2_find [.code yX2_find cX2_find 4 none], w ∈ lw_tbl ∧ goodWord w = true) w h), ⟨_, _, rfl⟩, by decide, by decide, by decide +kernel, by decide⟩
theorem ml_X6_127 : z_ml RX6 127 m_X2_isBridge 2 2 := ⟨fun w h => List.mem_filter.mpr ((by decide +kernel : ∀ w ∈ wsV RX6 127 RX2 yX2_isBridge [.code yX2_isBridge cX2_isBridge 3 (some .boolean)], w ∈ lw_tbl ∧ goodWord w = true) w h), ⟨_, _, rfl⟩, by decide, by decide, by decide +kernel, by decide⟩
theorem ml_X6_136 : z_ml RX6 136 m_X0_howMany 0 1 := ⟨fun w h => List.mem_filter.mpr ((by decide +kernel : ∀ w ∈ wsV RX6 136 RX0 yX0_howMany [.code yX0_howMany cX0_howMany 4 (some .int)], w ∈ lw_tbl ∧ goodWord w = true) w h), ⟨_, _, rfl⟩, by decide, by decide, by decide +kernel, by decide⟩
theorem ml_X6_148 : z_ml RX6 148 m_X6_floodPart 6 1 := ⟨fun w h => List.mem_filter.mpr ((by decide +kernel : ∀ w ∈ wsV RX6 148 RX6 yX6_floodPart [.code yX6_floodPart cX6_floodPart 2 none], w ∈ lw_tbl ∧ goodWord w = true) w h), ⟨_, _, rfl⟩, by decide, by decide, by decide +kernel, by decide⟩
theorem ml_X6_159 : z_ml RX6 159 m_X5_heaviestOf 5 1 := ⟨fun w h => List.mem_filter.mpr ((by decide +kernel : ∀ w ∈ wsV RX6 159 RX5 yX5_heaviestOf [.code yX5_heaviestOf cX5_heaviestOf 4 (some .int)], w ∈ lw_tbl ∧ goodWord w = true) w h), ⟨_, _, rfl⟩, by decide, by decide, by decide +kernel, by decide⟩
theorem ml_X6_169 : z_ml RX6 169 m_X6_addOnTrack 6 1 := ⟨fun w h => List.mem_filter.mpr ((by decide +kernel : ∀ w ∈ wsV RX6 169 RX6 yX6_addOnTrack [.code yX6_addOnTrack cX6_addOnTrack 4 (some .int)], w ∈ lw_tbl ∧ goodWord w = true) w h), ⟨_, _, rfl⟩, by decide, by decide, by decide +kernel, by decide⟩
theorem ml_X6_173 : z_ml RX6 173 m_X6_findRoot 6 1 := ⟨fun w h => List.mem_filter.mpr ((by decide +kernel : ∀ w ∈ wsV RX6 173 RX6 yX6_findRoot [.code yX6_findRoot cX6_findRoot 5 (some .int)], w ∈ lw_tbl ∧ goodWord w = true) w h), ⟨_, _, rfl⟩, by decide, by decide, by decide +kernel, by decide⟩
theorem ml_X6_179 : z_ml RX6 179 m_X6_floodFromRoot 6 1 := ⟨fun w h => List.mem_filter.mpr ((by decide +kernel : ∀ w ∈ wsV RX6 179 RX6 yX6_floodFromRoot [.code yX6_floodFromRoot cX6_floodFromRoot 2 none], w ∈ lw_tbl ∧ goodWord w = true) w h), ⟨_, _, rfl⟩, by decide, by decide, by decide +kernel, by decide⟩
theorem ml_X6_182 : z_ml RX6 182 m_X1_before 1 2 := ⟨fun w h => List.mem_filter.mpr ((by decide +kernel : ∀ w ∈ wsV RX6 182 RX1 yX1_before [.code yX1_before cX1_before 3 (some .int)], w ∈ lw_tbl ∧ goodWord w = true) w h), ⟨_, _, rfl⟩, by decide, by decide, by decide +kernel, by decide⟩
theorem ml_X6_189 : z_ml RX6 189 m_X6_floodBelow 6 1 := ⟨fun w h => List.mem_filter.mpr ((by decide +kernel : ∀ w ∈ wsV RX6 189 RX6 yX6_floodBelow [.code yX6_floodBelow cX6_floodBelow 2 none], w ∈ lw_tbl ∧ goodWord w = true) w h), ⟨_, _, rfl⟩, by decide, by decide, by decide +kernel, by decide⟩
theorem ml_X6_198 : z_ml RX6 198 m_X6_addOnFlood 6 1 := ⟨fun w h => List.mem_filter.mpr ((by decide +kernel : ∀ w ∈ wsV RX6 198 RX6 yX6_addOnFlood [.code yX6_addOnFlood cX6_addOnFlood 4 (some .int)], w ∈ lw_tbl ∧ goodWord w = true) w h), ⟨_, _, rfl⟩, by decide, by decide, by decide +kernel, by decide⟩
theorem ml_X6_201 : z_ml RX6 201 m_X3_takeLatest 3 0 := ⟨fun w h => List.mem_filter.mpr ((by decide +kernel : ∀ w ∈ wsV RX6 201 RX3 yX3_takeLatest [.code yX3_takeLatest cX3_takeLatest 1 (some .int)], w ∈ lw_tbl ∧ goodWord w = true) w h), ⟨_, _, rfl⟩, by decide, by decide, by decide +kernel, by decide⟩
theorem ml_X6_217 : z_ml RX6 217 m_X6_takeBack 6 4 := ⟨fun w h => List.mem_filter.mpr ((by decide +kernel : ∀ w ∈ wsV RX6 217 RX6 yX6_takeBack [.code yX6_takeBack cX6_takeBack 6 none], w ∈ lw_tbl ∧ goodWord w = true) w h), ⟨_, _, rfl⟩, by decide, by decide, by decide +kernel, by decide⟩
theorem ml_X6_220 : z_ml RX6 220 m_X6_isTray 6 1 := ⟨fun w h => List.mem_filter.mpr ((by decide +kernel : ∀ w ∈ wsV RX6 220 RX6 yX6_isTray [.code yX6_isTray cX6_isTray 2 (some .boolean)], w ∈ lw_tbl ∧ goodWord w = true) w h), ⟨_, _, rfl⟩, by decide, by decide, by decide +kernel, by decide⟩
theorem ml_X6_223 : z_ml RX6 223 m_X6_canPut 6 3 := ⟨fun w h => List.mem_filter.mpr ((by decide +kernel : ∀ w ∈ wsV RX6 223 RX6 yX6_canPut [.code yX6_canPut cX6_canPut 4 (some .boolean)], w ∈ lw_tbl ∧ goodWord w = true) w h), ⟨_, _, rfl⟩, by decide, by decide, by decide +kernel, by decide⟩
theorem ml_X6_227 : z_ml RX6 227 m_X6_refuse 6 1 := ⟨fun w h => List.mem_filter.mpr ((by decide +kernel : ∀ w ∈ wsV RX6 227 RX6 yX6_refuse [.code yX6_refuse cX6_refuse 2 (some .int)], w ∈ lw_tbl ∧ goodWord w = true) w h), ⟨_, _, rfl⟩, by decide, by decide, by decide +kernel, by decide⟩
theorem ml_X6_230 : z_ml RX6 230 m_X4_begin 4 1 := ⟨fun w h => List.mem_filter.mpr ((by decide +kernel : ∀ w ∈ wsV RX6 230 RX4 yX4_begin [.code yX4_begin cX4_begin 2 none], w ∈ lw_tbl ∧ goodWord w = true) w h), ⟨_, _, rfl⟩, by decide, by decide, by decide +kernel, by decide⟩
theorem ml_X6_233 : z_ml RX6 233 m_X4_lay 4 1 := ⟨fun w h => List.mem_filter.mpr ((by decide +kernel : ∀ w ∈ wsV RX6 233 RX4 yX4_lay [.code yX4_lay cX4_lay 3 none], w ∈ lw_tbl ∧ goodWord w = true) w h), ⟨_, _, rfl⟩, by decide, by decide, by decide +kernel, by decide⟩
theorem ml_X6_237 : z_ml RX6 237 m_X6_putKnots 6 2 := ⟨fun w h => List.mem_filter.mpr ((by decide +kernel : ∀ w ∈ wsV RX6 237 RX6 yX6_putKnots [.code yX6_putKnots cX6_putKnots 4 none], w ∈ lw_tbl ∧ goodWord w = true) w h), ⟨_, _, rfl⟩, by decide, by decide, by decide +kernel, by decide⟩
theorem ml_X6_241 : z_ml RX6 241 m_X6_putWeights 6 3 := ⟨fun w h => List.mem_filter.mpr ((by decide +kernel : ∀ w ∈ wsV RX6 241 RX6 yX6_putWeights [.code yX6_putWeights cX6_putWeights 6 none], w ∈ lw_tbl ∧ goodWord w = true) w h), ⟨_, _, rfl⟩, by decide, by decide, by decide +kernel, by decide⟩
theorem ml_X6_245 : z_ml RX6 245 m_X6_putTruths 6 2 := ⟨fun w h => List.mem_filter.mpr ((by decide +kernel : ∀ w ∈ wsV RX6 245 RX6 yX6_putTruths [.code yX6_putTruths cX6_putTruths 4 none], w ∈ lw_tbl ∧ goodWord w = true) w h), ⟨_, _, rfl⟩, by decide, by decide, by decide +kernel, by decide⟩
theorem ml_X6_248 : z_ml RX6 248 m_X6_pick 6 3 := ⟨fun w h => List.mem_filter.mpr ((by decide +kernel : ∀ w ∈ wsV RX6 248 RX6 yX6_pick [.code yX6_pick cX6_pick 5 (some .int)], w ∈ lw_tbl ∧ goodWord w = true) w h), ⟨_, _, rfl⟩, by decide, by decide, by decide +kernel, by decide⟩
theorem ml_X6_252 : z_ml RX6 252 m_X6_countLike 6 2 := ⟨fun w h => List.mem_filter.mpr ((by decide +kernel : ∀ w ∈ wsV RX6 252 RX6 yX6_countLike [.code yX6_countLike cX6_countLike 6 (some .int)], w ∈ lw_tbl ∧ goodWord w = true) w h), ⟨_, _, rfl⟩, by decide, by decide, by decide +kernel, by decide⟩
theorem ml_X6_256 : z_ml RX6 256 m_X6_grant 6 1 := ⟨fun w h => List.mem_filter.mpr ((by decide +kernel : ∀ w ∈ wsV RX6 256 RX6 yX6_grant [.code yX6_grant cX6_grant 2 (some .int)], w ∈ lw_tbl ∧ goodWord w = true) w h), ⟨_, _, rfl⟩, by decide, by decide, by decide +kernel, by decide⟩
theorem ml_X6_259 : z_ml RX6 259 m_X6_sumOfCopy 6 2 := ⟨fun w h => List.mem_filter.mpr ((by decide +kernel : ∀ w ∈ wsV RX6 259 RX6 yX6_sumOfCopy [.code yX6_sumOfCopy cX6_sumOfCopy 6 (some .int)], w ∈ lw_tbl ∧ goodWord w = true) w h), ⟨_, _, rfl⟩, by decide, by decide, by decide +kernel, by decide⟩
theorem ml_X6_262 : z_ml RX6 262 m_X6_layIntoRows 6 1 := ⟨fun w h => List.mem_filter.mpr ((by decide +kernel : ∀ w ∈ wsV RX6 262 RX6 yX6_layIntoRows [.code yX6_layIntoRows cX6_layIntoRows 2 (some .int)], w ∈ lw_tbl ∧ goodWord w = true) w h), ⟨_, _, rfl⟩, by decide, by decide, by decide +kernel, by decide⟩
theorem ml_X6_266 : z_ml RX6 266 m_X5_lay 5 3 := ⟨fun w h => List.mem_filter.mpr ((by decide +kernel : ∀ w ∈ wsV RX6 266 RX5 yX5_lay [.code yX5_lay cX5_lay 6 none], w ∈ lw_tbl ∧ goodWord w = true) w h), ⟨_, _, rfl⟩, by decide, by decide, by decide +kernel, by decide⟩
theorem ml_X6_270 : z_ml RX6 270 m_X1_spread 1 4 := ⟨fun w h => List.mem_filter.mpr ((by decide +kernel : ∀ w ∈ wsV RX6 270 RX1 yX1_spread [.code yX1_spread cX1_spread 6 none], w ∈ lw_tbl ∧ goodWord w = true) w h), ⟨_, _, rfl⟩, by decide, by decide, by decide +kernel, by decide⟩
theorem ml_X6_277 : z_ml RX6 277 m_X0_isHeavier 0 2 := ⟨fun w h => List.mem_filter.mpr ((by decide +kernel : ∀ w ∈ wsV RX6 277 RX0 yX0_isHeavier [.code yX0_isHeavier cX0_isHeavier 3 (some .boolean)], w ∈ lw_tbl ∧ goodWord w = true) w h), ⟨_, _, rfl⟩, by decide, by decide, by decide +kernel, by decide⟩
theorem ml_X6_281 : z_ml RX6 281 m_X6_findHeirByLevels 6 2 := ⟨fun w h => List.mem_filter.mpr ((by decide +kernel : ∀ w ∈ wsV RX6 281 RX6 yX6_findHeirByLevels [.code yX6_findHeirByLevels cX6_findHeirByLevels 6 (some .int)], w ∈ lw_tbl ∧ goodWord w = true) w h), ⟨_, _, rfl⟩, by decide, by decide, by decide +kernel, by decide⟩
theorem ml_X6_284 : z_ml RX6 284 m_X6_findLightestAcross 6 1 := ⟨fun w h => List.mem_filter.mpr ((by decide +kernel : ∀ w ∈ wsV RX6 284 RX6 yX6_findLightestAcross [.code yX6_findLightestAcross cX6_findLightestAcross 4 (some .int)], w ∈ lw_tbl ∧ goodWord w = true) w h), ⟨_, _, rfl⟩, by decide, by decide, by decide +kernel, by decide⟩
theorem ml_X6_287 : z_ml RX6 287 m_X6_floodSmaller 6 2 := ⟨fun w h => List.mem_filter.mpr ((by decide +kernel : ∀ w ∈ wsV RX6 287 RX6 yX6_floodSmaller [.code yX6_floodSmaller cX6_floodSmaller 3 (some (.object "ForestKeeper$Flood"))], w ∈ lw_tbl ∧ goodWord w = true) w h), ⟨_, _, rfl⟩, by decide, by decide, by decide +kernel, by decide⟩
theorem ml_X6_291 : z_ml RX6 291 m_X6_raiseTrees 6 2 := ⟨fun w h => List.mem_filter.mpr ((by decide +kernel : ∀ w ∈ wsV RX6 291 RX6 yX6_raiseTrees [.code yX6_raiseTrees cX6_raiseTrees 4 none], w ∈ lw_tbl ∧ goodWord w = true) w h), ⟨_, _, rfl⟩, by decide, by decide, by decide +kernel, by decide⟩
theorem ml_X6_295 : z_ml RX6 295 m_X6_findHeirAt 6 3 := ⟨fun w h => List.mem_filter.mpr ((by decide +kernel : ∀ w ∈ wsV RX6 295 RX6 yX6_findHeirAt [.code yX6_findHeirAt cX6_findHeirAt 6 (some .int)], w ∈ lw_tbl ∧ goodWord w = true) w h), ⟨_, _, rfl⟩, by decide, by decide, by decide +kernel, by decide⟩
theorem ml_X6_299 : z_ml RX6 299 m_X0_isAt 0 3 := ⟨fun w h => List.mem_filter.mpr ((by decide +kernel : ∀ w ∈ wsV RX6 299 RX0 yX0_isAt [.code yX0_isAt cX0_isAt 4 (some .boolean)], w ∈ lw_tbl ∧ goodWord w = true) w h), ⟨_, _, rfl⟩, by decide, by decide, by decide +kernel, by decide⟩
theorem ml_X6_302 : z_ml RX6 302 m_X1_endsOf 1 2 := ⟨fun w h => List.mem_filter.mpr ((by decide +kernel : ∀ w ∈ wsV RX6 302 RX1 yX1_endsOf [.code yX1_endsOf cX1_endsOf 3 (some .int)], w ∈ lw_tbl ∧ goodWord w = true) w h), ⟨_, _, rfl⟩, by decide, by decide, by decide +kernel, by decide⟩
theorem ml_X6_305 : z_ml RX6 305 m_X0_raise 0 1 := ⟨fun w h => List.mem_filter.mpr ((by decide +kernel : ∀ w ∈ wsV RX6 305 RX0 yX0_raise [.code yX0_raise cX0_raise 2 none], w ∈ lw_tbl ∧ goodWord w = true) w h), ⟨_, _, rfl⟩, by decide, by decide, by decide +kernel, by decide⟩
theorem ml_X6_308 : z_ml RX6 308 m_X0_dropLatest 0 0 := ⟨fun w h => List.mem_filter.mpr ((by decide +kernel : ∀ w ∈ wsV RX6 308 RX0 yX0_dropLatest [.code yX0_dropLatest cX0_dropLatest 1 none], w ∈ lw_tbl ∧ goodWord w = true) w h), ⟨_, _, rfl⟩, by decide, by decide, by decide +kernel, by decide⟩
theorem ml_X6_311 : z_ml RX6 311 m_X6_takeBackCut 6 4 := ⟨fun w h => List.mem_filter.mpr ((by decide +kernel : ∀ w ∈ wsV RX6 311 RX6 yX6_takeBackCut [.code yX6_takeBackCut cX6_takeBackCut 5 none], w ∈ lw_tbl ∧ goodWord w = true) w h), ⟨_, _, rfl⟩, by decide, by decide, by decide +kernel, by decide⟩
theorem ml_X6_315 : z_ml RX6 315 m_X0_lowerTo 0 1 := ⟨fun w h => List.mem_filter.mpr ((by decide +kernel : ∀ w ∈ wsV RX6 315 RX0 yX0_lowerTo [.code yX0_lowerTo cX0_lowerTo 3 none], w ∈ lw_tbl ∧ goodWord w = true) w h), ⟨_, _, rfl⟩, by decide, by decide, by decide +kernel, by decide⟩
theorem ml_X6_324 : z_ml RX6 324 m_X6_whyNot 6 2 := ⟨fun w h => List.mem_filter.mpr ((by decide +kernel : ∀ w ∈ wsV RX6 324 RX6 yX6_whyNot [.code yX6_whyNot cX6_whyNot 3 (some .int)], w ∈ lw_tbl ∧ goodWord w = true) w h), ⟨_, _, rfl⟩, by decide, by decide, by decide +kernel, by decide⟩
theorem ml_X7_100 : z_ml RX7 100 m_X7_move 7 2 := ⟨fun w h => List.mem_filter.mpr ((by decide +kernel : ∀ w ∈ wsV RX7 100 RX7 yX7_move [.code yX7_move cX7_move 4 none], w ∈ lw_tbl ∧ goodWord w = true) w h), ⟨_, _, rfl⟩, by decide, by decide, by decide +kernel, by decide⟩
theorem ml_X7_104 : z_ml RX7 104 m_X7_keep 7 1 := ⟨fun w h => List.mem_filter.mpr ((by decide +kernel : ∀ w ∈ wsV RX7 104 RX7 yX7_keep [.code yX7_keep cX7_keep 3 none], w ∈ lw_tbl ∧ goodWord w = true) w h), ⟨_, _, rfl⟩, by decide, by decide, by decide +kernel, by decide⟩
theorem ml_X7_108 : z_ml RX7 108 m_X7_back 7 1 := ⟨fun w h => List.mem_filter.mpr ((by decide +kernel : ∀ w ∈ wsV RX7 108 RX7 yX7_back [.code yX7_back cX7_back 3 none], w ∈ lw_tbl ∧ goodWord w = true) w h), ⟨_, _, rfl⟩, by decide, by decide, by decide +kernel, by decide⟩
theorem ml_X7_111 : z_ml RX7 111 m_X7_reach 7 6 := ⟨fun w h => List.mem_filter.mpr ((by decide +kernel : ∀ w ∈ wsV RX7 111 RX7 yX7_reach [.code yX7_reach cX7_reach 12 (some .int)], w ∈ lw_tbl ∧ goodWord w = true) w h), ⟨_, _, rfl⟩, by decide, by decide, by decide +kernel, by decide⟩
theorem ml_X7_115 : z_ml RX7 115 m_X7_part 7 1 := ⟨fun w h => List.mem_filter.mpr ((by decide +kernel : ∀ w ∈ wsV RX7 115 RX7 yX7_part [.code yX7_part cX7_part 2 (some .int)], w ∈ lw_tbl ∧ goodWord w = true) w h), ⟨_, _, rfl⟩, by decide, by decide, by decide +kernel, by decide⟩
theorem ml_X7_122 : z_ml RX7 122 m_X7_isHeavier 7 2 := ⟨fun w h => List.mem_filter.mpr ((by decide +kernel : ∀ w ∈ wsV RX7 122 RX7 yX7_isHeavier [.code yX7_isHeavier cX7_isHeavier 3 (some .boolean)], w ∈ lw_tbl ∧ goodWord w = true) w h), ⟨_, _, rfl⟩, by decide, by decide, by decide +kernel, by decide⟩
theorem ml_X7_129 : z_ml RX7 129 m_X7_isKnot 7 1 := ⟨fun w h => List.mem_filter.mpr ((by decide +kernel : ∀ w ∈ wsV RX7 129 RX7 yX7_isKnot [.code yX7_isKnot cX7_isKnot 2 (some .boolean)], w ∈ lw_tbl ∧ goodWord w = true) w h), ⟨_, _, rfl⟩, by decide, by decide, by decide +kernel, by decide⟩
theorem ml_X7_133 : z_ml RX7 133 m_X7_isTogether 7 2 := ⟨fun w h => List.mem_filter.mpr ((by decide +kernel : ∀ w ∈ wsV RX7 133 RX7 yX7_isTogether [.code yX7_isTogether cX7_isTogether 3 (some .boolean)], w ∈ lw_tbl ∧ goodWord w = true) w h), ⟨_, _, rfl⟩, by decide, by decide, by decide +kernel, by decide⟩
theorem ml_X7_136 : z_ml RX7 136 m_X7_changes 7 0 := ⟨fun w h => List.mem_filter.mpr ((by decide +kernel : ∀ w ∈ wsV RX7 136 RX7 yX7_changes [.code yX7_changes cX7_changes 2 none], w ∈ lw_tbl ∧ goodWord w = true) w h), ⟨_, _, rfl⟩, by decide, by decide, by decide +kernel, by decide⟩
theorem ml_X7_139 : z_ml RX7 139 m_X7_finds 7 2 := ⟨fun w h => List.mem_filter.mpr ((by decide +kernel : ∀ w ∈ wsV RX7 139 RX7 yX7_finds [.code yX7_finds cX7_finds 5 (some .boolean)], w ∈ lw_tbl ∧ goodWord w = true) w h), ⟨_, _, rfl⟩, by decide, by decide, by decide +kernel, by decide⟩
theorem ml_X7_142 : z_ml RX7 142 m_X7_heaviestOfWay 7 0 := ⟨fun w h => List.mem_filter.mpr ((by decide +kernel : ∀ w ∈ wsV RX7 142 RX7 yX7_heaviestOfWay [.code yX7_heaviestOfWay cX7_heaviestOfWay 3 (some .int)], w ∈ lw_tbl ∧ goodWord w = true) w h), ⟨_, _, rfl⟩, by decide, by decide, by decide +kernel, by decide⟩
theorem ml_X7_146 : z_ml RX7 146 m_X7_lightest 7 1 := ⟨fun w h => List.mem_filter.mpr ((by decide +kernel : ∀ w ∈ wsV RX7 146 RX7 yX7_lightest [.code yX7_lightest cX7_lightest 5 (some .int)], w ∈ lw_tbl ∧ goodWord w = true) w h), ⟨_, _, rfl⟩, by decide, by decide, by decide +kernel, by decide⟩
theorem ml_X7_149 : z_ml RX7 149 m_X7_byLevels 7 1 := ⟨fun w h => List.mem_filter.mpr ((by decide +kernel : ∀ w ∈ wsV RX7 149 RX7 yX7_byLevels [.code yX7_byLevels cX7_byLevels 9 (some .int)], w ∈ lw_tbl ∧ goodWord w = true) w h), ⟨_, _, rfl⟩, by decide, by decide, by decide +kernel, by decide⟩
theorem ml_X7_152 : z_ml RX7 152 m_X7_isThere 7 1 := ⟨fun w h => List.mem_filter.mpr ((by decide +kernel : ∀ w ∈ wsV RX7 152 RX7 yX7_isThere [.code yX7_isThere cX7_isThere 2 (some .boolean)], w ∈ lw_tbl ∧ goodWord w = true) w h), ⟨_, _, rfl⟩, by decide, by decide, by decide +kernel, by decide⟩
theorem ml_X7_155 : z_ml RX7 155 m_X7_goes 7 1 := ⟨fun w h => List.mem_filter.mpr ((by decide +kernel : ∀ w ∈ wsV RX7 155 RX7 yX7_goes [.code yX7_goes cX7_goes 3 (some .int)], w ∈ lw_tbl ∧ goodWord w = true) w h), ⟨_, _, rfl⟩, by decide, by decide, by decide +kernel, by decide⟩
theorem ml_X7_158 : z_ml RX7 158 m_X7_isBridge 7 1 := ⟨fun w h => List.mem_filter.mpr ((by decide +kernel : ∀ w ∈ wsV RX7 158 RX7 yX7_isBridge [.code yX7_isBridge cX7_isBridge 2 (some .boolean)], w ∈ lw_tbl ∧ goodWord w = true) w h), ⟨_, _, rfl⟩, by decide, by decide, by decide +kernel, by decide⟩
theorem ml_X7_163 : z_ml RX7 163 m_X7_parts 7 0 := ⟨fun w h => List.mem_filter.mpr ((by decide +kernel : ∀ w ∈ wsV RX7 163 RX7 yX7_parts [.code yX7_parts cX7_parts 5 (some .int)], w ∈ lw_tbl ∧ goodWord w = true) w h), ⟨_, _, rfl⟩, by decide, by decide, by decide +kernel, by decide⟩
theorem ml_X7_166 : z_ml RX7 166 m_X7_isCut 7 1 := ⟨fun w h => List.mem_filter.mpr ((by decide +kernel : ∀ w ∈ wsV RX7 166 RX7 yX7_isCut [.code yX7_isCut cX7_isCut 5 (some .boolean)], w ∈ lw_tbl ∧ goodWord w = true) w h), ⟨_, _, rfl⟩, by decide, by decide, by decide +kernel, by decide⟩
theorem ml_X7_169 : z_ml RX7 169 m_X7_rootOf 7 1 := ⟨fun w h => List.mem_filter.mpr ((by decide +kernel : ∀ w ∈ wsV RX7 169 RX7 yX7_rootOf [.code yX7_rootOf cX7_rootOf 4 (some .int)], w ∈ lw_tbl ∧ goodWord w = true) w h), ⟨_, _, rfl⟩, by decide, by decide, by decide +kernel, by decide⟩
theorem ml_X7_172 : z_ml RX7 172 m_X7_marksBelow 7 1 := ⟨fun w h => List.mem_filter.mpr ((by decide +kernel : ∀ w ∈ wsV RX7 172 RX7 yX7_marksBelow [.code yX7_marksBelow cX7_marksBelow 6 (some .int)], w ∈ lw_tbl ∧ goodWord w = true) w h), ⟨_, _, rfl⟩, by decide, by decide, by decide +kernel, by decide⟩
theorem ml_X7_178 : z_ml RX7 178 m_X7_refused 7 1 := ⟨fun w h => List.mem_filter.mpr ((by decide +kernel : ∀ w ∈ wsV RX7 178 RX7 yX7_refused [.code yX7_refused cX7_refused 2 (some .int)], w ∈ lw_tbl ∧ goodWord w = true) w h), ⟨_, _, rfl⟩, by decide, by decide, by decide +kernel, by decide⟩
theorem ml_X7_181 : z_ml RX7 181 m_X7_done 7 1 := ⟨fun w h => List.mem_filter.mpr ((by decide +kernel : ∀ w ∈ wsV RX7 181 RX7 yX7_done [.code yX7_done cX7_done 2 (some .int)], w ∈ lw_tbl ∧ goodWord w = true) w h), ⟨_, _, rfl⟩, by decide, by decide, by decide +kernel, by decide⟩
theorem ms_X2_28 : z_ms RX2 28 m_J7_fill_53178 2 := ⟨fun w h => List.mem_filter.mpr ((by decide +kernel : ∀ w ∈ va_wsS RX2 28 yJ7_fill_53178 [.code yJ7_fill_53178 cJ7_fill_53178 4 none], w ∈ lw_tbl ∧ goodWord w = true) w h), by decide, by decide, by decide +kernel, by decide⟩
theorem mn_X2_91 : Cond.methodLink RX2 91 Lib.Math.min.name ∈ zgw := List.mem_filter.mpr (by decide +kernel)
theorem mn_X6_163 : Cond.methodLink RX6 163 Lib.MathLoose.min_long.x ∈ zgw := List.mem_filter.mpr (by decide +kernel)
theorem mn_st_i : Cond.static Lib.Math.min.name ∈ zgw := List.mem_filter.mpr (by decide +kernel)
theorem mn_in : Cond.initialized "java/lang/Math" ∈ zgw := List.mem_filter.mpr (by decide +kernel)
theorem mn_cd_i : Cond.code Lib.Math.min.name Lib.Math.min.code 2 (some .int) ∈ zgw := List.mem_filter.mpr (by decide +kernel)
theorem mn_st_l : Cond.static Lib.MathLoose.min_long.x ∈ zgw := List.mem_filter.mpr (by decide +kernel)
theorem mn_cd_l : Cond.code Lib.MathLoose.min_long.x Lib.MathLoose.min_long.code 4 (some .long) ∈ zgw := List.mem_filter.mpr (by decide +kernel)
theorem lc_X6_134 : Jvm.Cond.constantLong RX6 134 (-4611686018427387904) ∈ zgw := List.mem_filter.mpr (by decide +kernel)
theorem lc_X7_161 : Jvm.Cond.constantLong RX7 161 (-4611686018427387904) ∈ zgw := List.mem_filter.mpr (by decide +kernel)
